variable {X : x_X} {l : Launch} {p : Program} {e : Env} {s : State} {m : MethodId} {args : Array Value} {below : List Frame} {meth : Method} {c : Code}
theorem dX10_takesHead_0 : decode cX10_takesHead 0 = .ok (.aload_n 0, 1) := by decide +kernel
theorem dX10_takesHead_1 : decode cX10_takesHead 1 = .ok (.invokevirtual 260, 3) := by decide +kernel
theorem dX10_takesHead_4 : decode cX10_takesHead 4 = .ok (.lookupswitch 81 #[(102, 51), (109, 36), (114, 66)], 36) := by decide +kernel
theorem dX10_takesHead_40 : decode cX10_takesHead 40 = .ok (.aload_n 0, 1) := by decide +kernel
theorem dX10_takesHead_41 : decode cX10_takesHead 41 = .ok (.getfield 65, 3) := by decide +kernel
theorem dX10_takesHead_44 : decode cX10_takesHead 44 = .ok (.iload_n 1, 1) := by decide +kernel
theorem dX10_takesHead_45 : decode cX10_takesHead 45 = .ok (.iconst 2, 1) := by decide +kernel
theorem dX10_takesHead_46 : decode cX10_takesHead 46 = .ok (.iastore, 1) := by decide +kernel
theorem dX10_takesHead_47 : decode cX10_takesHead 47 = .ok (.aload_n 0, 1) := by decide +kernel
theorem dX10_takesHead_48 : decode cX10_takesHead 48 = .ok (.bipush 9, 2) := by decide +kernel
theorem dX10_takesHead_50 : decode cX10_takesHead 50 = .ok (.iconst 4, 1) := by decide +kernel
theorem dX10_takesHead_51 : decode cX10_takesHead 51 = .ok (.invokevirtual 290, 3) := by decide +kernel
theorem dX10_takesHead_54 : decode cX10_takesHead 54 = .ok (.ireturn, 1) := by decide +kernel
theorem dX10_takesHead_55 : decode cX10_takesHead 55 = .ok (.aload_n 0, 1) := by decide +kernel
theorem dX10_takesHead_56 : decode cX10_takesHead 56 = .ok (.getfield 65, 3) := by decide +kernel
theorem dX10_takesHead_59 : decode cX10_takesHead 59 = .ok (.iload_n 1, 1) := by decide +kernel
theorem dX10_takesHead_60 : decode cX10_takesHead 60 = .ok (.iconst 3, 1) := by decide +kernel
theorem dX10_takesHead_61 : decode cX10_takesHead 61 = .ok (.iastore, 1) := by decide +kernel
theorem dX10_takesHead_62 : decode cX10_takesHead 62 = .ok (.aload_n 0, 1) := by decide +kernel
theorem dX10_takesHead_63 : decode cX10_takesHead 63 = .ok (.bipush 13, 2) := by decide +kernel
theorem dX10_takesHead_65 : decode cX10_takesHead 65 = .ok (.iconst 5, 1) := by decide +kernel
theorem dX10_takesHead_66 : decode cX10_takesHead 66 = .ok (.invokevirtual 290, 3) := by decide +kernel
theorem dX10_takesHead_69 : decode cX10_takesHead 69 = .ok (.ireturn, 1) := by decide +kernel
theorem dX10_takesHead_70 : decode cX10_takesHead 70 = .ok (.aload_n 0, 1) := by decide +kernel
theorem dX10_takesHead_71 : decode cX10_takesHead 71 = .ok (.getfield 65, 3) := by decide +kernel
theorem dX10_takesHead_74 : decode cX10_takesHead 74 = .ok (.iload_n 1, 1) := by decide +kernel
theorem dX10_takesHead_75 : decode cX10_takesHead 75 = .ok (.iconst 4, 1) := by decide +kernel
theorem dX10_takesHead_76 : decode cX10_takesHead 76 = .ok (.iastore, 1) := by decide +kernel
theorem dX10_takesHead_77 : decode cX10_takesHead 77 = .ok (.aload_n 0, 1) := by decide +kernel
theorem dX10_takesHead_78 : decode cX10_takesHead 78 = .ok (.bipush 18, 2) := by decide +kernel
theorem dX10_takesHead_80 : decode cX10_takesHead 80 = .ok (.iconst 4, 1) := by decide +kernel
theorem dX10_takesHead_81 : decode cX10_takesHead 81 = .ok (.invokevirtual 290, 3) := by decide +kernel
theorem dX10_takesHead_84 : decode cX10_takesHead 84 = .ok (.ireturn, 1) := by decide +kernel
theorem dX10_takesHead_85 : decode cX10_takesHead 85 = .ok (.aload_n 0, 1) := by decide +kernel
theorem dX10_takesHead_86 : decode cX10_takesHead 86 = .ok (.getfield 65, 3) := by decide +kernel
theorem dX10_takesHead_89 : decode cX10_takesHead 89 = .ok (.iload_n 1, 1) := by decide +kernel
theorem dX10_takesHead_90 : decode cX10_takesHead 90 = .ok (.aload_n 0, 1) := by decide +kernel
theorem dX10_takesHead_91 : decode cX10_takesHead 91 = .ok (.invokevirtual 294, 3) := by decide +kernel
theorem dX10_takesHead_94 : decode cX10_takesHead 94 = .ok (.bipush 112, 2) := by decide +kernel
theorem dX10_takesHead_96 : decode cX10_takesHead 96 = .ok (.if_icmp .ne 7, 3) := by decide +kernel
theorem dX10_takesHead_99 : decode cX10_takesHead 99 = .ok (.iconst 0, 1) := by decide +kernel
theorem dX10_takesHead_100 : decode cX10_takesHead 100 = .ok (.goto 4, 3) := by decide +kernel
theorem dX10_takesHead_103 : decode cX10_takesHead 103 = .ok (.iconst 1, 1) := by decide +kernel
theorem dX10_takesHead_104 : decode cX10_takesHead 104 = .ok (.iastore, 1) := by decide +kernel
theorem dX10_takesHead_105 : decode cX10_takesHead 105 = .ok (.aload_n 0, 1) := by decide +kernel
theorem dX10_takesHead_106 : decode cX10_takesHead 106 = .ok (.getfield 65, 3) := by decide +kernel
theorem dX10_takesHead_109 : decode cX10_takesHead 109 = .ok (.iload_n 1, 1) := by decide +kernel
theorem dX10_takesHead_110 : decode cX10_takesHead 110 = .ok (.iaload, 1) := by decide +kernel
theorem dX10_takesHead_111 : decode cX10_takesHead 111 = .ok (.ifCond .ne 13, 3) := by decide +kernel
theorem dX10_takesHead_114 : decode cX10_takesHead 114 = .ok (.aload_n 0, 1) := by decide +kernel
theorem dX10_takesHead_115 : decode cX10_takesHead 115 = .ok (.iconst 0, 1) := by decide +kernel
theorem dX10_takesHead_116 : decode cX10_takesHead 116 = .ok (.bipush 6, 2) := by decide +kernel
theorem dX10_takesHead_118 : decode cX10_takesHead 118 = .ok (.invokevirtual 290, 3) := by decide +kernel
theorem dX10_takesHead_121 : decode cX10_takesHead 121 = .ok (.goto 10, 3) := by decide +kernel
theorem dX10_takesHead_124 : decode cX10_takesHead 124 = .ok (.aload_n 0, 1) := by decide +kernel
theorem dX10_takesHead_125 : decode cX10_takesHead 125 = .ok (.bipush 6, 2) := by decide +kernel
theorem dX10_takesHead_127 : decode cX10_takesHead 127 = .ok (.iconst 3, 1) := by decide +kernel
theorem dX10_takesHead_128 : decode cX10_takesHead 128 = .ok (.invokevirtual 290, 3) := by decide +kernel
theorem dX10_takesHead_131 : decode cX10_takesHead 131 = .ok (.ireturn, 1) := by decide +kernel
def f_X10_takesHead_J104 (X : x_X) (v20 : Nat) (v21 : Int32) (v22 : Int32) (v23 : Int32) (v24 : Nat) (μ25 : x_M) : Option (Int32 × x_M) :=
  (ck (x_kd X v24 = 20 ∧ x_ix v23 (x_ln X v24)) (lt (x_sI μ25 v24 (v23).toNatClampNeg v22) (fun (μ26 : x_M) => (ck (x_kd X v20 = 10 + 1) (lt (μ26.2.1 v20 18) (fun (v27 : Nat) => (ck ((x_kd X v27 = 20 ∨ x_kd X v27 = 40) ∧ x_ix v21 (x_ln X v27)) (if (μ26.1 v27 (v21).toNatClampNeg) = 0 then (ck (x_kd X v20 = 10 + 1) (bd (f_X10_takesWord X v20 (0 : Int32) (6 : Int32) μ26) (fun (v30 : Int32) (μ31 : x_M) => (ck (v30 = 0 ∨ v30 = 1) (some (v30, μ31)))))) else (ck (x_kd X v20 = 10 + 1) (bd (f_X10_takesWord X v20 (6 : Int32) (3 : Int32) μ26) (fun (v28 : Int32) (μ29 : x_M) => (ck (v28 = 0 ∨ v28 = 1) (some (v28, μ29))))))))))))))
set_option maxRecDepth 100000 in
theorem j_X10_takesHead_J104 (hI : x_I X) (hC : x_C X x_Z0 p (x_rm 4) s m c cX10_takesHead RX10 2 0 0 4) (hr : meth.sig.returnType = (some .boolean)) (hlk : meth.locks = false) (v20 : Nat) (v21 : Int32) (v22 : Int32) (v23 : Int32) (v24 : Nat) (μ25 : x_M) : SM X 2 4 rkI p l e s m args below meth c 104 [(0, vR v20), (1, vI v21)] [vI v22, vI v23, vR v24] μ25 (f_X10_takesHead_J104 X v20 v21 v22 v23 v24 μ25) := by
  unfold f_X10_takesHead_J104
  refine s_iast hC dX10_takesHead_104 ?_
  refine s_ltM (fun μ26 => ?_)
  refine s_aload_n hC 0 dX10_takesHead_105 rfl ?_
  refine s_getR hC xc10 (by decide) rfl qf_X10_65 dX10_takesHead_106 ?_
  refine s_ltR (fun v27 => ?_)
  refine s_iload_n hC 1 dX10_takesHead_109 rfl ?_
  refine s_iald hC dX10_takesHead_110 ?_
  refine s_if_ne hC dX10_takesHead_111 (tgt := 124) (by decide) ?_ ?_
  · refine s_aload_n hC 0 dX10_takesHead_124 rfl ?_
    refine s_bipush hC dX10_takesHead_125 (v := 6) (by decide) ?_
    refine s_iconst hC dX10_takesHead_127 (v := 3) (by decide) ?_
    refine s_callV hC (x := v20) (avs := [vI (6 : Int32), vI (3 : Int32)]) (st := []) (nest := false) xc10 (m_X10_takesWord hI v20 (6 : Int32) (3 : Int32) μ26) dX10_takesHead_128 qm_X10_290 qi_X10_takesWord qs_X10_takesWord qc_X10 qd_X10_takesWord qh_X10_takesWord (by decide) (fun _ => Nat.le_of_ble_eq_true rfl) (Nat.le_of_ble_eq_true rfl) (fun v28 μ29 => ?_)
    exact s_zret hC hr hlk dX10_takesHead_131
  refine s_aload_n hC 0 dX10_takesHead_114 rfl ?_
  refine s_iconst hC dX10_takesHead_115 (v := 0) (by decide) ?_
  refine s_bipush hC dX10_takesHead_116 (v := 6) (by decide) ?_
  refine s_callV hC (x := v20) (avs := [vI (0 : Int32), vI (6 : Int32)]) (st := []) (nest := false) xc10 (m_X10_takesWord hI v20 (0 : Int32) (6 : Int32) μ26) dX10_takesHead_118 qm_X10_290 qi_X10_takesWord qs_X10_takesWord qc_X10 qd_X10_takesWord qh_X10_takesWord (by decide) (fun _ => Nat.le_of_ble_eq_true rfl) (Nat.le_of_ble_eq_true rfl) (fun v30 μ31 => ?_)
  refine s_goto hC dX10_takesHead_121 (tgt := 131) (by decide) ?_
  exact s_zret hC hr hlk dX10_takesHead_131
def f_X10_takesHead (X : x_X) (v0 : Nat) (v1 : Int32) (μ : x_M) : Option (Int32 × x_M) :=
  (ck (x_kd X v0 = 10 + 1) (bd (f_X10_next X v0 μ) (fun (v3 : Int32) (μ4 : x_M) => (x_swo [(102 : Int32), (109 : Int32), (114 : Int32)] [(ck (x_kd X v0 = 10 + 1) (lt (μ4.2.1 v0 18) (fun (v5 : Nat) => (ck (x_kd X v5 = 20 ∧ x_ix v1 (x_ln X v5)) (lt (x_sI μ4 v5 (v1).toNatClampNeg (3 : Int32)) (fun (μ6 : x_M) => (ck (x_kd X v0 = 10 + 1) (bd (f_X10_takesWord X v0 (13 : Int32) (5 : Int32) μ6) (fun (v7 : Int32) (μ8 : x_M) => (ck (v7 = 0 ∨ v7 = 1) (some (v7, μ8)))))))))))), (ck (x_kd X v0 = 10 + 1) (lt (μ4.2.1 v0 18) (fun (v9 : Nat) => (ck (x_kd X v9 = 20 ∧ x_ix v1 (x_ln X v9)) (lt (x_sI μ4 v9 (v1).toNatClampNeg (2 : Int32)) (fun (μ10 : x_M) => (ck (x_kd X v0 = 10 + 1) (bd (f_X10_takesWord X v0 (9 : Int32) (4 : Int32) μ10) (fun (v11 : Int32) (μ12 : x_M) => (ck (v11 = 0 ∨ v11 = 1) (some (v11, μ12)))))))))))), (ck (x_kd X v0 = 10 + 1) (lt (μ4.2.1 v0 18) (fun (v13 : Nat) => (ck (x_kd X v13 = 20 ∧ x_ix v1 (x_ln X v13)) (lt (x_sI μ4 v13 (v1).toNatClampNeg (4 : Int32)) (fun (μ14 : x_M) => (ck (x_kd X v0 = 10 + 1) (bd (f_X10_takesWord X v0 (18 : Int32) (4 : Int32) μ14) (fun (v15 : Int32) (μ16 : x_M) => (ck (v15 = 0 ∨ v15 = 1) (some (v15, μ16))))))))))))] (ck (x_kd X v0 = 10 + 1) (lt (μ4.2.1 v0 18) (fun (v17 : Nat) => (ck (x_kd X v0 = 10 + 1) (bd (f_X10_second X v0 μ4) (fun (v18 : Int32) (μ19 : x_M) => (if v18 = (112 : Int32) then (f_X10_takesHead_J104 X v0 v1 (0 : Int32) v1 v17 μ19) else (f_X10_takesHead_J104 X v0 v1 (1 : Int32) v1 v17 μ19)))))))) v3))))
set_option maxRecDepth 100000 in
theorem m_X10_takesHead (hI : x_I X) (v0 : Nat) (v1 : Int32) (μ : x_M) : x_Met X x_Z0 l yX10_takesHead cX10_takesHead 2 (some .boolean) 4 [vR v0, vI v1] μ rkI (f_X10_takesHead X v0 v1 μ) := by
  refine x_enter hI (by decide +kernel) (Nat.le_of_ble_eq_true rfl) (fun p e s m args below meth c hC hr hlk => ?_)
  unfold f_X10_takesHead
  refine s_lv (lv' := [(0, vR v0), (1, vI v1)]) [0, 1] rfl ?_
  refine s_aload_n hC 0 dX10_takesHead_0 rfl ?_
  refine s_callV hC (x := v0) (avs := []) (st := []) (nest := false) xc10 (m_X10_next hI v0 μ) dX10_takesHead_1 qm_X10_260 qi_X10_next qs_X10_next qc_X10 qd_X10_next qh_X10_next (by decide) (fun _ => Nat.le_of_ble_eq_true rfl) (Nat.le_of_ble_eq_true rfl) (fun v3 μ4 => ?_)
  refine s_lookup hC dX10_takesHead_4 (by decide) [((102 : Int32), 55), ((109 : Int32), 40), ((114 : Int32), 70)] 85 (by decide +kernel) ⟨?_, ?_, ?_, trivial⟩ ?_
  · refine s_aload_n hC 0 dX10_takesHead_55 rfl ?_
    refine s_getR hC xc10 (by decide) rfl qf_X10_65 dX10_takesHead_56 ?_
    refine s_ltR (fun v5 => ?_)
    refine s_iload_n hC 1 dX10_takesHead_59 rfl ?_
    refine s_iconst hC dX10_takesHead_60 (v := 3) (by decide) ?_
    refine s_iast hC dX10_takesHead_61 ?_
    refine s_ltM (fun μ6 => ?_)
    refine s_aload_n hC 0 dX10_takesHead_62 rfl ?_
    refine s_bipush hC dX10_takesHead_63 (v := 13) (by decide) ?_
    refine s_iconst hC dX10_takesHead_65 (v := 5) (by decide) ?_
    refine s_callV hC (x := v0) (avs := [vI (13 : Int32), vI (5 : Int32)]) (st := []) (nest := false) xc10 (m_X10_takesWord hI v0 (13 : Int32) (5 : Int32) μ6) dX10_takesHead_66 qm_X10_290 qi_X10_takesWord qs_X10_takesWord qc_X10 qd_X10_takesWord qh_X10_takesWord (by decide) (fun _ => Nat.le_of_ble_eq_true rfl) (Nat.le_of_ble_eq_true rfl) (fun v7 μ8 => ?_)
    exact s_zret hC hr hlk dX10_takesHead_69
  · refine s_aload_n hC 0 dX10_takesHead_40 rfl ?_
    refine s_getR hC xc10 (by decide) rfl qf_X10_65 dX10_takesHead_41 ?_
    refine s_ltR (fun v9 => ?_)
    refine s_iload_n hC 1 dX10_takesHead_44 rfl ?_
    refine s_iconst hC dX10_takesHead_45 (v := 2) (by decide) ?_
    refine s_iast hC dX10_takesHead_46 ?_
    refine s_ltM (fun μ10 => ?_)
    refine s_aload_n hC 0 dX10_takesHead_47 rfl ?_
    refine s_bipush hC dX10_takesHead_48 (v := 9) (by decide) ?_
    refine s_iconst hC dX10_takesHead_50 (v := 4) (by decide) ?_
    refine s_callV hC (x := v0) (avs := [vI (9 : Int32), vI (4 : Int32)]) (st := []) (nest := false) xc10 (m_X10_takesWord hI v0 (9 : Int32) (4 : Int32) μ10) dX10_takesHead_51 qm_X10_290 qi_X10_takesWord qs_X10_takesWord qc_X10 qd_X10_takesWord qh_X10_takesWord (by decide) (fun _ => Nat.le_of_ble_eq_true rfl) (Nat.le_of_ble_eq_true rfl) (fun v11 μ12 => ?_)
    exact s_zret hC hr hlk dX10_takesHead_54
  · refine s_aload_n hC 0 dX10_takesHead_70 rfl ?_
    refine s_getR hC xc10 (by decide) rfl qf_X10_65 dX10_takesHead_71 ?_
    refine s_ltR (fun v13 => ?_)
    refine s_iload_n hC 1 dX10_takesHead_74 rfl ?_
    refine s_iconst hC dX10_takesHead_75 (v := 4) (by decide) ?_
    refine s_iast hC dX10_takesHead_76 ?_
    refine s_ltM (fun μ14 => ?_)
    refine s_aload_n hC 0 dX10_takesHead_77 rfl ?_
    refine s_bipush hC dX10_takesHead_78 (v := 18) (by decide) ?_
    refine s_iconst hC dX10_takesHead_80 (v := 4) (by decide) ?_
    refine s_callV hC (x := v0) (avs := [vI (18 : Int32), vI (4 : Int32)]) (st := []) (nest := false) xc10 (m_X10_takesWord hI v0 (18 : Int32) (4 : Int32) μ14) dX10_takesHead_81 qm_X10_290 qi_X10_takesWord qs_X10_takesWord qc_X10 qd_X10_takesWord qh_X10_takesWord (by decide) (fun _ => Nat.le_of_ble_eq_true rfl) (Nat.le_of_ble_eq_true rfl) (fun v15 μ16 => ?_)
    exact s_zret hC hr hlk dX10_takesHead_84
  refine s_aload_n hC 0 dX10_takesHead_85 rfl ?_
  refine s_getR hC xc10 (by decide) rfl qf_X10_65 dX10_takesHead_86 ?_
  refine s_ltR (fun v17 => ?_)
  refine s_iload_n hC 1 dX10_takesHead_89 rfl ?_
  refine s_aload_n hC 0 dX10_takesHead_90 rfl ?_
  refine s_callV hC (x := v0) (avs := []) (st := [vI v1, vR v17]) (nest := false) xc10 (m_X10_second hI v0 μ4) dX10_takesHead_91 qm_X10_294 qi_X10_second qs_X10_second qc_X10 qd_X10_second qh_X10_second (by decide) (fun _ => Nat.le_of_ble_eq_true rfl) (Nat.le_of_ble_eq_true rfl) (fun v18 μ19 => ?_)
  refine s_bipush hC dX10_takesHead_94 (v := 112) (by decide) ?_
  refine s_icmp_ne hC dX10_takesHead_96 (tgt := 103) (by decide) ?_ ?_
  · refine s_iconst hC dX10_takesHead_103 (v := 1) (by decide) ?_
    exact j_X10_takesHead_J104 hI hC hr hlk _ _ _ _ _ _
  refine s_iconst hC dX10_takesHead_99 (v := 0) (by decide) ?_
  refine s_goto hC dX10_takesHead_100 (tgt := 104) (by decide) ?_
  exact j_X10_takesHead_J104 hI hC hr hlk _ _ _ _ _ _
theorem dX10_spring_0 : decode cX10_spring 0 = .ok (.aload_n 0, 1) := by decide +kernel
theorem dX10_spring_1 : decode cX10_spring 1 = .ok (.getfield 13, 3) := by decide +kernel
theorem dX10_spring_4 : decode cX10_spring 4 = .ok (.aload_n 0, 1) := by decide +kernel
theorem dX10_spring_5 : decode cX10_spring 5 = .ok (.getfield 108, 3) := by decide +kernel
theorem dX10_spring_8 : decode cX10_spring 8 = .ok (.if_icmp .ne 7, 3) := by decide +kernel
theorem dX10_spring_11 : decode cX10_spring 11 = .ok (.iconst 0, 1) := by decide +kernel
theorem dX10_spring_12 : decode cX10_spring 12 = .ok (.goto 16, 3) := by decide +kernel
theorem dX10_spring_15 : decode cX10_spring 15 = .ok (.iconst 5, 1) := by decide +kernel
theorem dX10_spring_16 : decode cX10_spring 16 = .ok (.aload_n 0, 1) := by decide +kernel
theorem dX10_spring_17 : decode cX10_spring 17 = .ok (.iconst 0, 1) := by decide +kernel
theorem dX10_spring_18 : decode cX10_spring 18 = .ok (.iconst (-1), 1) := by decide +kernel
theorem dX10_spring_19 : decode cX10_spring 19 = .ok (.invokevirtual 334, 3) := by decide +kernel
theorem dX10_spring_22 : decode cX10_spring 22 = .ok (.iadd, 1) := by decide +kernel
theorem dX10_spring_23 : decode cX10_spring 23 = .ok (.aload_n 0, 1) := by decide +kernel
theorem dX10_spring_24 : decode cX10_spring 24 = .ok (.getfield 105, 3) := by decide +kernel
theorem dX10_spring_27 : decode cX10_spring 27 = .ok (.iadd, 1) := by decide +kernel
theorem dX10_spring_28 : decode cX10_spring 28 = .ok (.ireturn, 1) := by decide +kernel
def f_X10_spring (X : x_X) (v0 : Nat) (μ : x_M) : Option (Int32 × x_M) :=
  (ck (x_kd X v0 = 10 + 1) (ck (x_kd X v0 = 10 + 1) (if (μ.1 v0 1) = (μ.1 v0 32) then (some ((0 : Int32), μ)) else (ck (x_kd X v0 = 10 + 1) (bd (f_X10_sumOf X v0 (0 : Int32) (-1 : Int32) μ) (fun (v2 : Int32) (μ3 : x_M) => (ck (x_kd X v0 = 10 + 1) (some ((((5 : Int32) + v2) + (μ3.1 v0 31)), μ3)))))))))
set_option maxRecDepth 100000 in
theorem m_X10_spring (hI : x_I X) (v0 : Nat) (μ : x_M) : x_Met X x_Z0 l yX10_spring cX10_spring 1 (some .int) 4 [vR v0] μ rkI (f_X10_spring X v0 μ) := by
  refine x_enter hI (by decide +kernel) (Nat.le_of_ble_eq_true rfl) (fun p e s m args below meth c hC hr hlk => ?_)
  unfold f_X10_spring
  refine s_lv (lv' := [(0, vR v0)]) [0] rfl ?_
  refine s_aload_n hC 0 dX10_spring_0 rfl ?_
  refine s_getI hC xc10 (by decide) rfl qf_X10_13 dX10_spring_1 ?_
  refine s_aload_n hC 0 dX10_spring_4 rfl ?_
  refine s_getI hC xc10 (by decide) rfl qf_X10_108 dX10_spring_5 ?_
  refine s_icmp_ne hC dX10_spring_8 (tgt := 15) (by decide) ?_ ?_
  · refine s_iconst hC dX10_spring_15 (v := 5) (by decide) ?_
    refine s_aload_n hC 0 dX10_spring_16 rfl ?_
    refine s_iconst hC dX10_spring_17 (v := 0) (by decide) ?_
    refine s_iconst hC dX10_spring_18 (v := -1) (by decide) ?_
    refine s_callV hC (x := v0) (avs := [vI (0 : Int32), vI (-1 : Int32)]) (st := [vI (5 : Int32)]) (nest := false) xc10 (m_X10_sumOf hI v0 (0 : Int32) (-1 : Int32) μ) dX10_spring_19 qm_X10_334 qi_X10_sumOf qs_X10_sumOf qc_X10 qd_X10_sumOf qh_X10_sumOf (by decide) (fun _ => Nat.le_of_ble_eq_true rfl) (Nat.le_of_ble_eq_true rfl) (fun v2 μ3 => ?_)
    refine s_iadd hC dX10_spring_22 ?_
    refine s_aload_n hC 0 dX10_spring_23 rfl ?_
    refine s_getI hC xc10 (by decide) rfl qf_X10_105 dX10_spring_24 ?_
    refine s_iadd hC dX10_spring_27 ?_
    exact s_iret hC hr hlk dX10_spring_28
  refine s_iconst hC dX10_spring_11 (v := 0) (by decide) ?_
  refine s_goto hC dX10_spring_12 (tgt := 28) (by decide) ?_
  exact s_iret hC hr hlk dX10_spring_28
theorem dX10_sunOf_0 : decode cX10_sunOf 0 = .ok (.iload_n 1, 1) := by decide +kernel
theorem dX10_sunOf_1 : decode cX10_sunOf 1 = .ok (.aload_n 0, 1) := by decide +kernel
theorem dX10_sunOf_2 : decode cX10_sunOf 2 = .ok (.getfield 102, 3) := by decide +kernel
theorem dX10_sunOf_5 : decode cX10_sunOf 5 = .ok (.if_icmp .ne 7, 3) := by decide +kernel
theorem dX10_sunOf_8 : decode cX10_sunOf 8 = .ok (.iconst 0, 1) := by decide +kernel
theorem dX10_sunOf_9 : decode cX10_sunOf 9 = .ok (.goto 9, 3) := by decide +kernel
theorem dX10_sunOf_12 : decode cX10_sunOf 12 = .ok (.aload_n 0, 1) := by decide +kernel
theorem dX10_sunOf_13 : decode cX10_sunOf 13 = .ok (.iconst 1, 1) := by decide +kernel
theorem dX10_sunOf_14 : decode cX10_sunOf 14 = .ok (.iload_n 1, 1) := by decide +kernel
theorem dX10_sunOf_15 : decode cX10_sunOf 15 = .ok (.invokevirtual 334, 3) := by decide +kernel
theorem dX10_sunOf_18 : decode cX10_sunOf 18 = .ok (.ireturn, 1) := by decide +kernel
def f_X10_sunOf (X : x_X) (v0 : Nat) (v1 : Int32) (μ : x_M) : Option (Int32 × x_M) :=
  (ck (x_kd X v0 = 10 + 1) (if v1 = (μ.1 v0 30) then (some ((0 : Int32), μ)) else (ck (x_kd X v0 = 10 + 1) (bd (f_X10_sumOf X v0 (1 : Int32) v1 μ) (fun (v3 : Int32) (μ4 : x_M) => (some (v3, μ4)))))))
set_option maxRecDepth 100000 in
theorem m_X10_sunOf (hI : x_I X) (v0 : Nat) (v1 : Int32) (μ : x_M) : x_Met X x_Z0 l yX10_sunOf cX10_sunOf 2 (some .int) 4 [vR v0, vI v1] μ rkI (f_X10_sunOf X v0 v1 μ) := by
  refine x_enter hI (by decide +kernel) (Nat.le_of_ble_eq_true rfl) (fun p e s m args below meth c hC hr hlk => ?_)
  unfold f_X10_sunOf
  refine s_lv (lv' := [(0, vR v0), (1, vI v1)]) [0, 1] rfl ?_
  refine s_iload_n hC 1 dX10_sunOf_0 rfl ?_
  refine s_aload_n hC 0 dX10_sunOf_1 rfl ?_
  refine s_getI hC xc10 (by decide) rfl qf_X10_102 dX10_sunOf_2 ?_
  refine s_icmp_ne hC dX10_sunOf_5 (tgt := 12) (by decide) ?_ ?_
  · refine s_aload_n hC 0 dX10_sunOf_12 rfl ?_
    refine s_iconst hC dX10_sunOf_13 (v := 1) (by decide) ?_
    refine s_iload_n hC 1 dX10_sunOf_14 rfl ?_
    refine s_callV hC (x := v0) (avs := [vI (1 : Int32), vI v1]) (st := []) (nest := false) xc10 (m_X10_sumOf hI v0 (1 : Int32) v1 μ) dX10_sunOf_15 qm_X10_334 qi_X10_sumOf qs_X10_sumOf qc_X10 qd_X10_sumOf qh_X10_sumOf (by decide) (fun _ => Nat.le_of_ble_eq_true rfl) (Nat.le_of_ble_eq_true rfl) (fun v3 μ4 => ?_)
    exact s_iret hC hr hlk dX10_sunOf_18
  refine s_iconst hC dX10_sunOf_8 (v := 0) (by decide) ?_
  refine s_goto hC dX10_sunOf_9 (tgt := 18) (by decide) ?_
  exact s_iret hC hr hlk dX10_sunOf_18
theorem dX10_pours_0 : decode cX10_pours 0 = .ok (.iload_n 2, 1) := by decide +kernel
theorem dX10_pours_1 : decode cX10_pours 1 = .ok (.istore_n 3, 1) := by decide +kernel
theorem dX10_pours_2 : decode cX10_pours 2 = .ok (.iload_n 2, 1) := by decide +kernel
theorem dX10_pours_3 : decode cX10_pours 3 = .ok (.ifCond .ge 46, 3) := by decide +kernel
theorem dX10_pours_6 : decode cX10_pours 6 = .ok (.aload_n 0, 1) := by decide +kernel
theorem dX10_pours_7 : decode cX10_pours 7 = .ok (.getfield 16, 3) := by decide +kernel
theorem dX10_pours_10 : decode cX10_pours 10 = .ok (.aload_n 0, 1) := by decide +kernel
theorem dX10_pours_11 : decode cX10_pours 11 = .ok (.aload_n 0, 1) := by decide +kernel
theorem dX10_pours_12 : decode cX10_pours 12 = .ok (.invokevirtual 346, 3) := by decide +kernel
theorem dX10_pours_15 : decode cX10_pours 15 = .ok (.invokevirtual 249, 3) := by decide +kernel
theorem dX10_pours_18 : decode cX10_pours 18 = .ok (.isub, 1) := by decide +kernel
theorem dX10_pours_19 : decode cX10_pours 19 = .ok (.istore 4, 2) := by decide +kernel
theorem dX10_pours_21 : decode cX10_pours 21 = .ok (.iload 4, 2) := by decide +kernel
theorem dX10_pours_23 : decode cX10_pours 23 = .ok (.ifCond .ge 7, 3) := by decide +kernel
theorem dX10_pours_26 : decode cX10_pours 26 = .ok (.iconst 0, 1) := by decide +kernel
theorem dX10_pours_27 : decode cX10_pours 27 = .ok (.goto 5, 3) := by decide +kernel
theorem dX10_pours_30 : decode cX10_pours 30 = .ok (.iload 4, 2) := by decide +kernel
theorem dX10_pours_32 : decode cX10_pours 32 = .ok (.istore 4, 2) := by decide +kernel
theorem dX10_pours_34 : decode cX10_pours 34 = .ok (.iload_n 2, 1) := by decide +kernel
theorem dX10_pours_35 : decode cX10_pours 35 = .ok (.ineg, 1) := by decide +kernel
theorem dX10_pours_36 : decode cX10_pours 36 = .ok (.iload 4, 2) := by decide +kernel
theorem dX10_pours_38 : decode cX10_pours 38 = .ok (.if_icmp .le 9, 3) := by decide +kernel
theorem dX10_pours_41 : decode cX10_pours 41 = .ok (.iload 4, 2) := by decide +kernel
theorem dX10_pours_43 : decode cX10_pours 43 = .ok (.ineg, 1) := by decide +kernel
theorem dX10_pours_44 : decode cX10_pours 44 = .ok (.goto 4, 3) := by decide +kernel
theorem dX10_pours_47 : decode cX10_pours 47 = .ok (.iload_n 2, 1) := by decide +kernel
theorem dX10_pours_48 : decode cX10_pours 48 = .ok (.istore_n 3, 1) := by decide +kernel
theorem dX10_pours_49 : decode cX10_pours 49 = .ok (.aload_n 0, 1) := by decide +kernel
theorem dX10_pours_50 : decode cX10_pours 50 = .ok (.dup, 1) := by decide +kernel
theorem dX10_pours_51 : decode cX10_pours 51 = .ok (.getfield 16, 3) := by decide +kernel
theorem dX10_pours_54 : decode cX10_pours 54 = .ok (.iload_n 3, 1) := by decide +kernel
theorem dX10_pours_55 : decode cX10_pours 55 = .ok (.iadd, 1) := by decide +kernel
theorem dX10_pours_56 : decode cX10_pours 56 = .ok (.putfield 16, 3) := by decide +kernel
theorem dX10_pours_59 : decode cX10_pours 59 = .ok (.aload_n 0, 1) := by decide +kernel
theorem dX10_pours_60 : decode cX10_pours 60 = .ok (.getfield 32, 3) := by decide +kernel
theorem dX10_pours_63 : decode cX10_pours 63 = .ok (.iload_n 1, 1) := by decide +kernel
theorem dX10_pours_64 : decode cX10_pours 64 = .ok (.dup2, 1) := by decide +kernel
theorem dX10_pours_65 : decode cX10_pours 65 = .ok (.iaload, 1) := by decide +kernel
theorem dX10_pours_66 : decode cX10_pours 66 = .ok (.iload_n 3, 1) := by decide +kernel
theorem dX10_pours_67 : decode cX10_pours 67 = .ok (.iadd, 1) := by decide +kernel
theorem dX10_pours_68 : decode cX10_pours 68 = .ok (.iastore, 1) := by decide +kernel
theorem dX10_pours_69 : decode cX10_pours 69 = .ok (.return_, 1) := by decide +kernel
def f_X10_pours_J49 (X : x_X) (v4 : Nat) (v5 : Int32) (v6 : Int32) (μ7 : x_M) : Option (Unit × x_M) :=
  (ck (x_kd X v4 = 10 + 1) (ck (x_kd X v4 = 10 + 1) (lt (x_sI μ7 v4 2 ((μ7.1 v4 2) + v6)) (fun (μ8 : x_M) => (ck (x_kd X v4 = 10 + 1) (lt (μ8.2.1 v4 7) (fun (v9 : Nat) => (ck ((x_kd X v9 = 20 ∨ x_kd X v9 = 40) ∧ x_ix v5 (x_ln X v9)) (ck (x_kd X v9 = 20 ∧ x_ix v5 (x_ln X v9)) (lt (x_sI μ8 v9 (v5).toNatClampNeg ((μ8.1 v9 (v5).toNatClampNeg) + v6)) (fun (μ10 : x_M) => (some ((), μ10)))))))))))))
set_option maxRecDepth 100000 in
theorem j_X10_pours_J49 (hI : x_I X) (hC : x_C X x_Z0 p (x_rm 4) s m c cX10_pours RX10 5 0 0 4) (hr : meth.sig.returnType = none) (hlk : meth.locks = false) (v4 : Nat) (v5 : Int32) (v6 : Int32) (μ7 : x_M) : SM X 5 4 rkV p l e s m args below meth c 49 [(0, vR v4), (1, vI v5), (3, vI v6)] [] μ7 (f_X10_pours_J49 X v4 v5 v6 μ7) := by
  unfold f_X10_pours_J49
  refine s_aload_n hC 0 dX10_pours_49 rfl ?_
  refine s_dupR hC dX10_pours_50 ?_
  refine s_getI hC xc10 (by decide) rfl qf_X10_16 dX10_pours_51 ?_
  refine s_iload_n hC 2 dX10_pours_54 rfl ?_
  refine s_iadd hC dX10_pours_55 ?_
  refine s_putI hC xc10 (by decide) rfl rfl qf_X10_16 dX10_pours_56 ?_
  refine s_ltM (fun μ8 => ?_)
  refine s_aload_n hC 0 dX10_pours_59 rfl ?_
  refine s_getR hC xc10 (by decide) rfl qf_X10_32 dX10_pours_60 ?_
  refine s_ltR (fun v9 => ?_)
  refine s_iload_n hC 1 dX10_pours_63 rfl ?_
  refine s_dup2 hC dX10_pours_64 ?_
  refine s_iald hC dX10_pours_65 ?_
  refine s_iload_n hC 2 dX10_pours_66 rfl ?_
  refine s_iadd hC dX10_pours_67 ?_
  refine s_iast hC dX10_pours_68 ?_
  refine s_ltM (fun μ10 => ?_)
  exact s_vret hC hr hlk dX10_pours_69
def f_X10_pours_J48 (X : x_X) (v21 : Nat) (v22 : Int32) (v23 : Int32) (μ24 : x_M) : Option (Unit × x_M) :=
  (f_X10_pours_J49 X v21 v22 v23 μ24)
set_option maxRecDepth 100000 in
theorem j_X10_pours_J48 (hI : x_I X) (hC : x_C X x_Z0 p (x_rm 4) s m c cX10_pours RX10 5 0 0 4) (hr : meth.sig.returnType = none) (hlk : meth.locks = false) (v21 : Nat) (v22 : Int32) (v23 : Int32) (μ24 : x_M) : SM X 5 4 rkV p l e s m args below meth c 48 [(0, vR v21), (1, vI v22)] [vI v23] μ24 (f_X10_pours_J48 X v21 v22 v23 μ24) := by
  unfold f_X10_pours_J48
  refine s_istore_n hC dX10_pours_48 (by decide) (lv' := [(3, vI v23), (0, vR v21), (1, vI v22)]) rfl ?_
  refine s_lv (lv' := [(0, vR v21), (1, vI v22), (3, vI v23)]) [1, 2, 0] rfl ?_
  exact j_X10_pours_J49 hI hC hr hlk _ _ _ _
def f_X10_pours_J32 (X : x_X) (v16 : Nat) (v17 : Int32) (v18 : Int32) (v19 : Int32) (μ20 : x_M) : Option (Unit × x_M) :=
  (if (-v18) ≤ v19 then (f_X10_pours_J48 X v16 v17 v18 μ20) else (f_X10_pours_J48 X v16 v17 (-v19) μ20))
set_option maxRecDepth 100000 in
theorem j_X10_pours_J32 (hI : x_I X) (hC : x_C X x_Z0 p (x_rm 4) s m c cX10_pours RX10 5 0 0 4) (hr : meth.sig.returnType = none) (hlk : meth.locks = false) (v16 : Nat) (v17 : Int32) (v18 : Int32) (v19 : Int32) (μ20 : x_M) : SM X 5 4 rkV p l e s m args below meth c 32 [(0, vR v16), (1, vI v17), (2, vI v18)] [vI v19] μ20 (f_X10_pours_J32 X v16 v17 v18 v19 μ20) := by
  unfold f_X10_pours_J32
  refine s_istore hC dX10_pours_32 (by decide) (lv' := [(4, vI v19), (0, vR v16), (1, vI v17), (2, vI v18)]) rfl ?_
  refine s_iload_n hC 3 dX10_pours_34 rfl ?_
  refine s_ineg hC dX10_pours_35 ?_
  refine s_iload hC 0 dX10_pours_36 rfl ?_
  refine s_icmp_le hC dX10_pours_38 (tgt := 47) (by decide) ?_ ?_
  · refine s_iload_n hC 3 dX10_pours_47 rfl ?_
    refine s_lv (lv' := [(0, vR v16), (1, vI v17)]) [1, 2] rfl ?_
    exact j_X10_pours_J48 hI hC hr hlk _ _ _ _
  refine s_iload hC 0 dX10_pours_41 rfl ?_
  refine s_ineg hC dX10_pours_43 ?_
  refine s_goto hC dX10_pours_44 (tgt := 48) (by decide) ?_
  refine s_lv (lv' := [(0, vR v16), (1, vI v17)]) [1, 2] rfl ?_
  exact j_X10_pours_J48 hI hC hr hlk _ _ _ _
def f_X10_pours (X : x_X) (v0 : Nat) (v1 : Int32) (v2 : Int32) (μ : x_M) : Option (Unit × x_M) :=
  (if 0 ≤ v2 then (f_X10_pours_J49 X v0 v1 v2 μ) else (ck (x_kd X v0 = 10 + 1) (ck (x_kd X v0 = 10 + 1) (bd (f_X10_floor X v0 μ) (fun (v11 : Int32) (μ12 : x_M) => (ck (x_kd X v0 = 10 + 1) (bd (f_X10_volumeOf X v0 v11 μ12) (fun (v13 : Int32) (μ14 : x_M) => (lt ((μ.1 v0 2) - v13) (fun (v15 : Int32) => (if 0 ≤ v15 then (f_X10_pours_J32 X v0 v1 v2 v15 μ14) else (f_X10_pours_J32 X v0 v1 v2 (0 : Int32) μ14))))))))))))
set_option maxRecDepth 100000 in
theorem m_X10_pours (hI : x_I X) (v0 : Nat) (v1 : Int32) (v2 : Int32) (μ : x_M) : x_Met X x_Z0 l yX10_pours cX10_pours 5 none 4 [vR v0, vI v1, vI v2] μ rkV (f_X10_pours X v0 v1 v2 μ) := by
  refine x_enter hI (by decide +kernel) (Nat.le_of_ble_eq_true rfl) (fun p e s m args below meth c hC hr hlk => ?_)
  unfold f_X10_pours
  refine s_lv (lv' := [(0, vR v0), (1, vI v1), (2, vI v2)]) [0, 1, 2] rfl ?_
  refine s_iload_n hC 2 dX10_pours_0 rfl ?_
  refine s_istore_n hC dX10_pours_1 (by decide) (lv' := [(3, vI v2), (0, vR v0), (1, vI v1), (2, vI v2)]) rfl ?_
  refine s_iload_n hC 3 dX10_pours_2 rfl ?_
  refine s_if_ge hC dX10_pours_3 (tgt := 49) (by decide) ?_ ?_
  · refine s_lv (lv' := [(0, vR v0), (1, vI v1), (3, vI v2)]) [1, 2, 0] rfl ?_
    exact j_X10_pours_J49 hI hC hr hlk _ _ _ _
  refine s_aload_n hC 1 dX10_pours_6 rfl ?_
  refine s_getI hC xc10 (by decide) rfl qf_X10_16 dX10_pours_7 ?_
  refine s_aload_n hC 1 dX10_pours_10 rfl ?_
  refine s_aload_n hC 1 dX10_pours_11 rfl ?_
  refine s_callV hC (x := v0) (avs := []) (st := [vR v0, vI (μ.1 v0 2)]) (nest := false) xc10 (m_X10_floor hI v0 μ) dX10_pours_12 qm_X10_346 qi_X10_floor qs_X10_floor qc_X10 qd_X10_floor qh_X10_floor (by decide) (fun _ => Nat.le_of_ble_eq_true rfl) (Nat.le_of_ble_eq_true rfl) (fun v11 μ12 => ?_)
  refine s_callV hC (x := v0) (avs := [vI v11]) (st := [vI (μ.1 v0 2)]) (nest := false) xc10 (m_X10_volumeOf hI v0 v11 μ12) dX10_pours_15 qm_X10_249 qi_X10_volumeOf qs_X10_volumeOf qc_X10 qd_X10_volumeOf qh_X10_volumeOf (by decide) (fun _ => Nat.le_of_ble_eq_true rfl) (Nat.le_of_ble_eq_true rfl) (fun v13 μ14 => ?_)
  refine s_isub hC dX10_pours_18 ?_
  refine s_ltI (fun v15 => ?_)
  refine s_istore hC dX10_pours_19 (by decide) (lv' := [(4, vI v15), (3, vI v2), (0, vR v0), (1, vI v1), (2, vI v2)]) rfl ?_
  refine s_iload hC 0 dX10_pours_21 rfl ?_
  refine s_if_ge hC dX10_pours_23 (tgt := 30) (by decide) ?_ ?_
  · refine s_iload hC 0 dX10_pours_30 rfl ?_
    refine s_lv (lv' := [(0, vR v0), (1, vI v1), (2, vI v2)]) [2, 3, 4] rfl ?_
    exact j_X10_pours_J32 hI hC hr hlk _ _ _ _ _
  refine s_iconst hC dX10_pours_26 (v := 0) (by decide) ?_
  refine s_goto hC dX10_pours_27 (tgt := 32) (by decide) ?_
  refine s_lv (lv' := [(0, vR v0), (1, vI v1), (2, vI v2)]) [2, 3, 4] rfl ?_
  exact j_X10_pours_J32 hI hC hr hlk _ _ _ _ _
theorem dX10_accountPours_0 : decode cX10_accountPours 0 = .ok (.aload_n 0, 1) := by decide +kernel
theorem dX10_accountPours_1 : decode cX10_accountPours 1 = .ok (.bipush 11, 2) := by decide +kernel
theorem dX10_accountPours_3 : decode cX10_accountPours 3 = .ok (.invokevirtual 401, 3) := by decide +kernel
theorem dX10_accountPours_6 : decode cX10_accountPours 6 = .ok (.aload_n 0, 1) := by decide +kernel
theorem dX10_accountPours_7 : decode cX10_accountPours 7 = .ok (.iload_n 1, 1) := by decide +kernel
theorem dX10_accountPours_8 : decode cX10_accountPours 8 = .ok (.iload_n 2, 1) := by decide +kernel
theorem dX10_accountPours_9 : decode cX10_accountPours 9 = .ok (.invokevirtual 407, 3) := by decide +kernel
theorem dX10_accountPours_12 : decode cX10_accountPours 12 = .ok (.aload_n 0, 1) := by decide +kernel
theorem dX10_accountPours_13 : decode cX10_accountPours 13 = .ok (.getfield 29, 3) := by decide +kernel
theorem dX10_accountPours_16 : decode cX10_accountPours 16 = .ok (.iload_n 1, 1) := by decide +kernel
theorem dX10_accountPours_17 : decode cX10_accountPours 17 = .ok (.iaload, 1) := by decide +kernel
theorem dX10_accountPours_18 : decode cX10_accountPours 18 = .ok (.isub, 1) := by decide +kernel
theorem dX10_accountPours_19 : decode cX10_accountPours 19 = .ok (.ireturn, 1) := by decide +kernel
def f_X10_accountPours (X : x_X) (v0 : Nat) (v1 : Int32) (v2 : Int32) (μ : x_M) : Option (Int32 × x_M) :=
  (ck (x_kd X v0 = 10 + 1) (bd (f_X10_body X v0 (11 : Int32) μ) (fun (_ : Unit) (μ4 : x_M) => (ck (x_kd X v0 = 10 + 1) (bd (f_X10_keepsAct X v0 v1 v2 μ4) (fun (v5 : Int32) (μ6 : x_M) => (ck (x_kd X v0 = 10 + 1) (lt (μ6.2.1 v0 6) (fun (v7 : Nat) => (ck ((x_kd X v7 = 20 ∨ x_kd X v7 = 40) ∧ x_ix v1 (x_ln X v7)) (some ((v5 - (μ6.1 v7 (v1).toNatClampNeg)), μ6))))))))))))
set_option maxRecDepth 100000 in
theorem m_X10_accountPours (hI : x_I X) (v0 : Nat) (v1 : Int32) (v2 : Int32) (μ : x_M) : x_Met X x_Z0 l yX10_accountPours cX10_accountPours 3 (some .int) 4 [vR v0, vI v1, vI v2] μ rkI (f_X10_accountPours X v0 v1 v2 μ) := by
  refine x_enter hI (by decide +kernel) (Nat.le_of_ble_eq_true rfl) (fun p e s m args below meth c hC hr hlk => ?_)
  unfold f_X10_accountPours
  refine s_lv (lv' := [(0, vR v0), (1, vI v1), (2, vI v2)]) [0, 1, 2] rfl ?_
  refine s_aload_n hC 0 dX10_accountPours_0 rfl ?_
  refine s_bipush hC dX10_accountPours_1 (v := 11) (by decide) ?_
  refine s_callV hC (x := v0) (avs := [vI (11 : Int32)]) (st := []) (nest := false) xc10 (m_X10_body hI v0 (11 : Int32) μ) dX10_accountPours_3 qm_X10_401 qi_X10_body qs_X10_body qc_X10 qd_X10_body qh_X10_body (by decide) (fun _ => Nat.le_of_ble_eq_true rfl) (Nat.le_of_ble_eq_true rfl) (fun _ μ4 => ?_)
  refine s_aload_n hC 0 dX10_accountPours_6 rfl ?_
  refine s_iload_n hC 1 dX10_accountPours_7 rfl ?_
  refine s_iload_n hC 2 dX10_accountPours_8 rfl ?_
  refine s_callV hC (x := v0) (avs := [vI v1, vI v2]) (st := []) (nest := false) xc10 (m_X10_keepsAct hI v0 v1 v2 μ4) dX10_accountPours_9 qm_X10_407 qi_X10_keepsAct qs_X10_keepsAct qc_X10 qd_X10_keepsAct qh_X10_keepsAct (by decide) (fun _ => Nat.le_of_ble_eq_true rfl) (Nat.le_of_ble_eq_true rfl) (fun v5 μ6 => ?_)
  refine s_aload_n hC 0 dX10_accountPours_12 rfl ?_
  refine s_getR hC xc10 (by decide) rfl qf_X10_29 dX10_accountPours_13 ?_
  refine s_ltR (fun v7 => ?_)
  refine s_iload_n hC 1 dX10_accountPours_16 rfl ?_
  refine s_iald hC dX10_accountPours_17 ?_
  refine s_isub hC dX10_accountPours_18 ?_
  exact s_iret hC hr hlk dX10_accountPours_19
theorem dX10_takesE_0 : decode cX10_takesE 0 = .ok (.aload_n 0, 1) := by decide +kernel
theorem dX10_takesE_1 : decode cX10_takesE 1 = .ok (.iconst 0, 1) := by decide +kernel
theorem dX10_takesE_2 : decode cX10_takesE 2 = .ok (.putfield 86, 3) := by decide +kernel
theorem dX10_takesE_5 : decode cX10_takesE 5 = .ok (.aload_n 0, 1) := by decide +kernel
theorem dX10_takesE_6 : decode cX10_takesE 6 = .ok (.iconst 0, 1) := by decide +kernel
theorem dX10_takesE_7 : decode cX10_takesE 7 = .ok (.putfield 89, 3) := by decide +kernel
theorem dX10_takesE_10 : decode cX10_takesE 10 = .ok (.aload_n 0, 1) := by decide +kernel
theorem dX10_takesE_11 : decode cX10_takesE 11 = .ok (.getfield 71, 3) := by decide +kernel
theorem dX10_takesE_14 : decode cX10_takesE 14 = .ok (.iload_n 1, 1) := by decide +kernel
theorem dX10_takesE_15 : decode cX10_takesE 15 = .ok (.aload_n 0, 1) := by decide +kernel
theorem dX10_takesE_16 : decode cX10_takesE 16 = .ok (.getfield 83, 3) := by decide +kernel
theorem dX10_takesE_19 : decode cX10_takesE 19 = .ok (.iastore, 1) := by decide +kernel
theorem dX10_takesE_20 : decode cX10_takesE 20 = .ok (.iconst 1, 1) := by decide +kernel
theorem dX10_takesE_21 : decode cX10_takesE 21 = .ok (.istore_n 2, 1) := by decide +kernel
theorem dX10_takesE_22 : decode cX10_takesE 22 = .ok (.aload_n 0, 1) := by decide +kernel
theorem dX10_takesE_23 : decode cX10_takesE 23 = .ok (.invokevirtual 260, 3) := by decide +kernel
theorem dX10_takesE_26 : decode cX10_takesE 26 = .ok (.istore_n 3, 1) := by decide +kernel
theorem dX10_takesE_27 : decode cX10_takesE 27 = .ok (.iload_n 2, 1) := by decide +kernel
theorem dX10_takesE_28 : decode cX10_takesE 28 = .ok (.ifCond .eq 82, 3) := by decide +kernel
theorem dX10_takesE_31 : decode cX10_takesE 31 = .ok (.iload_n 3, 1) := by decide +kernel
theorem dX10_takesE_32 : decode cX10_takesE 32 = .ok (.bipush 33, 2) := by decide +kernel
theorem dX10_takesE_34 : decode cX10_takesE 34 = .ok (.if_icmp .eq 9, 3) := by decide +kernel
theorem dX10_takesE_37 : decode cX10_takesE 37 = .ok (.iload_n 3, 1) := by decide +kernel
theorem dX10_takesE_38 : decode cX10_takesE 38 = .ok (.bipush 40, 2) := by decide +kernel
theorem dX10_takesE_40 : decode cX10_takesE 40 = .ok (.if_icmp .ne 56, 3) := by decide +kernel
theorem dX10_takesE_43 : decode cX10_takesE 43 = .ok (.aload_n 0, 1) := by decide +kernel
theorem dX10_takesE_44 : decode cX10_takesE 44 = .ok (.getfield 89, 3) := by decide +kernel
theorem dX10_takesE_47 : decode cX10_takesE 47 = .ok (.iconst 4, 1) := by decide +kernel
theorem dX10_takesE_48 : decode cX10_takesE 48 = .ok (.if_icmp .ne 5, 3) := by decide +kernel
theorem dX10_takesE_51 : decode cX10_takesE 51 = .ok (.iconst 0, 1) := by decide +kernel
theorem dX10_takesE_52 : decode cX10_takesE 52 = .ok (.ireturn, 1) := by decide +kernel
theorem dX10_takesE_53 : decode cX10_takesE 53 = .ok (.aload_n 0, 1) := by decide +kernel
theorem dX10_takesE_54 : decode cX10_takesE 54 = .ok (.dup, 1) := by decide +kernel
theorem dX10_takesE_55 : decode cX10_takesE 55 = .ok (.getfield 89, 3) := by decide +kernel
theorem dX10_takesE_58 : decode cX10_takesE 58 = .ok (.iconst 1, 1) := by decide +kernel
theorem dX10_takesE_59 : decode cX10_takesE 59 = .ok (.iadd, 1) := by decide +kernel
theorem dX10_takesE_60 : decode cX10_takesE 60 = .ok (.putfield 89, 3) := by decide +kernel
theorem dX10_takesE_63 : decode cX10_takesE 63 = .ok (.aload_n 0, 1) := by decide +kernel
theorem dX10_takesE_64 : decode cX10_takesE 64 = .ok (.getfield 80, 3) := by decide +kernel
theorem dX10_takesE_67 : decode cX10_takesE 67 = .ok (.aload_n 0, 1) := by decide +kernel
theorem dX10_takesE_68 : decode cX10_takesE 68 = .ok (.getfield 86, 3) := by decide +kernel
theorem dX10_takesE_71 : decode cX10_takesE 71 = .ok (.iload_n 3, 1) := by decide +kernel
theorem dX10_takesE_72 : decode cX10_takesE 72 = .ok (.iastore, 1) := by decide +kernel
theorem dX10_takesE_73 : decode cX10_takesE 73 = .ok (.aload_n 0, 1) := by decide +kernel
theorem dX10_takesE_74 : decode cX10_takesE 74 = .ok (.dup, 1) := by decide +kernel
theorem dX10_takesE_75 : decode cX10_takesE 75 = .ok (.getfield 86, 3) := by decide +kernel
theorem dX10_takesE_78 : decode cX10_takesE 78 = .ok (.iconst 1, 1) := by decide +kernel
theorem dX10_takesE_79 : decode cX10_takesE 79 = .ok (.iadd, 1) := by decide +kernel
theorem dX10_takesE_80 : decode cX10_takesE 80 = .ok (.putfield 86, 3) := by decide +kernel
theorem dX10_takesE_83 : decode cX10_takesE 83 = .ok (.aload_n 0, 1) := by decide +kernel
theorem dX10_takesE_84 : decode cX10_takesE 84 = .ok (.dup, 1) := by decide +kernel
theorem dX10_takesE_85 : decode cX10_takesE 85 = .ok (.getfield 53, 3) := by decide +kernel
theorem dX10_takesE_88 : decode cX10_takesE 88 = .ok (.iconst 1, 1) := by decide +kernel
theorem dX10_takesE_89 : decode cX10_takesE 89 = .ok (.iadd, 1) := by decide +kernel
theorem dX10_takesE_90 : decode cX10_takesE 90 = .ok (.putfield 53, 3) := by decide +kernel
theorem dX10_takesE_93 : decode cX10_takesE 93 = .ok (.goto (-71), 3) := by decide +kernel
theorem dX10_takesE_96 : decode cX10_takesE 96 = .ok (.aload_n 0, 1) := by decide +kernel
theorem dX10_takesE_97 : decode cX10_takesE 97 = .ok (.invokevirtual 284, 3) := by decide +kernel
theorem dX10_takesE_100 : decode cX10_takesE 100 = .ok (.ifCond .eq 8, 3) := by decide +kernel
theorem dX10_takesE_103 : decode cX10_takesE 103 = .ok (.iconst 0, 1) := by decide +kernel
theorem dX10_takesE_104 : decode cX10_takesE 104 = .ok (.istore_n 2, 1) := by decide +kernel
theorem dX10_takesE_105 : decode cX10_takesE 105 = .ok (.goto (-83), 3) := by decide +kernel
theorem dX10_takesE_108 : decode cX10_takesE 108 = .ok (.iconst 0, 1) := by decide +kernel
theorem dX10_takesE_109 : decode cX10_takesE 109 = .ok (.ireturn, 1) := by decide +kernel
theorem dX10_takesE_110 : decode cX10_takesE 110 = .ok (.iload_n 3, 1) := by decide +kernel
theorem dX10_takesE_111 : decode cX10_takesE 111 = .ok (.bipush 38, 2) := by decide +kernel
theorem dX10_takesE_113 : decode cX10_takesE 113 = .ok (.if_icmp .eq 9, 3) := by decide +kernel
theorem dX10_takesE_116 : decode cX10_takesE 116 = .ok (.iload_n 3, 1) := by decide +kernel
theorem dX10_takesE_117 : decode cX10_takesE 117 = .ok (.bipush 124, 2) := by decide +kernel
theorem dX10_takesE_119 : decode cX10_takesE 119 = .ok (.if_icmp .ne 43, 3) := by decide +kernel
theorem dX10_takesE_122 : decode cX10_takesE 122 = .ok (.aload_n 0, 1) := by decide +kernel
theorem dX10_takesE_123 : decode cX10_takesE 123 = .ok (.iload_n 3, 1) := by decide +kernel
theorem dX10_takesE_124 : decode cX10_takesE 124 = .ok (.invokevirtual 287, 3) := by decide +kernel
theorem dX10_takesE_127 : decode cX10_takesE 127 = .ok (.aload_n 0, 1) := by decide +kernel
theorem dX10_takesE_128 : decode cX10_takesE 128 = .ok (.getfield 80, 3) := by decide +kernel
theorem dX10_takesE_131 : decode cX10_takesE 131 = .ok (.aload_n 0, 1) := by decide +kernel
theorem dX10_takesE_132 : decode cX10_takesE 132 = .ok (.getfield 86, 3) := by decide +kernel
theorem dX10_takesE_135 : decode cX10_takesE 135 = .ok (.iload_n 3, 1) := by decide +kernel
theorem dX10_takesE_136 : decode cX10_takesE 136 = .ok (.iastore, 1) := by decide +kernel
theorem dX10_takesE_137 : decode cX10_takesE 137 = .ok (.aload_n 0, 1) := by decide +kernel
theorem dX10_takesE_138 : decode cX10_takesE 138 = .ok (.dup, 1) := by decide +kernel
theorem dX10_takesE_139 : decode cX10_takesE 139 = .ok (.getfield 86, 3) := by decide +kernel
theorem dX10_takesE_142 : decode cX10_takesE 142 = .ok (.iconst 1, 1) := by decide +kernel
theorem dX10_takesE_143 : decode cX10_takesE 143 = .ok (.iadd, 1) := by decide +kernel
theorem dX10_takesE_144 : decode cX10_takesE 144 = .ok (.putfield 86, 3) := by decide +kernel
theorem dX10_takesE_147 : decode cX10_takesE 147 = .ok (.iconst 1, 1) := by decide +kernel
theorem dX10_takesE_148 : decode cX10_takesE 148 = .ok (.istore_n 2, 1) := by decide +kernel
theorem dX10_takesE_149 : decode cX10_takesE 149 = .ok (.aload_n 0, 1) := by decide +kernel
theorem dX10_takesE_150 : decode cX10_takesE 150 = .ok (.dup, 1) := by decide +kernel
theorem dX10_takesE_151 : decode cX10_takesE 151 = .ok (.getfield 53, 3) := by decide +kernel
theorem dX10_takesE_154 : decode cX10_takesE 154 = .ok (.iconst 1, 1) := by decide +kernel
theorem dX10_takesE_155 : decode cX10_takesE 155 = .ok (.iadd, 1) := by decide +kernel
theorem dX10_takesE_156 : decode cX10_takesE 156 = .ok (.putfield 53, 3) := by decide +kernel
theorem dX10_takesE_159 : decode cX10_takesE 159 = .ok (.goto (-137), 3) := by decide +kernel
theorem dX10_takesE_162 : decode cX10_takesE 162 = .ok (.aload_n 0, 1) := by decide +kernel
theorem dX10_takesE_163 : decode cX10_takesE 163 = .ok (.bipush 124, 2) := by decide +kernel
theorem dX10_takesE_165 : decode cX10_takesE 165 = .ok (.invokevirtual 287, 3) := by decide +kernel
theorem dX10_takesE_168 : decode cX10_takesE 168 = .ok (.aload_n 0, 1) := by decide +kernel
theorem dX10_takesE_169 : decode cX10_takesE 169 = .ok (.getfield 74, 3) := by decide +kernel
theorem dX10_takesE_172 : decode cX10_takesE 172 = .ok (.iload_n 1, 1) := by decide +kernel
theorem dX10_takesE_173 : decode cX10_takesE 173 = .ok (.aload_n 0, 1) := by decide +kernel
theorem dX10_takesE_174 : decode cX10_takesE 174 = .ok (.getfield 83, 3) := by decide +kernel
theorem dX10_takesE_177 : decode cX10_takesE 177 = .ok (.iastore, 1) := by decide +kernel
theorem dX10_takesE_178 : decode cX10_takesE 178 = .ok (.aload_n 0, 1) := by decide +kernel
theorem dX10_takesE_179 : decode cX10_takesE 179 = .ok (.getfield 86, 3) := by decide +kernel
theorem dX10_takesE_182 : decode cX10_takesE 182 = .ok (.ifCond .ne 5, 3) := by decide +kernel
theorem dX10_takesE_185 : decode cX10_takesE 185 = .ok (.iconst 1, 1) := by decide +kernel
theorem dX10_takesE_186 : decode cX10_takesE 186 = .ok (.ireturn, 1) := by decide +kernel
theorem dX10_takesE_187 : decode cX10_takesE 187 = .ok (.iload_n 3, 1) := by decide +kernel
theorem dX10_takesE_188 : decode cX10_takesE 188 = .ok (.bipush 41, 2) := by decide +kernel
theorem dX10_takesE_190 : decode cX10_takesE 190 = .ok (.if_icmp .eq 5, 3) := by decide +kernel
theorem dX10_takesE_193 : decode cX10_takesE 193 = .ok (.iconst 0, 1) := by decide +kernel
theorem dX10_takesE_194 : decode cX10_takesE 194 = .ok (.ireturn, 1) := by decide +kernel
theorem dX10_takesE_195 : decode cX10_takesE 195 = .ok (.aload_n 0, 1) := by decide +kernel
theorem dX10_takesE_196 : decode cX10_takesE 196 = .ok (.dup, 1) := by decide +kernel
theorem dX10_takesE_197 : decode cX10_takesE 197 = .ok (.getfield 86, 3) := by decide +kernel
theorem dX10_takesE_200 : decode cX10_takesE 200 = .ok (.iconst 1, 1) := by decide +kernel
theorem dX10_takesE_201 : decode cX10_takesE 201 = .ok (.isub, 1) := by decide +kernel
theorem dX10_takesE_202 : decode cX10_takesE 202 = .ok (.putfield 86, 3) := by decide +kernel
theorem dX10_takesE_205 : decode cX10_takesE 205 = .ok (.aload_n 0, 1) := by decide +kernel
theorem dX10_takesE_206 : decode cX10_takesE 206 = .ok (.dup, 1) := by decide +kernel
theorem dX10_takesE_207 : decode cX10_takesE 207 = .ok (.getfield 89, 3) := by decide +kernel
theorem dX10_takesE_210 : decode cX10_takesE 210 = .ok (.iconst 1, 1) := by decide +kernel
theorem dX10_takesE_211 : decode cX10_takesE 211 = .ok (.isub, 1) := by decide +kernel
theorem dX10_takesE_212 : decode cX10_takesE 212 = .ok (.putfield 89, 3) := by decide +kernel
theorem dX10_takesE_215 : decode cX10_takesE 215 = .ok (.aload_n 0, 1) := by decide +kernel
theorem dX10_takesE_216 : decode cX10_takesE 216 = .ok (.dup, 1) := by decide +kernel
theorem dX10_takesE_217 : decode cX10_takesE 217 = .ok (.getfield 53, 3) := by decide +kernel
theorem dX10_takesE_220 : decode cX10_takesE 220 = .ok (.iconst 1, 1) := by decide +kernel
theorem dX10_takesE_221 : decode cX10_takesE 221 = .ok (.iadd, 1) := by decide +kernel
theorem dX10_takesE_222 : decode cX10_takesE 222 = .ok (.putfield 53, 3) := by decide +kernel
theorem dX10_takesE_225 : decode cX10_takesE 225 = .ok (.aload_n 0, 1) := by decide +kernel
theorem dX10_takesE_226 : decode cX10_takesE 226 = .ok (.invokevirtual 281, 3) := by decide +kernel
theorem dX10_takesE_229 : decode cX10_takesE 229 = .ok (.goto (-207), 3) := by decide +kernel
def f_X10_takesE_J122 (X : x_X) (k22 : Nat → Int32 → Int32 → x_M → Option (Int32 × x_M)) (v13 : Nat) (v14 : Int32) (v15 : Int32) (μ16 : x_M) : Option (Int32 × x_M) :=
  (ck (x_kd X v13 = 10 + 1) (bd (f_X10_settle X v13 v15 μ16) (fun (_ : Unit) (μ17 : x_M) => (ck (x_kd X v13 = 10 + 1) (lt (μ17.2.1 v13 23) (fun (v18 : Nat) => (ck (x_kd X v13 = 10 + 1) (lt (μ17.1 v13 25) (fun (v19 : Int32) => (ck (x_kd X v18 = 20 ∧ x_ix v19 (x_ln X v18)) (lt (x_sI μ17 v18 (v19).toNatClampNeg v15) (fun (μ20 : x_M) => (ck (x_kd X v13 = 10 + 1) (ck (x_kd X v13 = 10 + 1) (lt (x_sI μ20 v13 25 ((μ20.1 v13 25) + (1 : Int32))) (fun (μ21 : x_M) => (ck (x_kd X v13 = 10 + 1) (ck (x_kd X v13 = 10 + 1) (lt (x_sI μ21 v13 14 ((μ21.1 v13 14) + (1 : Int32))) (fun (μ22 : x_M) => (k22 v13 v14 (1 : Int32) μ22)))))))))))))))))))))
set_option maxRecDepth 100000 in
theorem j_X10_takesE_J122 (hI : x_I X) (hC : x_C X x_Z0 p (x_rm 5) s m c cX10_takesE RX10 4 0 0 5) (hr : meth.sig.returnType = (some .boolean)) (hlk : meth.locks = false) {k22 : Nat → Int32 → Int32 → x_M → Option (Int32 × x_M)} (hk22 : ∀ (b0 : Nat) (b1 : Int32) (b2 : Int32) (μ : x_M), SM X 4 5 rkI p l e s m args below meth c 22 [(0, vR b0), (1, vI b1), (2, vI b2)] [] μ (k22 b0 b1 b2 μ)) (v13 : Nat) (v14 : Int32) (v15 : Int32) (μ16 : x_M) : SM X 4 5 rkI p l e s m args below meth c 122 [(0, vR v13), (1, vI v14), (3, vI v15)] [] μ16 (f_X10_takesE_J122 X k22 v13 v14 v15 μ16) := by
  unfold f_X10_takesE_J122
  refine s_aload_n hC 0 dX10_takesE_122 rfl ?_
  refine s_iload_n hC 2 dX10_takesE_123 rfl ?_
  refine s_callV hC (x := v13) (avs := [vI v15]) (st := []) (nest := false) xc10 (m_X10_settle hI v13 v15 μ16) dX10_takesE_124 qm_X10_287 qi_X10_settle qs_X10_settle qc_X10 qd_X10_settle qh_X10_settle (by decide) (fun _ => Nat.le_of_ble_eq_true rfl) (Nat.le_of_ble_eq_true rfl) (fun _ μ17 => ?_)
  refine s_aload_n hC 0 dX10_takesE_127 rfl ?_
  refine s_getR hC xc10 (by decide) rfl qf_X10_80 dX10_takesE_128 ?_
  refine s_ltR (fun v18 => ?_)
  refine s_aload_n hC 0 dX10_takesE_131 rfl ?_
  refine s_getI hC xc10 (by decide) rfl qf_X10_86 dX10_takesE_132 ?_
  refine s_iload_n hC 2 dX10_takesE_135 rfl ?_
  refine s_ltI2 (fun v19 => ?_)
  refine s_iast hC dX10_takesE_136 ?_
  refine s_ltM (fun μ20 => ?_)
  refine s_aload_n hC 0 dX10_takesE_137 rfl ?_
  refine s_dupR hC dX10_takesE_138 ?_
  refine s_getI hC xc10 (by decide) rfl qf_X10_86 dX10_takesE_139 ?_
  refine s_iconst hC dX10_takesE_142 (v := 1) (by decide) ?_
  refine s_iadd hC dX10_takesE_143 ?_
  refine s_putI hC xc10 (by decide) rfl rfl qf_X10_86 dX10_takesE_144 ?_
  refine s_ltM (fun μ21 => ?_)
  refine s_iconst hC dX10_takesE_147 (v := 1) (by decide) ?_
  refine s_istore_n hC dX10_takesE_148 (by decide) (lv' := [(2, vI (1 : Int32)), (0, vR v13), (1, vI v14), (3, vI v15)]) rfl ?_
  refine s_aload_n hC 1 dX10_takesE_149 rfl ?_
  refine s_dupR hC dX10_takesE_150 ?_
  refine s_getI hC xc10 (by decide) rfl qf_X10_53 dX10_takesE_151 ?_
  refine s_iconst hC dX10_takesE_154 (v := 1) (by decide) ?_
  refine s_iadd hC dX10_takesE_155 ?_
  refine s_putI hC xc10 (by decide) rfl rfl qf_X10_53 dX10_takesE_156 ?_
  refine s_ltM (fun μ22 => ?_)
  refine s_goto hC dX10_takesE_159 (tgt := 22) (by decide) ?_
  refine s_lv (lv' := [(0, vR v13), (1, vI v14), (2, vI (1 : Int32))]) [1, 2, 0] rfl ?_
  exact hk22 _ _ _ _
def f_X10_takesE_J43 (X : x_X) (k22 : Nat → Int32 → Int32 → x_M → Option (Int32 × x_M)) (v30 : Nat) (v31 : Int32) (v32 : Int32) (v33 : Int32) (μ34 : x_M) : Option (Int32 × x_M) :=
  (ck (x_kd X v30 = 10 + 1) (if (μ34.1 v30 26) = (4 : Int32) then (ck ((0 : Int32) = 0 ∨ (0 : Int32) = 1) (some ((0 : Int32), μ34))) else (ck (x_kd X v30 = 10 + 1) (ck (x_kd X v30 = 10 + 1) (lt (x_sI μ34 v30 26 ((μ34.1 v30 26) + (1 : Int32))) (fun (μ35 : x_M) => (ck (x_kd X v30 = 10 + 1) (lt (μ35.2.1 v30 23) (fun (v36 : Nat) => (ck (x_kd X v30 = 10 + 1) (lt (μ35.1 v30 25) (fun (v37 : Int32) => (ck (x_kd X v36 = 20 ∧ x_ix v37 (x_ln X v36)) (lt (x_sI μ35 v36 (v37).toNatClampNeg v33) (fun (μ38 : x_M) => (ck (x_kd X v30 = 10 + 1) (ck (x_kd X v30 = 10 + 1) (lt (x_sI μ38 v30 25 ((μ38.1 v30 25) + (1 : Int32))) (fun (μ39 : x_M) => (ck (x_kd X v30 = 10 + 1) (ck (x_kd X v30 = 10 + 1) (lt (x_sI μ39 v30 14 ((μ39.1 v30 14) + (1 : Int32))) (fun (μ40 : x_M) => (k22 v30 v31 v32 μ40))))))))))))))))))))))))
set_option maxRecDepth 100000 in
theorem j_X10_takesE_J43 (hI : x_I X) (hC : x_C X x_Z0 p (x_rm 5) s m c cX10_takesE RX10 4 0 0 5) (hr : meth.sig.returnType = (some .boolean)) (hlk : meth.locks = false) {k22 : Nat → Int32 → Int32 → x_M → Option (Int32 × x_M)} (hk22 : ∀ (b0 : Nat) (b1 : Int32) (b2 : Int32) (μ : x_M), SM X 4 5 rkI p l e s m args below meth c 22 [(0, vR b0), (1, vI b1), (2, vI b2)] [] μ (k22 b0 b1 b2 μ)) (v30 : Nat) (v31 : Int32) (v32 : Int32) (v33 : Int32) (μ34 : x_M) : SM X 4 5 rkI p l e s m args below meth c 43 [(0, vR v30), (1, vI v31), (2, vI v32), (3, vI v33)] [] μ34 (f_X10_takesE_J43 X k22 v30 v31 v32 v33 μ34) := by
  unfold f_X10_takesE_J43
  refine s_aload_n hC 0 dX10_takesE_43 rfl ?_
  refine s_getI hC xc10 (by decide) rfl qf_X10_89 dX10_takesE_44 ?_
  refine s_iconst hC dX10_takesE_47 (v := 4) (by decide) ?_
  refine s_icmp_ne hC dX10_takesE_48 (tgt := 53) (by decide) ?_ ?_
  · refine s_aload_n hC 0 dX10_takesE_53 rfl ?_
    refine s_dupR hC dX10_takesE_54 ?_
    refine s_getI hC xc10 (by decide) rfl qf_X10_89 dX10_takesE_55 ?_
    refine s_iconst hC dX10_takesE_58 (v := 1) (by decide) ?_
    refine s_iadd hC dX10_takesE_59 ?_
    refine s_putI hC xc10 (by decide) rfl rfl qf_X10_89 dX10_takesE_60 ?_
    refine s_ltM (fun μ35 => ?_)
    refine s_aload_n hC 0 dX10_takesE_63 rfl ?_
    refine s_getR hC xc10 (by decide) rfl qf_X10_80 dX10_takesE_64 ?_
    refine s_ltR (fun v36 => ?_)
    refine s_aload_n hC 0 dX10_takesE_67 rfl ?_
    refine s_getI hC xc10 (by decide) rfl qf_X10_86 dX10_takesE_68 ?_
    refine s_iload_n hC 3 dX10_takesE_71 rfl ?_
    refine s_ltI2 (fun v37 => ?_)
    refine s_iast hC dX10_takesE_72 ?_
    refine s_ltM (fun μ38 => ?_)
    refine s_aload_n hC 0 dX10_takesE_73 rfl ?_
    refine s_dupR hC dX10_takesE_74 ?_
    refine s_getI hC xc10 (by decide) rfl qf_X10_86 dX10_takesE_75 ?_
    refine s_iconst hC dX10_takesE_78 (v := 1) (by decide) ?_
    refine s_iadd hC dX10_takesE_79 ?_
    refine s_putI hC xc10 (by decide) rfl rfl qf_X10_86 dX10_takesE_80 ?_
    refine s_ltM (fun μ39 => ?_)
    refine s_aload_n hC 0 dX10_takesE_83 rfl ?_
    refine s_dupR hC dX10_takesE_84 ?_
    refine s_getI hC xc10 (by decide) rfl qf_X10_53 dX10_takesE_85 ?_
    refine s_iconst hC dX10_takesE_88 (v := 1) (by decide) ?_
    refine s_iadd hC dX10_takesE_89 ?_
    refine s_putI hC xc10 (by decide) rfl rfl qf_X10_53 dX10_takesE_90 ?_
    refine s_ltM (fun μ40 => ?_)
    refine s_goto hC dX10_takesE_93 (tgt := 22) (by decide) ?_
    refine s_lv (lv' := [(0, vR v30), (1, vI v31), (2, vI v32)]) [0, 1, 2] rfl ?_
    exact hk22 _ _ _ _
  refine s_iconst hC dX10_takesE_51 (v := 0) (by decide) ?_
  exact s_zret hC hr hlk dX10_takesE_52
def f_X10_takesE_L22 (X : x_X) : Nat → Nat → Int32 → Int32 → x_M → Option (Int32 × x_M)
  | 0, _, _, _, _ => none
  | n + 1, v7, v8, v9, μ10 =>
    (ck (x_kd X v7 = 10 + 1) (bd (f_X10_next X v7 μ10) (fun (v11 : Int32) (μ12 : x_M) => (if v9 = 0 then (if v11 = (38 : Int32) then (f_X10_takesE_J122 X (f_X10_takesE_L22 X n) v7 v8 v11 μ12) else (if v11 = (124 : Int32) then (f_X10_takesE_J122 X (f_X10_takesE_L22 X n) v7 v8 v11 μ12) else (ck (x_kd X v7 = 10 + 1) (bd (f_X10_settle X v7 (124 : Int32) μ12) (fun (_ : Unit) (μ23 : x_M) => (ck (x_kd X v7 = 10 + 1) (lt (μ23.2.1 v7 21) (fun (v24 : Nat) => (ck (x_kd X v7 = 10 + 1) (ck (x_kd X v24 = 20 ∧ x_ix v8 (x_ln X v24)) (lt (x_sI μ23 v24 (v8).toNatClampNeg (μ23.1 v7 24)) (fun (μ25 : x_M) => (ck (x_kd X v7 = 10 + 1) (if (μ25.1 v7 25) = 0 then (ck ((1 : Int32) = 0 ∨ (1 : Int32) = 1) (some ((1 : Int32), μ25))) else (if v11 = (41 : Int32) then (ck (x_kd X v7 = 10 + 1) (ck (x_kd X v7 = 10 + 1) (lt (x_sI μ25 v7 25 ((μ25.1 v7 25) - (1 : Int32))) (fun (μ26 : x_M) => (ck (x_kd X v7 = 10 + 1) (ck (x_kd X v7 = 10 + 1) (lt (x_sI μ26 v7 26 ((μ26.1 v7 26) - (1 : Int32))) (fun (μ27 : x_M) => (ck (x_kd X v7 = 10 + 1) (ck (x_kd X v7 = 10 + 1) (lt (x_sI μ27 v7 14 ((μ27.1 v7 14) + (1 : Int32))) (fun (μ28 : x_M) => (ck (x_kd X v7 = 10 + 1) (bd (f_X10_whole X v7 μ28) (fun (_ : Unit) (μ29 : x_M) => (f_X10_takesE_L22 X n v7 v8 v9 μ29)))))))))))))))) else (ck ((0 : Int32) = 0 ∨ (0 : Int32) = 1) (some ((0 : Int32), μ25)))))))))))))))))) else (if v11 = (33 : Int32) then (f_X10_takesE_J43 X (f_X10_takesE_L22 X n) v7 v8 v9 v11 μ12) else (if v11 = (40 : Int32) then (f_X10_takesE_J43 X (f_X10_takesE_L22 X n) v7 v8 v9 v11 μ12) else (ck (x_kd X v7 = 10 + 1) (bd (f_X10_takesTest X v7 μ12) (fun (v41 : Int32) (μ42 : x_M) => (if v41 = 0 then (ck ((0 : Int32) = 0 ∨ (0 : Int32) = 1) (some ((0 : Int32), μ42))) else (f_X10_takesE_L22 X n v7 v8 (0 : Int32) μ42)))))))))))
set_option maxRecDepth 100000 in
theorem j_X10_takesE_L22 (hI : x_I X) (hC : x_C X x_Z0 p (x_rm 5) s m c cX10_takesE RX10 4 0 0 5) (hr : meth.sig.returnType = (some .boolean)) (hlk : meth.locks = false) : ∀ (n : Nat) (v7 : Nat) (v8 : Int32) (v9 : Int32) (μ10 : x_M), SM X 4 5 rkI p l e s m args below meth c 22 [(0, vR v7), (1, vI v8), (2, vI v9)] [] μ10 (f_X10_takesE_L22 X n v7 v8 v9 μ10) := by
  intro n
  induction n with
  | zero => intro v7 v8 v9 μ10; exact s_none
  | succ n ih =>
    intro v7 v8 v9 μ10
    unfold f_X10_takesE_L22
    refine s_aload_n hC 0 dX10_takesE_22 rfl ?_
    refine s_callV hC (x := v7) (avs := []) (st := []) (nest := false) xc10 (m_X10_next hI v7 μ10) dX10_takesE_23 qm_X10_260 qi_X10_next qs_X10_next qc_X10 qd_X10_next qh_X10_next (by decide) (fun _ => Nat.le_of_ble_eq_true rfl) (Nat.le_of_ble_eq_true rfl) (fun v11 μ12 => ?_)
    refine s_istore_n hC dX10_takesE_26 (by decide) (lv' := [(3, vI v11), (0, vR v7), (1, vI v8), (2, vI v9)]) rfl ?_
    refine s_iload_n hC 3 dX10_takesE_27 rfl ?_
    refine s_if_eq hC dX10_takesE_28 (tgt := 110) (by decide) ?_ ?_
    · refine s_iload_n hC 0 dX10_takesE_110 rfl ?_
      refine s_bipush hC dX10_takesE_111 (v := 38) (by decide) ?_
      refine s_icmp_eq hC dX10_takesE_113 (tgt := 122) (by decide) ?_ ?_
      · refine s_lv (lv' := [(0, vR v7), (1, vI v8), (3, vI v11)]) [1, 2, 0] rfl ?_
        exact j_X10_takesE_J122 hI hC hr hlk ih _ _ _ _
      refine s_iload_n hC 0 dX10_takesE_116 rfl ?_
      refine s_bipush hC dX10_takesE_117 (v := 124) (by decide) ?_
      refine s_icmp_ne hC dX10_takesE_119 (tgt := 162) (by decide) ?_ ?_
      · refine s_aload_n hC 1 dX10_takesE_162 rfl ?_
        refine s_bipush hC dX10_takesE_163 (v := 124) (by decide) ?_
        refine s_callV hC (x := v7) (avs := [vI (124 : Int32)]) (st := []) (nest := false) xc10 (m_X10_settle hI v7 (124 : Int32) μ12) dX10_takesE_165 qm_X10_287 qi_X10_settle qs_X10_settle qc_X10 qd_X10_settle qh_X10_settle (by decide) (fun _ => Nat.le_of_ble_eq_true rfl) (Nat.le_of_ble_eq_true rfl) (fun _ μ23 => ?_)
        refine s_aload_n hC 1 dX10_takesE_168 rfl ?_
        refine s_getR hC xc10 (by decide) rfl qf_X10_74 dX10_takesE_169 ?_
        refine s_ltR (fun v24 => ?_)
        refine s_iload_n hC 2 dX10_takesE_172 rfl ?_
        refine s_aload_n hC 1 dX10_takesE_173 rfl ?_
        refine s_getI hC xc10 (by decide) rfl qf_X10_83 dX10_takesE_174 ?_
        refine s_iast hC dX10_takesE_177 ?_
        refine s_ltM (fun μ25 => ?_)
        refine s_aload_n hC 1 dX10_takesE_178 rfl ?_
        refine s_getI hC xc10 (by decide) rfl qf_X10_86 dX10_takesE_179 ?_
        refine s_if_ne hC dX10_takesE_182 (tgt := 187) (by decide) ?_ ?_
        · refine s_iload_n hC 0 dX10_takesE_187 rfl ?_
          refine s_bipush hC dX10_takesE_188 (v := 41) (by decide) ?_
          refine s_icmp_eq hC dX10_takesE_190 (tgt := 195) (by decide) ?_ ?_
          · refine s_aload_n hC 1 dX10_takesE_195 rfl ?_
            refine s_dupR hC dX10_takesE_196 ?_
            refine s_getI hC xc10 (by decide) rfl qf_X10_86 dX10_takesE_197 ?_
            refine s_iconst hC dX10_takesE_200 (v := 1) (by decide) ?_
            refine s_isub hC dX10_takesE_201 ?_
            refine s_putI hC xc10 (by decide) rfl rfl qf_X10_86 dX10_takesE_202 ?_
            refine s_ltM (fun μ26 => ?_)
            refine s_aload_n hC 1 dX10_takesE_205 rfl ?_
            refine s_dupR hC dX10_takesE_206 ?_
            refine s_getI hC xc10 (by decide) rfl qf_X10_89 dX10_takesE_207 ?_
            refine s_iconst hC dX10_takesE_210 (v := 1) (by decide) ?_
            refine s_isub hC dX10_takesE_211 ?_
            refine s_putI hC xc10 (by decide) rfl rfl qf_X10_89 dX10_takesE_212 ?_
            refine s_ltM (fun μ27 => ?_)
            refine s_aload_n hC 1 dX10_takesE_215 rfl ?_
            refine s_dupR hC dX10_takesE_216 ?_
            refine s_getI hC xc10 (by decide) rfl qf_X10_53 dX10_takesE_217 ?_
            refine s_iconst hC dX10_takesE_220 (v := 1) (by decide) ?_
            refine s_iadd hC dX10_takesE_221 ?_
            refine s_putI hC xc10 (by decide) rfl rfl qf_X10_53 dX10_takesE_222 ?_
            refine s_ltM (fun μ28 => ?_)
            refine s_aload_n hC 1 dX10_takesE_225 rfl ?_
            refine s_callV hC (x := v7) (avs := []) (st := []) (nest := false) xc10 (m_X10_whole hI v7 μ28) dX10_takesE_226 qm_X10_281 qi_X10_whole qs_X10_whole qc_X10 qd_X10_whole qh_X10_whole (by decide) (fun _ => Nat.le_of_ble_eq_true rfl) (Nat.le_of_ble_eq_true rfl) (fun _ μ29 => ?_)
            refine s_goto hC dX10_takesE_229 (tgt := 22) (by decide) ?_
            refine s_lv (lv' := [(0, vR v7), (1, vI v8), (2, vI v9)]) [1, 2, 3] rfl ?_
            exact ih _ _ _ _
          refine s_iconst hC dX10_takesE_193 (v := 0) (by decide) ?_
          exact s_zret hC hr hlk dX10_takesE_194
        refine s_iconst hC dX10_takesE_185 (v := 1) (by decide) ?_
        exact s_zret hC hr hlk dX10_takesE_186
      refine s_lv (lv' := [(0, vR v7), (1, vI v8), (3, vI v11)]) [1, 2, 0] rfl ?_
      exact j_X10_takesE_J122 hI hC hr hlk ih _ _ _ _
    refine s_iload_n hC 0 dX10_takesE_31 rfl ?_
    refine s_bipush hC dX10_takesE_32 (v := 33) (by decide) ?_
    refine s_icmp_eq hC dX10_takesE_34 (tgt := 43) (by decide) ?_ ?_
    · refine s_lv (lv' := [(0, vR v7), (1, vI v8), (2, vI v9), (3, vI v11)]) [1, 2, 3, 0] rfl ?_
      exact j_X10_takesE_J43 hI hC hr hlk ih _ _ _ _ _
    refine s_iload_n hC 0 dX10_takesE_37 rfl ?_
    refine s_bipush hC dX10_takesE_38 (v := 40) (by decide) ?_
    refine s_icmp_ne hC dX10_takesE_40 (tgt := 96) (by decide) ?_ ?_
    · refine s_aload_n hC 1 dX10_takesE_96 rfl ?_
      refine s_callV hC (x := v7) (avs := []) (st := []) (nest := false) xc10 (m_X10_takesTest hI v7 μ12) dX10_takesE_97 qm_X10_284 qi_X10_takesTest qs_X10_takesTest qc_X10 qd_X10_takesTest qh_X10_takesTest (by decide) (fun _ => Nat.le_of_ble_eq_true rfl) (Nat.le_of_ble_eq_true rfl) (fun v41 μ42 => ?_)
      refine s_if_eq hC dX10_takesE_100 (tgt := 108) (by decide) ?_ ?_
      · refine s_iconst hC dX10_takesE_108 (v := 0) (by decide) ?_
        exact s_zret hC hr hlk dX10_takesE_109
      refine s_iconst hC dX10_takesE_103 (v := 0) (by decide) ?_
      refine s_istore_n hC dX10_takesE_104 (by decide) (lv' := [(2, vI (0 : Int32)), (3, vI v11), (0, vR v7), (1, vI v8)]) rfl ?_
      refine s_goto hC dX10_takesE_105 (tgt := 22) (by decide) ?_
      refine s_lv (lv' := [(0, vR v7), (1, vI v8), (2, vI (0 : Int32))]) [2, 3, 0] rfl ?_
      exact ih _ _ _ _
    refine s_lv (lv' := [(0, vR v7), (1, vI v8), (2, vI v9), (3, vI v11)]) [1, 2, 3, 0] rfl ?_
    exact j_X10_takesE_J43 hI hC hr hlk ih _ _ _ _ _
def f_X10_takesE (X : x_X) (v0 : Nat) (v1 : Int32) (μ : x_M) : Option (Int32 × x_M) :=
  (ck (x_kd X v0 = 10 + 1) (lt (x_sI μ v0 25 (0 : Int32)) (fun (μ3 : x_M) => (ck (x_kd X v0 = 10 + 1) (lt (x_sI μ3 v0 26 (0 : Int32)) (fun (μ4 : x_M) => (ck (x_kd X v0 = 10 + 1) (lt (μ4.2.1 v0 20) (fun (v5 : Nat) => (ck (x_kd X v0 = 10 + 1) (ck (x_kd X v5 = 20 ∧ x_ix v1 (x_ln X v5)) (lt (x_sI μ4 v5 (v1).toNatClampNeg (μ4.1 v0 24)) (fun (μ6 : x_M) => (f_X10_takesE_L22 X 4096 v0 v1 (1 : Int32) μ6))))))))))))))
set_option maxRecDepth 100000 in
theorem m_X10_takesE (hI : x_I X) (v0 : Nat) (v1 : Int32) (μ : x_M) : x_Met X x_Z0 l yX10_takesE cX10_takesE 4 (some .boolean) 5 [vR v0, vI v1] μ rkI (f_X10_takesE X v0 v1 μ) := by
  refine x_enter hI (by decide +kernel) (Nat.le_of_ble_eq_true rfl) (fun p e s m args below meth c hC hr hlk => ?_)
  unfold f_X10_takesE
  refine s_lv (lv' := [(0, vR v0), (1, vI v1)]) [0, 1] rfl ?_
  refine s_aload_n hC 0 dX10_takesE_0 rfl ?_
  refine s_iconst hC dX10_takesE_1 (v := 0) (by decide) ?_
  refine s_putI hC xc10 (by decide) rfl rfl qf_X10_86 dX10_takesE_2 ?_
  refine s_ltM (fun μ3 => ?_)
  refine s_aload_n hC 0 dX10_takesE_5 rfl ?_
  refine s_iconst hC dX10_takesE_6 (v := 0) (by decide) ?_
  refine s_putI hC xc10 (by decide) rfl rfl qf_X10_89 dX10_takesE_7 ?_
  refine s_ltM (fun μ4 => ?_)
  refine s_aload_n hC 0 dX10_takesE_10 rfl ?_
  refine s_getR hC xc10 (by decide) rfl qf_X10_71 dX10_takesE_11 ?_
  refine s_ltR (fun v5 => ?_)
  refine s_iload_n hC 1 dX10_takesE_14 rfl ?_
  refine s_aload_n hC 0 dX10_takesE_15 rfl ?_
  refine s_getI hC xc10 (by decide) rfl qf_X10_83 dX10_takesE_16 ?_
  refine s_iast hC dX10_takesE_19 ?_
  refine s_ltM (fun μ6 => ?_)
  refine s_iconst hC dX10_takesE_20 (v := 1) (by decide) ?_
  refine s_istore_n hC dX10_takesE_21 (by decide) (lv' := [(2, vI (1 : Int32)), (0, vR v0), (1, vI v1)]) rfl ?_
  refine s_lv (lv' := [(0, vR v0), (1, vI v1), (2, vI (1 : Int32))]) [1, 2, 0] rfl ?_
  refine j_X10_takesE_L22 hI hC hr hlk 4096 _ _ _ _
theorem dX10_of_0 : decode cX10_of 0 = .ok (.aload_n 0, 1) := by decide +kernel
theorem dX10_of_1 : decode cX10_of 1 = .ok (.iload_n 1, 1) := by decide +kernel
theorem dX10_of_2 : decode cX10_of 2 = .ok (.invokevirtual 257, 3) := by decide +kernel
theorem dX10_of_5 : decode cX10_of 5 = .ok (.ifCond .ne 7, 3) := by decide +kernel
theorem dX10_of_8 : decode cX10_of 8 = .ok (.sipush (-10001), 3) := by decide +kernel
theorem dX10_of_11 : decode cX10_of 11 = .ok (.ireturn, 1) := by decide +kernel
theorem dX10_of_12 : decode cX10_of 12 = .ok (.iload_n 2, 1) := by decide +kernel
theorem dX10_of_13 : decode cX10_of 13 = .ok (.tableswitch 100 0 7 #[47, 54, 61, 68, 75, 82, 88, 94], 47) := by decide +kernel
theorem dX10_of_60 : decode cX10_of 60 = .ok (.aload_n 0, 1) := by decide +kernel
theorem dX10_of_61 : decode cX10_of 61 = .ok (.getfield 26, 3) := by decide +kernel
theorem dX10_of_64 : decode cX10_of 64 = .ok (.iload_n 1, 1) := by decide +kernel
theorem dX10_of_65 : decode cX10_of 65 = .ok (.iaload, 1) := by decide +kernel
theorem dX10_of_66 : decode cX10_of 66 = .ok (.ireturn, 1) := by decide +kernel
theorem dX10_of_67 : decode cX10_of 67 = .ok (.aload_n 0, 1) := by decide +kernel
theorem dX10_of_68 : decode cX10_of 68 = .ok (.getfield 29, 3) := by decide +kernel
theorem dX10_of_71 : decode cX10_of 71 = .ok (.iload_n 1, 1) := by decide +kernel
theorem dX10_of_72 : decode cX10_of 72 = .ok (.iaload, 1) := by decide +kernel
theorem dX10_of_73 : decode cX10_of 73 = .ok (.ireturn, 1) := by decide +kernel
theorem dX10_of_74 : decode cX10_of 74 = .ok (.aload_n 0, 1) := by decide +kernel
theorem dX10_of_75 : decode cX10_of 75 = .ok (.getfield 32, 3) := by decide +kernel
theorem dX10_of_78 : decode cX10_of 78 = .ok (.iload_n 1, 1) := by decide +kernel
theorem dX10_of_79 : decode cX10_of 79 = .ok (.iaload, 1) := by decide +kernel
theorem dX10_of_80 : decode cX10_of 80 = .ok (.ireturn, 1) := by decide +kernel
theorem dX10_of_81 : decode cX10_of 81 = .ok (.aload_n 0, 1) := by decide +kernel
theorem dX10_of_82 : decode cX10_of 82 = .ok (.getfield 35, 3) := by decide +kernel
theorem dX10_of_85 : decode cX10_of 85 = .ok (.iload_n 1, 1) := by decide +kernel
theorem dX10_of_86 : decode cX10_of 86 = .ok (.iaload, 1) := by decide +kernel
theorem dX10_of_87 : decode cX10_of 87 = .ok (.ireturn, 1) := by decide +kernel
theorem dX10_of_88 : decode cX10_of 88 = .ok (.aload_n 0, 1) := by decide +kernel
theorem dX10_of_89 : decode cX10_of 89 = .ok (.getfield 38, 3) := by decide +kernel
theorem dX10_of_92 : decode cX10_of 92 = .ok (.iload_n 1, 1) := by decide +kernel
theorem dX10_of_93 : decode cX10_of 93 = .ok (.iaload, 1) := by decide +kernel
theorem dX10_of_94 : decode cX10_of 94 = .ok (.ireturn, 1) := by decide +kernel
theorem dX10_of_95 : decode cX10_of 95 = .ok (.aload_n 0, 1) := by decide +kernel
theorem dX10_of_96 : decode cX10_of 96 = .ok (.iload_n 1, 1) := by decide +kernel
theorem dX10_of_97 : decode cX10_of 97 = .ok (.invokevirtual 322, 3) := by decide +kernel
theorem dX10_of_100 : decode cX10_of 100 = .ok (.ireturn, 1) := by decide +kernel
theorem dX10_of_101 : decode cX10_of 101 = .ok (.aload_n 0, 1) := by decide +kernel
theorem dX10_of_102 : decode cX10_of 102 = .ok (.iload_n 1, 1) := by decide +kernel
theorem dX10_of_103 : decode cX10_of 103 = .ok (.invokevirtual 337, 3) := by decide +kernel
theorem dX10_of_106 : decode cX10_of 106 = .ok (.ireturn, 1) := by decide +kernel
theorem dX10_of_107 : decode cX10_of 107 = .ok (.aload_n 0, 1) := by decide +kernel
theorem dX10_of_108 : decode cX10_of 108 = .ok (.iload_n 1, 1) := by decide +kernel
theorem dX10_of_109 : decode cX10_of 109 = .ok (.invokevirtual 340, 3) := by decide +kernel
theorem dX10_of_112 : decode cX10_of 112 = .ok (.ireturn, 1) := by decide +kernel
theorem dX10_of_113 : decode cX10_of 113 = .ok (.sipush (-10001), 3) := by decide +kernel
theorem dX10_of_116 : decode cX10_of 116 = .ok (.ireturn, 1) := by decide +kernel
def f_X10_of (X : x_X) (v0 : Nat) (v1 : Int32) (v2 : Int32) (μ : x_M) : Option (Int32 × x_M) :=
  (ck (x_kd X v0 = 10 + 1) (bd (f_X10_isAccount X v0 v1 μ) (fun (v4 : Int32) (μ5 : x_M) => (if v4 = 0 then (some ((-10001 : Int32), μ5)) else (x_swo [(0 : Int32), (1 : Int32), (2 : Int32), (3 : Int32), (4 : Int32), (5 : Int32), (6 : Int32), (7 : Int32)] [(ck (x_kd X v0 = 10 + 1) (lt (μ5.2.1 v0 5) (fun (v6 : Nat) => (ck ((x_kd X v6 = 20 ∨ x_kd X v6 = 40) ∧ x_ix v1 (x_ln X v6)) (some ((μ5.1 v6 (v1).toNatClampNeg), μ5)))))), (ck (x_kd X v0 = 10 + 1) (lt (μ5.2.1 v0 6) (fun (v7 : Nat) => (ck ((x_kd X v7 = 20 ∨ x_kd X v7 = 40) ∧ x_ix v1 (x_ln X v7)) (some ((μ5.1 v7 (v1).toNatClampNeg), μ5)))))), (ck (x_kd X v0 = 10 + 1) (lt (μ5.2.1 v0 7) (fun (v8 : Nat) => (ck ((x_kd X v8 = 20 ∨ x_kd X v8 = 40) ∧ x_ix v1 (x_ln X v8)) (some ((μ5.1 v8 (v1).toNatClampNeg), μ5)))))), (ck (x_kd X v0 = 10 + 1) (lt (μ5.2.1 v0 8) (fun (v9 : Nat) => (ck ((x_kd X v9 = 20 ∨ x_kd X v9 = 40) ∧ x_ix v1 (x_ln X v9)) (some ((μ5.1 v9 (v1).toNatClampNeg), μ5)))))), (ck (x_kd X v0 = 10 + 1) (lt (μ5.2.1 v0 9) (fun (v10 : Nat) => (ck ((x_kd X v10 = 20 ∨ x_kd X v10 = 40) ∧ x_ix v1 (x_ln X v10)) (some ((μ5.1 v10 (v1).toNatClampNeg), μ5)))))), (ck (x_kd X v0 = 10 + 1) (bd (f_X10_liftsOf X v0 v1 μ5) (fun (v11 : Int32) (μ12 : x_M) => (some (v11, μ12))))), (ck (x_kd X v0 = 10 + 1) (bd (f_X10_poursOf X v0 v1 μ5) (fun (v13 : Int32) (μ14 : x_M) => (some (v13, μ14))))), (ck (x_kd X v0 = 10 + 1) (bd (f_X10_sunOf X v0 v1 μ5) (fun (v15 : Int32) (μ16 : x_M) => (some (v15, μ16)))))] (some ((-10001 : Int32), μ5)) v2)))))
set_option maxRecDepth 100000 in
theorem m_X10_of (hI : x_I X) (v0 : Nat) (v1 : Int32) (v2 : Int32) (μ : x_M) : x_Met X x_Z0 l yX10_of cX10_of 3 (some .int) 5 [vR v0, vI v1, vI v2] μ rkI (f_X10_of X v0 v1 v2 μ) := by
  refine x_enter hI (by decide +kernel) (Nat.le_of_ble_eq_true rfl) (fun p e s m args below meth c hC hr hlk => ?_)
  unfold f_X10_of
  refine s_lv (lv' := [(0, vR v0), (1, vI v1), (2, vI v2)]) [0, 1, 2] rfl ?_
  refine s_aload_n hC 0 dX10_of_0 rfl ?_
  refine s_iload_n hC 1 dX10_of_1 rfl ?_
  refine s_callV hC (x := v0) (avs := [vI v1]) (st := []) (nest := false) xc10 (m_X10_isAccount hI v0 v1 μ) dX10_of_2 qm_X10_257 qi_X10_isAccount qs_X10_isAccount qc_X10 qd_X10_isAccount qh_X10_isAccount (by decide) (fun _ => Nat.le_of_ble_eq_true rfl) (Nat.le_of_ble_eq_true rfl) (fun v4 μ5 => ?_)
  refine s_if_ne hC dX10_of_5 (tgt := 12) (by decide) ?_ ?_
  · refine s_iload_n hC 2 dX10_of_12 rfl ?_
    refine s_table hC dX10_of_13 [((0 : Int32), 60), ((1 : Int32), 67), ((2 : Int32), 74), ((3 : Int32), 81), ((4 : Int32), 88), ((5 : Int32), 95), ((6 : Int32), 101), ((7 : Int32), 107)] 113 (by decide +kernel) ⟨?_, ?_, ?_, ?_, ?_, ?_, ?_, ?_, trivial⟩ ?_
    · refine s_aload_n hC 0 dX10_of_60 rfl ?_
      refine s_getR hC xc10 (by decide) rfl qf_X10_26 dX10_of_61 ?_
      refine s_ltR (fun v6 => ?_)
      refine s_iload_n hC 1 dX10_of_64 rfl ?_
      refine s_iald hC dX10_of_65 ?_
      exact s_iret hC hr hlk dX10_of_66
    · refine s_aload_n hC 0 dX10_of_67 rfl ?_
      refine s_getR hC xc10 (by decide) rfl qf_X10_29 dX10_of_68 ?_
      refine s_ltR (fun v7 => ?_)
      refine s_iload_n hC 1 dX10_of_71 rfl ?_
      refine s_iald hC dX10_of_72 ?_
      exact s_iret hC hr hlk dX10_of_73
    · refine s_aload_n hC 0 dX10_of_74 rfl ?_
      refine s_getR hC xc10 (by decide) rfl qf_X10_32 dX10_of_75 ?_
      refine s_ltR (fun v8 => ?_)
      refine s_iload_n hC 1 dX10_of_78 rfl ?_
      refine s_iald hC dX10_of_79 ?_
      exact s_iret hC hr hlk dX10_of_80
    · refine s_aload_n hC 0 dX10_of_81 rfl ?_
      refine s_getR hC xc10 (by decide) rfl qf_X10_35 dX10_of_82 ?_
      refine s_ltR (fun v9 => ?_)
      refine s_iload_n hC 1 dX10_of_85 rfl ?_
      refine s_iald hC dX10_of_86 ?_
      exact s_iret hC hr hlk dX10_of_87
    · refine s_aload_n hC 0 dX10_of_88 rfl ?_
      refine s_getR hC xc10 (by decide) rfl qf_X10_38 dX10_of_89 ?_
      refine s_ltR (fun v10 => ?_)
      refine s_iload_n hC 1 dX10_of_92 rfl ?_
      refine s_iald hC dX10_of_93 ?_
      exact s_iret hC hr hlk dX10_of_94
    · refine s_aload_n hC 0 dX10_of_95 rfl ?_
      refine s_iload_n hC 1 dX10_of_96 rfl ?_
      refine s_callV hC (x := v0) (avs := [vI v1]) (st := []) (nest := false) xc10 (m_X10_liftsOf hI v0 v1 μ5) dX10_of_97 qm_X10_322 qi_X10_liftsOf qs_X10_liftsOf qc_X10 qd_X10_liftsOf qh_X10_liftsOf (by decide) (fun _ => Nat.le_of_ble_eq_true rfl) (Nat.le_of_ble_eq_true rfl) (fun v11 μ12 => ?_)
      exact s_iret hC hr hlk dX10_of_100
    · refine s_aload_n hC 0 dX10_of_101 rfl ?_
      refine s_iload_n hC 1 dX10_of_102 rfl ?_
      refine s_callV hC (x := v0) (avs := [vI v1]) (st := []) (nest := false) xc10 (m_X10_poursOf hI v0 v1 μ5) dX10_of_103 qm_X10_337 qi_X10_poursOf qs_X10_poursOf qc_X10 qd_X10_poursOf qh_X10_poursOf (by decide) (fun _ => Nat.le_of_ble_eq_true rfl) (Nat.le_of_ble_eq_true rfl) (fun v13 μ14 => ?_)
      exact s_iret hC hr hlk dX10_of_106
    · refine s_aload_n hC 0 dX10_of_107 rfl ?_
      refine s_iload_n hC 1 dX10_of_108 rfl ?_
      refine s_callV hC (x := v0) (avs := [vI v1]) (st := []) (nest := false) xc10 (m_X10_sunOf hI v0 v1 μ5) dX10_of_109 qm_X10_340 qi_X10_sunOf qs_X10_sunOf qc_X10 qd_X10_sunOf qh_X10_sunOf (by decide) (fun _ => Nat.le_of_ble_eq_true rfl) (Nat.le_of_ble_eq_true rfl) (fun v15 μ16 => ?_)
      exact s_iret hC hr hlk dX10_of_112
    refine s_sipush hC dX10_of_113 (v := -10001) (by decide) ?_
    exact s_iret hC hr hlk dX10_of_116
  refine s_sipush hC dX10_of_8 (v := -10001) (by decide) ?_
  exact s_iret hC hr hlk dX10_of_11
theorem dX10_told_0 : decode cX10_told 0 = .ok (.aload_n 0, 1) := by decide +kernel
theorem dX10_told_1 : decode cX10_told 1 = .ok (.iload_n 1, 1) := by decide +kernel
theorem dX10_told_2 : decode cX10_told 2 = .ok (.bipush 10, 2) := by decide +kernel
theorem dX10_told_4 : decode cX10_told 4 = .ok (.bipush 15, 2) := by decide +kernel
theorem dX10_told_6 : decode cX10_told 6 = .ok (.invokevirtual 245, 3) := by decide +kernel
theorem dX10_told_9 : decode cX10_told 9 = .ok (.ifCond .eq 13, 3) := by decide +kernel
theorem dX10_told_12 : decode cX10_told 12 = .ok (.aload_n 0, 1) := by decide +kernel
theorem dX10_told_13 : decode cX10_told 13 = .ok (.getfield 22, 3) := by decide +kernel
theorem dX10_told_16 : decode cX10_told 16 = .ok (.iload_n 1, 1) := by decide +kernel
theorem dX10_told_17 : decode cX10_told 17 = .ok (.bipush 10, 2) := by decide +kernel
theorem dX10_told_19 : decode cX10_told 19 = .ok (.isub, 1) := by decide +kernel
theorem dX10_told_20 : decode cX10_told 20 = .ok (.iaload, 1) := by decide +kernel
theorem dX10_told_21 : decode cX10_told 21 = .ok (.ireturn, 1) := by decide +kernel
theorem dX10_told_22 : decode cX10_told 22 = .ok (.iload_n 1, 1) := by decide +kernel
theorem dX10_told_23 : decode cX10_told 23 = .ok (.tableswitch 87 0 7 #[45, 50, 55, 60, 65, 70, 75, 82], 45) := by decide +kernel
theorem dX10_told_68 : decode cX10_told 68 = .ok (.aload_n 0, 1) := by decide +kernel
theorem dX10_told_69 : decode cX10_told 69 = .ok (.getfield 13, 3) := by decide +kernel
theorem dX10_told_72 : decode cX10_told 72 = .ok (.ireturn, 1) := by decide +kernel
theorem dX10_told_73 : decode cX10_told 73 = .ok (.aload_n 0, 1) := by decide +kernel
theorem dX10_told_74 : decode cX10_told 74 = .ok (.getfield 16, 3) := by decide +kernel
theorem dX10_told_77 : decode cX10_told 77 = .ok (.ireturn, 1) := by decide +kernel
theorem dX10_told_78 : decode cX10_told 78 = .ok (.aload_n 0, 1) := by decide +kernel
theorem dX10_told_79 : decode cX10_told 79 = .ok (.getfield 19, 3) := by decide +kernel
theorem dX10_told_82 : decode cX10_told 82 = .ok (.ireturn, 1) := by decide +kernel
theorem dX10_told_83 : decode cX10_told 83 = .ok (.aload_n 0, 1) := by decide +kernel
theorem dX10_told_84 : decode cX10_told 84 = .ok (.invokevirtual 328, 3) := by decide +kernel
theorem dX10_told_87 : decode cX10_told 87 = .ok (.ireturn, 1) := by decide +kernel
theorem dX10_told_88 : decode cX10_told 88 = .ok (.aload_n 0, 1) := by decide +kernel
theorem dX10_told_89 : decode cX10_told 89 = .ok (.invokevirtual 343, 3) := by decide +kernel
theorem dX10_told_92 : decode cX10_told 92 = .ok (.ireturn, 1) := by decide +kernel
theorem dX10_told_93 : decode cX10_told 93 = .ok (.aload_n 0, 1) := by decide +kernel
theorem dX10_told_94 : decode cX10_told 94 = .ok (.invokevirtual 346, 3) := by decide +kernel
theorem dX10_told_97 : decode cX10_told 97 = .ok (.ireturn, 1) := by decide +kernel
theorem dX10_told_98 : decode cX10_told 98 = .ok (.aload_n 0, 1) := by decide +kernel
theorem dX10_told_99 : decode cX10_told 99 = .ok (.iconst 4, 1) := by decide +kernel
theorem dX10_told_100 : decode cX10_told 100 = .ok (.iconst 0, 1) := by decide +kernel
theorem dX10_told_101 : decode cX10_told 101 = .ok (.invokevirtual 315, 3) := by decide +kernel
theorem dX10_told_104 : decode cX10_told 104 = .ok (.ireturn, 1) := by decide +kernel
theorem dX10_told_105 : decode cX10_told 105 = .ok (.aload_n 0, 1) := by decide +kernel
theorem dX10_told_106 : decode cX10_told 106 = .ok (.invokevirtual 349, 3) := by decide +kernel
theorem dX10_told_109 : decode cX10_told 109 = .ok (.ireturn, 1) := by decide +kernel
theorem dX10_told_110 : decode cX10_told 110 = .ok (.iconst (-1), 1) := by decide +kernel
theorem dX10_told_111 : decode cX10_told 111 = .ok (.ireturn, 1) := by decide +kernel
def f_X10_told (X : x_X) (v0 : Nat) (v1 : Int32) (μ : x_M) : Option (Int32 × x_M) :=
  (ck (x_kd X v0 = 10 + 1) (bd (f_X10_in X v0 v1 (10 : Int32) (15 : Int32) μ) (fun (v3 : Int32) (μ4 : x_M) => (if v3 = 0 then (x_swo [(0 : Int32), (1 : Int32), (2 : Int32), (3 : Int32), (4 : Int32), (5 : Int32), (6 : Int32), (7 : Int32)] [(ck (x_kd X v0 = 10 + 1) (some ((μ4.1 v0 1), μ4))), (ck (x_kd X v0 = 10 + 1) (some ((μ4.1 v0 2), μ4))), (ck (x_kd X v0 = 10 + 1) (some ((μ4.1 v0 3), μ4))), (ck (x_kd X v0 = 10 + 1) (bd (f_X10_level X v0 μ4) (fun (v5 : Int32) (μ6 : x_M) => (some (v5, μ6))))), (ck (x_kd X v0 = 10 + 1) (bd (f_X10_mark X v0 μ4) (fun (v7 : Int32) (μ8 : x_M) => (some (v7, μ8))))), (ck (x_kd X v0 = 10 + 1) (bd (f_X10_floor X v0 μ4) (fun (v9 : Int32) (μ10 : x_M) => (some (v9, μ10))))), (ck (x_kd X v0 = 10 + 1) (bd (f_X10_lastOf X v0 (4 : Int32) (0 : Int32) μ4) (fun (v11 : Int32) (μ12 : x_M) => (some (v11, μ12))))), (ck (x_kd X v0 = 10 + 1) (bd (f_X10_spring X v0 μ4) (fun (v13 : Int32) (μ14 : x_M) => (some (v13, μ14)))))] (some ((-1 : Int32), μ4)) v1) else (ck (x_kd X v0 = 10 + 1) (lt (μ4.2.1 v0 4) (fun (v15 : Nat) => (lt (v1 - (10 : Int32)) (fun (v16 : Int32) => (ck ((x_kd X v15 = 20 ∨ x_kd X v15 = 40) ∧ x_ix v16 (x_ln X v15)) (some ((μ4.1 v15 (v16).toNatClampNeg), μ4))))))))))))
set_option maxRecDepth 100000 in
theorem m_X10_told (hI : x_I X) (v0 : Nat) (v1 : Int32) (μ : x_M) : x_Met X x_Z0 l yX10_told cX10_told 2 (some .int) 5 [vR v0, vI v1] μ rkI (f_X10_told X v0 v1 μ) := by
  refine x_enter hI (by decide +kernel) (Nat.le_of_ble_eq_true rfl) (fun p e s m args below meth c hC hr hlk => ?_)
  unfold f_X10_told
  refine s_lv (lv' := [(0, vR v0), (1, vI v1)]) [0, 1] rfl ?_
  refine s_aload_n hC 0 dX10_told_0 rfl ?_
  refine s_iload_n hC 1 dX10_told_1 rfl ?_
  refine s_bipush hC dX10_told_2 (v := 10) (by decide) ?_
  refine s_bipush hC dX10_told_4 (v := 15) (by decide) ?_
  refine s_callV hC (x := v0) (avs := [vI v1, vI (10 : Int32), vI (15 : Int32)]) (st := []) (nest := false) xc10 (m_X10_in hI v0 v1 (10 : Int32) (15 : Int32) μ) dX10_told_6 qm_X10_245 qi_X10_in qs_X10_in qc_X10 qd_X10_in qh_X10_in (by decide) (fun _ => Nat.le_of_ble_eq_true rfl) (Nat.le_of_ble_eq_true rfl) (fun v3 μ4 => ?_)
  refine s_if_eq hC dX10_told_9 (tgt := 22) (by decide) ?_ ?_
  · refine s_iload_n hC 1 dX10_told_22 rfl ?_
    refine s_table hC dX10_told_23 [((0 : Int32), 68), ((1 : Int32), 73), ((2 : Int32), 78), ((3 : Int32), 83), ((4 : Int32), 88), ((5 : Int32), 93), ((6 : Int32), 98), ((7 : Int32), 105)] 110 (by decide +kernel) ⟨?_, ?_, ?_, ?_, ?_, ?_, ?_, ?_, trivial⟩ ?_
    · refine s_aload_n hC 0 dX10_told_68 rfl ?_
      refine s_getI hC xc10 (by decide) rfl qf_X10_13 dX10_told_69 ?_
      exact s_iret hC hr hlk dX10_told_72
    · refine s_aload_n hC 0 dX10_told_73 rfl ?_
      refine s_getI hC xc10 (by decide) rfl qf_X10_16 dX10_told_74 ?_
      exact s_iret hC hr hlk dX10_told_77
    · refine s_aload_n hC 0 dX10_told_78 rfl ?_
      refine s_getI hC xc10 (by decide) rfl qf_X10_19 dX10_told_79 ?_
      exact s_iret hC hr hlk dX10_told_82
    · refine s_aload_n hC 0 dX10_told_83 rfl ?_
      refine s_callV hC (x := v0) (avs := []) (st := []) (nest := false) xc10 (m_X10_level hI v0 μ4) dX10_told_84 qm_X10_328 qi_X10_level qs_X10_level qc_X10 qd_X10_level qh_X10_level (by decide) (fun _ => Nat.le_of_ble_eq_true rfl) (Nat.le_of_ble_eq_true rfl) (fun v5 μ6 => ?_)
      exact s_iret hC hr hlk dX10_told_87
    · refine s_aload_n hC 0 dX10_told_88 rfl ?_
      refine s_callV hC (x := v0) (avs := []) (st := []) (nest := false) xc10 (m_X10_mark hI v0 μ4) dX10_told_89 qm_X10_343 qi_X10_mark qs_X10_mark qc_X10 qd_X10_mark qh_X10_mark (by decide) (fun _ => Nat.le_of_ble_eq_true rfl) (Nat.le_of_ble_eq_true rfl) (fun v7 μ8 => ?_)
      exact s_iret hC hr hlk dX10_told_92
    · refine s_aload_n hC 0 dX10_told_93 rfl ?_
      refine s_callV hC (x := v0) (avs := []) (st := []) (nest := false) xc10 (m_X10_floor hI v0 μ4) dX10_told_94 qm_X10_346 qi_X10_floor qs_X10_floor qc_X10 qd_X10_floor qh_X10_floor (by decide) (fun _ => Nat.le_of_ble_eq_true rfl) (Nat.le_of_ble_eq_true rfl) (fun v9 μ10 => ?_)
      exact s_iret hC hr hlk dX10_told_97
    · refine s_aload_n hC 0 dX10_told_98 rfl ?_
      refine s_iconst hC dX10_told_99 (v := 4) (by decide) ?_
      refine s_iconst hC dX10_told_100 (v := 0) (by decide) ?_
      refine s_callV hC (x := v0) (avs := [vI (4 : Int32), vI (0 : Int32)]) (st := []) (nest := false) xc10 (m_X10_lastOf hI v0 (4 : Int32) (0 : Int32) μ4) dX10_told_101 qm_X10_315 qi_X10_lastOf qs_X10_lastOf qc_X10 qd_X10_lastOf qh_X10_lastOf (by decide) (fun _ => Nat.le_of_ble_eq_true rfl) (Nat.le_of_ble_eq_true rfl) (fun v11 μ12 => ?_)
      exact s_iret hC hr hlk dX10_told_104
    · refine s_aload_n hC 0 dX10_told_105 rfl ?_
      refine s_callV hC (x := v0) (avs := []) (st := []) (nest := false) xc10 (m_X10_spring hI v0 μ4) dX10_told_106 qm_X10_349 qi_X10_spring qs_X10_spring qc_X10 qd_X10_spring qh_X10_spring (by decide) (fun _ => Nat.le_of_ble_eq_true rfl) (Nat.le_of_ble_eq_true rfl) (fun v13 μ14 => ?_)
      exact s_iret hC hr hlk dX10_told_109
    refine s_iconst hC dX10_told_110 (v := -1) (by decide) ?_
    exact s_iret hC hr hlk dX10_told_111
  refine s_aload_n hC 0 dX10_told_12 rfl ?_
  refine s_getR hC xc10 (by decide) rfl qf_X10_22 dX10_told_13 ?_
  refine s_ltR (fun v15 => ?_)
  refine s_iload_n hC 1 dX10_told_16 rfl ?_
  refine s_bipush hC dX10_told_17 (v := 10) (by decide) ?_
  refine s_isub hC dX10_told_19 ?_
  refine s_ltI (fun v16 => ?_)
  refine s_iald hC dX10_told_20 ?_
  exact s_iret hC hr hlk dX10_told_21
theorem dX10_goDay_0 : decode cX10_goDay 0 = .ok (.iconst 0, 1) := by decide +kernel
theorem dX10_goDay_1 : decode cX10_goDay 1 = .ok (.istore_n 1, 1) := by decide +kernel
theorem dX10_goDay_2 : decode cX10_goDay 2 = .ok (.iload_n 1, 1) := by decide +kernel
theorem dX10_goDay_3 : decode cX10_goDay 3 = .ok (.aload_n 0, 1) := by decide +kernel
theorem dX10_goDay_4 : decode cX10_goDay 4 = .ok (.getfield 7, 3) := by decide +kernel
theorem dX10_goDay_7 : decode cX10_goDay 7 = .ok (.if_icmp .ge 31, 3) := by decide +kernel
theorem dX10_goDay_10 : decode cX10_goDay 10 = .ok (.aload_n 0, 1) := by decide +kernel
theorem dX10_goDay_11 : decode cX10_goDay 11 = .ok (.getfield 111, 3) := by decide +kernel
theorem dX10_goDay_14 : decode cX10_goDay 14 = .ok (.iload_n 1, 1) := by decide +kernel
theorem dX10_goDay_15 : decode cX10_goDay 15 = .ok (.aload_n 0, 1) := by decide +kernel
theorem dX10_goDay_16 : decode cX10_goDay 16 = .ok (.iload_n 1, 1) := by decide +kernel
theorem dX10_goDay_17 : decode cX10_goDay 17 = .ok (.invokevirtual 337, 3) := by decide +kernel
theorem dX10_goDay_20 : decode cX10_goDay 20 = .ok (.iastore, 1) := by decide +kernel
theorem dX10_goDay_21 : decode cX10_goDay 21 = .ok (.aload_n 0, 1) := by decide +kernel
theorem dX10_goDay_22 : decode cX10_goDay 22 = .ok (.getfield 114, 3) := by decide +kernel
theorem dX10_goDay_25 : decode cX10_goDay 25 = .ok (.iload_n 1, 1) := by decide +kernel
theorem dX10_goDay_26 : decode cX10_goDay 26 = .ok (.aload_n 0, 1) := by decide +kernel
theorem dX10_goDay_27 : decode cX10_goDay 27 = .ok (.iload_n 1, 1) := by decide +kernel
theorem dX10_goDay_28 : decode cX10_goDay 28 = .ok (.invokevirtual 340, 3) := by decide +kernel
theorem dX10_goDay_31 : decode cX10_goDay 31 = .ok (.iastore, 1) := by decide +kernel
theorem dX10_goDay_32 : decode cX10_goDay 32 = .ok (.iinc 1 1, 3) := by decide +kernel
theorem dX10_goDay_35 : decode cX10_goDay 35 = .ok (.goto (-33), 3) := by decide +kernel
theorem dX10_goDay_38 : decode cX10_goDay 38 = .ok (.aload_n 0, 1) := by decide +kernel
theorem dX10_goDay_39 : decode cX10_goDay 39 = .ok (.invokevirtual 349, 3) := by decide +kernel
theorem dX10_goDay_42 : decode cX10_goDay 42 = .ok (.istore_n 1, 1) := by decide +kernel
theorem dX10_goDay_43 : decode cX10_goDay 43 = .ok (.iconst 0, 1) := by decide +kernel
theorem dX10_goDay_44 : decode cX10_goDay 44 = .ok (.istore_n 2, 1) := by decide +kernel
theorem dX10_goDay_45 : decode cX10_goDay 45 = .ok (.iload_n 2, 1) := by decide +kernel
theorem dX10_goDay_46 : decode cX10_goDay 46 = .ok (.aload_n 0, 1) := by decide +kernel
theorem dX10_goDay_47 : decode cX10_goDay 47 = .ok (.getfield 7, 3) := by decide +kernel
theorem dX10_goDay_50 : decode cX10_goDay 50 = .ok (.if_icmp .ge 20, 3) := by decide +kernel
theorem dX10_goDay_53 : decode cX10_goDay 53 = .ok (.aload_n 0, 1) := by decide +kernel
theorem dX10_goDay_54 : decode cX10_goDay 54 = .ok (.iload_n 2, 1) := by decide +kernel
theorem dX10_goDay_55 : decode cX10_goDay 55 = .ok (.aload_n 0, 1) := by decide +kernel
theorem dX10_goDay_56 : decode cX10_goDay 56 = .ok (.getfield 111, 3) := by decide +kernel
theorem dX10_goDay_59 : decode cX10_goDay 59 = .ok (.iload_n 2, 1) := by decide +kernel
theorem dX10_goDay_60 : decode cX10_goDay 60 = .ok (.iaload, 1) := by decide +kernel
theorem dX10_goDay_61 : decode cX10_goDay 61 = .ok (.invokevirtual 352, 3) := by decide +kernel
theorem dX10_goDay_64 : decode cX10_goDay 64 = .ok (.iinc 2 1, 3) := by decide +kernel
theorem dX10_goDay_67 : decode cX10_goDay 67 = .ok (.goto (-22), 3) := by decide +kernel
theorem dX10_goDay_70 : decode cX10_goDay 70 = .ok (.iconst 0, 1) := by decide +kernel
theorem dX10_goDay_71 : decode cX10_goDay 71 = .ok (.istore_n 2, 1) := by decide +kernel
theorem dX10_goDay_72 : decode cX10_goDay 72 = .ok (.iload_n 2, 1) := by decide +kernel
theorem dX10_goDay_73 : decode cX10_goDay 73 = .ok (.aload_n 0, 1) := by decide +kernel
theorem dX10_goDay_74 : decode cX10_goDay 74 = .ok (.getfield 7, 3) := by decide +kernel
theorem dX10_goDay_77 : decode cX10_goDay 77 = .ok (.if_icmp .ge 56, 3) := by decide +kernel
theorem dX10_goDay_80 : decode cX10_goDay 80 = .ok (.aload_n 0, 1) := by decide +kernel
theorem dX10_goDay_81 : decode cX10_goDay 81 = .ok (.getfield 32, 3) := by decide +kernel
theorem dX10_goDay_84 : decode cX10_goDay 84 = .ok (.iload_n 2, 1) := by decide +kernel
theorem dX10_goDay_85 : decode cX10_goDay 85 = .ok (.dup2, 1) := by decide +kernel
theorem dX10_goDay_86 : decode cX10_goDay 86 = .ok (.iaload, 1) := by decide +kernel
theorem dX10_goDay_87 : decode cX10_goDay 87 = .ok (.aload_n 0, 1) := by decide +kernel
theorem dX10_goDay_88 : decode cX10_goDay 88 = .ok (.getfield 114, 3) := by decide +kernel
theorem dX10_goDay_91 : decode cX10_goDay 91 = .ok (.iload_n 2, 1) := by decide +kernel
theorem dX10_goDay_92 : decode cX10_goDay 92 = .ok (.iaload, 1) := by decide +kernel
theorem dX10_goDay_93 : decode cX10_goDay 93 = .ok (.isub, 1) := by decide +kernel
theorem dX10_goDay_94 : decode cX10_goDay 94 = .ok (.iastore, 1) := by decide +kernel
theorem dX10_goDay_95 : decode cX10_goDay 95 = .ok (.aload_n 0, 1) := by decide +kernel
theorem dX10_goDay_96 : decode cX10_goDay 96 = .ok (.aload_n 0, 1) := by decide +kernel
theorem dX10_goDay_97 : decode cX10_goDay 97 = .ok (.getfield 16, 3) := by decide +kernel
theorem dX10_goDay_100 : decode cX10_goDay 100 = .ok (.aload_n 0, 1) := by decide +kernel
theorem dX10_goDay_101 : decode cX10_goDay 101 = .ok (.getfield 114, 3) := by decide +kernel
theorem dX10_goDay_104 : decode cX10_goDay 104 = .ok (.iload_n 2, 1) := by decide +kernel
theorem dX10_goDay_105 : decode cX10_goDay 105 = .ok (.iaload, 1) := by decide +kernel
theorem dX10_goDay_106 : decode cX10_goDay 106 = .ok (.if_icmp .le 17, 3) := by decide +kernel
theorem dX10_goDay_109 : decode cX10_goDay 109 = .ok (.aload_n 0, 1) := by decide +kernel
theorem dX10_goDay_110 : decode cX10_goDay 110 = .ok (.getfield 16, 3) := by decide +kernel
theorem dX10_goDay_113 : decode cX10_goDay 113 = .ok (.aload_n 0, 1) := by decide +kernel
theorem dX10_goDay_114 : decode cX10_goDay 114 = .ok (.getfield 114, 3) := by decide +kernel
theorem dX10_goDay_117 : decode cX10_goDay 117 = .ok (.iload_n 2, 1) := by decide +kernel
theorem dX10_goDay_118 : decode cX10_goDay 118 = .ok (.iaload, 1) := by decide +kernel
theorem dX10_goDay_119 : decode cX10_goDay 119 = .ok (.isub, 1) := by decide +kernel
theorem dX10_goDay_120 : decode cX10_goDay 120 = .ok (.goto 4, 3) := by decide +kernel
theorem dX10_goDay_123 : decode cX10_goDay 123 = .ok (.iconst 0, 1) := by decide +kernel
theorem dX10_goDay_124 : decode cX10_goDay 124 = .ok (.putfield 16, 3) := by decide +kernel
theorem dX10_goDay_127 : decode cX10_goDay 127 = .ok (.iinc 2 1, 3) := by decide +kernel
theorem dX10_goDay_130 : decode cX10_goDay 130 = .ok (.goto (-58), 3) := by decide +kernel
theorem dX10_goDay_133 : decode cX10_goDay 133 = .ok (.aload_n 0, 1) := by decide +kernel
theorem dX10_goDay_134 : decode cX10_goDay 134 = .ok (.dup, 1) := by decide +kernel
theorem dX10_goDay_135 : decode cX10_goDay 135 = .ok (.getfield 16, 3) := by decide +kernel
theorem dX10_goDay_138 : decode cX10_goDay 138 = .ok (.iload_n 1, 1) := by decide +kernel
theorem dX10_goDay_139 : decode cX10_goDay 139 = .ok (.iadd, 1) := by decide +kernel
theorem dX10_goDay_140 : decode cX10_goDay 140 = .ok (.putfield 16, 3) := by decide +kernel
theorem dX10_goDay_143 : decode cX10_goDay 143 = .ok (.aload_n 0, 1) := by decide +kernel
theorem dX10_goDay_144 : decode cX10_goDay 144 = .ok (.aload_n 0, 1) := by decide +kernel
theorem dX10_goDay_145 : decode cX10_goDay 145 = .ok (.invokevirtual 343, 3) := by decide +kernel
theorem dX10_goDay_148 : decode cX10_goDay 148 = .ok (.invokevirtual 249, 3) := by decide +kernel
theorem dX10_goDay_151 : decode cX10_goDay 151 = .ok (.istore_n 2, 1) := by decide +kernel
theorem dX10_goDay_152 : decode cX10_goDay 152 = .ok (.aload_n 0, 1) := by decide +kernel
theorem dX10_goDay_153 : decode cX10_goDay 153 = .ok (.getfield 16, 3) := by decide +kernel
theorem dX10_goDay_156 : decode cX10_goDay 156 = .ok (.iload_n 2, 1) := by decide +kernel
theorem dX10_goDay_157 : decode cX10_goDay 157 = .ok (.if_icmp .le 46, 3) := by decide +kernel
theorem dX10_goDay_160 : decode cX10_goDay 160 = .ok (.aload_n 0, 1) := by decide +kernel
theorem dX10_goDay_161 : decode cX10_goDay 161 = .ok (.aload_n 0, 1) := by decide +kernel
theorem dX10_goDay_162 : decode cX10_goDay 162 = .ok (.getfield 19, 3) := by decide +kernel
theorem dX10_goDay_165 : decode cX10_goDay 165 = .ok (.aload_n 0, 1) := by decide +kernel
theorem dX10_goDay_166 : decode cX10_goDay 166 = .ok (.getfield 16, 3) := by decide +kernel
theorem dX10_goDay_169 : decode cX10_goDay 169 = .ok (.iadd, 1) := by decide +kernel
theorem dX10_goDay_170 : decode cX10_goDay 170 = .ok (.iload_n 2, 1) := by decide +kernel
theorem dX10_goDay_171 : decode cX10_goDay 171 = .ok (.isub, 1) := by decide +kernel
theorem dX10_goDay_172 : decode cX10_goDay 172 = .ok (.ldc_w 356, 3) := by decide +kernel
theorem dX10_goDay_175 : decode cX10_goDay 175 = .ok (.if_icmp .le 9, 3) := by decide +kernel
theorem dX10_goDay_178 : decode cX10_goDay 178 = .ok (.ldc_w 356, 3) := by decide +kernel
theorem dX10_goDay_181 : decode cX10_goDay 181 = .ok (.goto 14, 3) := by decide +kernel
theorem dX10_goDay_184 : decode cX10_goDay 184 = .ok (.aload_n 0, 1) := by decide +kernel
theorem dX10_goDay_185 : decode cX10_goDay 185 = .ok (.getfield 19, 3) := by decide +kernel
theorem dX10_goDay_188 : decode cX10_goDay 188 = .ok (.aload_n 0, 1) := by decide +kernel
theorem dX10_goDay_189 : decode cX10_goDay 189 = .ok (.getfield 16, 3) := by decide +kernel
theorem dX10_goDay_192 : decode cX10_goDay 192 = .ok (.iadd, 1) := by decide +kernel
theorem dX10_goDay_193 : decode cX10_goDay 193 = .ok (.iload_n 2, 1) := by decide +kernel
theorem dX10_goDay_194 : decode cX10_goDay 194 = .ok (.isub, 1) := by decide +kernel
theorem dX10_goDay_195 : decode cX10_goDay 195 = .ok (.putfield 19, 3) := by decide +kernel
theorem dX10_goDay_198 : decode cX10_goDay 198 = .ok (.aload_n 0, 1) := by decide +kernel
theorem dX10_goDay_199 : decode cX10_goDay 199 = .ok (.iload_n 2, 1) := by decide +kernel
theorem dX10_goDay_200 : decode cX10_goDay 200 = .ok (.putfield 16, 3) := by decide +kernel
theorem dX10_goDay_203 : decode cX10_goDay 203 = .ok (.iconst 0, 1) := by decide +kernel
theorem dX10_goDay_204 : decode cX10_goDay 204 = .ok (.istore_n 3, 1) := by decide +kernel
theorem dX10_goDay_205 : decode cX10_goDay 205 = .ok (.iload_n 3, 1) := by decide +kernel
theorem dX10_goDay_206 : decode cX10_goDay 206 = .ok (.aload_n 0, 1) := by decide +kernel
theorem dX10_goDay_207 : decode cX10_goDay 207 = .ok (.getfield 7, 3) := by decide +kernel
theorem dX10_goDay_210 : decode cX10_goDay 210 = .ok (.if_icmp .ge 25, 3) := by decide +kernel
theorem dX10_goDay_213 : decode cX10_goDay 213 = .ok (.aload_n 0, 1) := by decide +kernel
theorem dX10_goDay_214 : decode cX10_goDay 214 = .ok (.getfield 32, 3) := by decide +kernel
theorem dX10_goDay_217 : decode cX10_goDay 217 = .ok (.iload_n 3, 1) := by decide +kernel
theorem dX10_goDay_218 : decode cX10_goDay 218 = .ok (.aload_n 0, 1) := by decide +kernel
theorem dX10_goDay_219 : decode cX10_goDay 219 = .ok (.aload_n 0, 1) := by decide +kernel
theorem dX10_goDay_220 : decode cX10_goDay 220 = .ok (.getfield 32, 3) := by decide +kernel
theorem dX10_goDay_223 : decode cX10_goDay 223 = .ok (.iload_n 3, 1) := by decide +kernel
theorem dX10_goDay_224 : decode cX10_goDay 224 = .ok (.iaload, 1) := by decide +kernel
theorem dX10_goDay_225 : decode cX10_goDay 225 = .ok (.invokevirtual 357, 3) := by decide +kernel
theorem dX10_goDay_228 : decode cX10_goDay 228 = .ok (.iastore, 1) := by decide +kernel
theorem dX10_goDay_229 : decode cX10_goDay 229 = .ok (.iinc 3 1, 3) := by decide +kernel
theorem dX10_goDay_232 : decode cX10_goDay 232 = .ok (.goto (-27), 3) := by decide +kernel
theorem dX10_goDay_235 : decode cX10_goDay 235 = .ok (.aload_n 0, 1) := by decide +kernel
theorem dX10_goDay_236 : decode cX10_goDay 236 = .ok (.dup, 1) := by decide +kernel
theorem dX10_goDay_237 : decode cX10_goDay 237 = .ok (.getfield 13, 3) := by decide +kernel
theorem dX10_goDay_240 : decode cX10_goDay 240 = .ok (.iconst 1, 1) := by decide +kernel
theorem dX10_goDay_241 : decode cX10_goDay 241 = .ok (.iadd, 1) := by decide +kernel
theorem dX10_goDay_242 : decode cX10_goDay 242 = .ok (.putfield 13, 3) := by decide +kernel
theorem dX10_goDay_245 : decode cX10_goDay 245 = .ok (.return_, 1) := by decide +kernel
def f_X10_goDay_L2 (X : x_X) (k38 : Nat → x_M → Option (Unit × x_M)) : Nat → Nat → Int32 → x_M → Option (Unit × x_M)
  | 0, _, _, _ => none
  | n + 1, v2, v3, μ4 =>
    (ck (x_kd X v2 = 10 + 1) (if (μ4.1 v2 0) ≤ v3 then (k38 v2 μ4) else (ck (x_kd X v2 = 10 + 1) (lt (μ4.2.1 v2 33) (fun (v5 : Nat) => (ck (x_kd X v2 = 10 + 1) (bd (f_X10_poursOf X v2 v3 μ4) (fun (v6 : Int32) (μ7 : x_M) => (ck (x_kd X v5 = 20 ∧ x_ix v3 (x_ln X v5)) (lt (x_sI μ7 v5 (v3).toNatClampNeg v6) (fun (μ8 : x_M) => (ck (x_kd X v2 = 10 + 1) (lt (μ8.2.1 v2 34) (fun (v9 : Nat) => (ck (x_kd X v2 = 10 + 1) (bd (f_X10_sunOf X v2 v3 μ8) (fun (v10 : Int32) (μ11 : x_M) => (ck (x_kd X v9 = 20 ∧ x_ix v3 (x_ln X v9)) (lt (x_sI μ11 v9 (v3).toNatClampNeg v10) (fun (μ12 : x_M) => (f_X10_goDay_L2 X k38 n v2 (v3 + (1 : Int32)) μ12)))))))))))))))))))))
set_option maxRecDepth 100000 in
theorem j_X10_goDay_L2 (hI : x_I X) (hC : x_C X x_Z0 p (x_rm 5) s m c cX10_goDay RX10 4 0 0 5) (hr : meth.sig.returnType = none) (hlk : meth.locks = false) {k38 : Nat → x_M → Option (Unit × x_M)} (hk38 : ∀ (b0 : Nat) (μ : x_M), SM X 4 5 rkV p l e s m args below meth c 38 [(0, vR b0)] [] μ (k38 b0 μ)) : ∀ (n : Nat) (v2 : Nat) (v3 : Int32) (μ4 : x_M), SM X 4 5 rkV p l e s m args below meth c 2 [(0, vR v2), (1, vI v3)] [] μ4 (f_X10_goDay_L2 X k38 n v2 v3 μ4) := by
  intro n
  induction n with
  | zero => intro v2 v3 μ4; exact s_none
  | succ n ih =>
    intro v2 v3 μ4
    unfold f_X10_goDay_L2
    refine s_iload_n hC 1 dX10_goDay_2 rfl ?_
    refine s_aload_n hC 0 dX10_goDay_3 rfl ?_
    refine s_getI hC xc10 (by decide) rfl qf_X10_7 dX10_goDay_4 ?_
    refine s_icmp_ge hC dX10_goDay_7 (tgt := 38) (by decide) ?_ ?_
    · refine s_lv (lv' := [(0, vR v2)]) [0] rfl ?_
      exact hk38 _ _
    refine s_aload_n hC 0 dX10_goDay_10 rfl ?_
    refine s_getR hC xc10 (by decide) rfl qf_X10_111 dX10_goDay_11 ?_
    refine s_ltR (fun v5 => ?_)
    refine s_iload_n hC 1 dX10_goDay_14 rfl ?_
    refine s_aload_n hC 0 dX10_goDay_15 rfl ?_
    refine s_iload_n hC 1 dX10_goDay_16 rfl ?_
    refine s_callV hC (x := v2) (avs := [vI v3]) (st := [vI v3, vR v5]) (nest := false) xc10 (m_X10_poursOf hI v2 v3 μ4) dX10_goDay_17 qm_X10_337 qi_X10_poursOf qs_X10_poursOf qc_X10 qd_X10_poursOf qh_X10_poursOf (by decide) (fun _ => Nat.le_of_ble_eq_true rfl) (Nat.le_of_ble_eq_true rfl) (fun v6 μ7 => ?_)
    refine s_iast hC dX10_goDay_20 ?_
    refine s_ltM (fun μ8 => ?_)
    refine s_aload_n hC 0 dX10_goDay_21 rfl ?_
    refine s_getR hC xc10 (by decide) rfl qf_X10_114 dX10_goDay_22 ?_
    refine s_ltR (fun v9 => ?_)
    refine s_iload_n hC 1 dX10_goDay_25 rfl ?_
    refine s_aload_n hC 0 dX10_goDay_26 rfl ?_
    refine s_iload_n hC 1 dX10_goDay_27 rfl ?_
    refine s_callV hC (x := v2) (avs := [vI v3]) (st := [vI v3, vR v9]) (nest := false) xc10 (m_X10_sunOf hI v2 v3 μ8) dX10_goDay_28 qm_X10_340 qi_X10_sunOf qs_X10_sunOf qc_X10 qd_X10_sunOf qh_X10_sunOf (by decide) (fun _ => Nat.le_of_ble_eq_true rfl) (Nat.le_of_ble_eq_true rfl) (fun v10 μ11 => ?_)
    refine s_iast hC dX10_goDay_31 ?_
    refine s_ltM (fun μ12 => ?_)
    refine s_iinc hC 1 dX10_goDay_32 rfl (w := 1) (by decide) (by decide) (lv' := [(1, vI (v3 + (1 : Int32))), (0, vR v2)]) rfl ?_
    refine s_goto hC dX10_goDay_35 (tgt := 2) (by decide) ?_
    refine s_lv (lv' := [(0, vR v2), (1, vI (v3 + (1 : Int32)))]) [1, 0] rfl ?_
    exact ih _ _ _
def f_X10_goDay_L45 (X : x_X) (k70 : Nat → Int32 → x_M → Option (Unit × x_M)) : Nat → Nat → Int32 → Int32 → x_M → Option (Unit × x_M)
  | 0, _, _, _, _ => none
  | n + 1, v17, v18, v19, μ20 =>
    (ck (x_kd X v17 = 10 + 1) (if (μ20.1 v17 0) ≤ v19 then (k70 v17 v18 μ20) else (ck (x_kd X v17 = 10 + 1) (lt (μ20.2.1 v17 33) (fun (v21 : Nat) => (ck ((x_kd X v21 = 20 ∨ x_kd X v21 = 40) ∧ x_ix v19 (x_ln X v21)) (ck (x_kd X v17 = 10 + 1) (bd (f_X10_pours X v17 v19 (μ20.1 v21 (v19).toNatClampNeg) μ20) (fun (_ : Unit) (μ22 : x_M) => (f_X10_goDay_L45 X k70 n v17 v18 (v19 + (1 : Int32)) μ22))))))))))
set_option maxRecDepth 100000 in
theorem j_X10_goDay_L45 (hI : x_I X) (hC : x_C X x_Z0 p (x_rm 5) s m c cX10_goDay RX10 4 0 0 5) (hr : meth.sig.returnType = none) (hlk : meth.locks = false) {k70 : Nat → Int32 → x_M → Option (Unit × x_M)} (hk70 : ∀ (b0 : Nat) (b1 : Int32) (μ : x_M), SM X 4 5 rkV p l e s m args below meth c 70 [(0, vR b0), (1, vI b1)] [] μ (k70 b0 b1 μ)) : ∀ (n : Nat) (v17 : Nat) (v18 : Int32) (v19 : Int32) (μ20 : x_M), SM X 4 5 rkV p l e s m args below meth c 45 [(0, vR v17), (1, vI v18), (2, vI v19)] [] μ20 (f_X10_goDay_L45 X k70 n v17 v18 v19 μ20) := by
  intro n
  induction n with
  | zero => intro v17 v18 v19 μ20; exact s_none
  | succ n ih =>
    intro v17 v18 v19 μ20
    unfold f_X10_goDay_L45
    refine s_iload_n hC 2 dX10_goDay_45 rfl ?_
    refine s_aload_n hC 0 dX10_goDay_46 rfl ?_
    refine s_getI hC xc10 (by decide) rfl qf_X10_7 dX10_goDay_47 ?_
    refine s_icmp_ge hC dX10_goDay_50 (tgt := 70) (by decide) ?_ ?_
    · refine s_lv (lv' := [(0, vR v17), (1, vI v18)]) [0, 1] rfl ?_
      exact hk70 _ _ _
    refine s_aload_n hC 0 dX10_goDay_53 rfl ?_
    refine s_iload_n hC 2 dX10_goDay_54 rfl ?_
    refine s_aload_n hC 0 dX10_goDay_55 rfl ?_
    refine s_getR hC xc10 (by decide) rfl qf_X10_111 dX10_goDay_56 ?_
    refine s_ltR (fun v21 => ?_)
    refine s_iload_n hC 2 dX10_goDay_59 rfl ?_
    refine s_iald hC dX10_goDay_60 ?_
    refine s_callV hC (x := v17) (avs := [vI v19, vI (μ20.1 v21 (v19).toNatClampNeg)]) (st := []) (nest := false) xc10 (m_X10_pours hI v17 v19 (μ20.1 v21 (v19).toNatClampNeg) μ20) dX10_goDay_61 qm_X10_352 qi_X10_pours qs_X10_pours qc_X10 qd_X10_pours qh_X10_pours (by decide) (fun _ => Nat.le_of_ble_eq_true rfl) (Nat.le_of_ble_eq_true rfl) (fun _ μ22 => ?_)
    refine s_iinc hC 2 dX10_goDay_64 rfl (w := 1) (by decide) (by decide) (lv' := [(2, vI (v19 + (1 : Int32))), (0, vR v17), (1, vI v18)]) rfl ?_
    refine s_goto hC dX10_goDay_67 (tgt := 45) (by decide) ?_
    refine s_lv (lv' := [(0, vR v17), (1, vI v18), (2, vI (v19 + (1 : Int32)))]) [1, 2, 0] rfl ?_
    exact ih _ _ _ _
def f_X10_goDay_L72 (X : x_X) (k133 : Nat → Int32 → x_M → Option (Unit × x_M)) : Nat → Nat → Int32 → Int32 → x_M → Option (Unit × x_M)
  | 0, _, _, _, _ => none
  | n + 1, v26, v27, v28, μ29 =>
    (ck (x_kd X v26 = 10 + 1) (if (μ29.1 v26 0) ≤ v28 then (k133 v26 v27 μ29) else (ck (x_kd X v26 = 10 + 1) (lt (μ29.2.1 v26 7) (fun (v30 : Nat) => (ck ((x_kd X v30 = 20 ∨ x_kd X v30 = 40) ∧ x_ix v28 (x_ln X v30)) (ck (x_kd X v26 = 10 + 1) (lt (μ29.2.1 v26 34) (fun (v31 : Nat) => (ck ((x_kd X v31 = 20 ∨ x_kd X v31 = 40) ∧ x_ix v28 (x_ln X v31)) (ck (x_kd X v30 = 20 ∧ x_ix v28 (x_ln X v30)) (lt (x_sI μ29 v30 (v28).toNatClampNeg ((μ29.1 v30 (v28).toNatClampNeg) - (μ29.1 v31 (v28).toNatClampNeg))) (fun (μ32 : x_M) => (ck (x_kd X v26 = 10 + 1) (ck (x_kd X v26 = 10 + 1) (lt (μ32.2.1 v26 34) (fun (v33 : Nat) => (ck ((x_kd X v33 = 20 ∨ x_kd X v33 = 40) ∧ x_ix v28 (x_ln X v33)) (if (μ32.1 v26 2) ≤ (μ32.1 v33 (v28).toNatClampNeg) then (ck (x_kd X v26 = 10 + 1) (lt (x_sI μ32 v26 2 (0 : Int32)) (fun (μ34 : x_M) => (f_X10_goDay_L72 X k133 n v26 v27 (v28 + (1 : Int32)) μ34)))) else (ck (x_kd X v26 = 10 + 1) (ck (x_kd X v26 = 10 + 1) (lt (μ32.2.1 v26 34) (fun (v35 : Nat) => (ck ((x_kd X v35 = 20 ∨ x_kd X v35 = 40) ∧ x_ix v28 (x_ln X v35)) (ck (x_kd X v26 = 10 + 1) (lt (x_sI μ32 v26 2 ((μ32.1 v26 2) - (μ32.1 v35 (v28).toNatClampNeg))) (fun (μ36 : x_M) => (f_X10_goDay_L72 X k133 n v26 v27 (v28 + (1 : Int32)) μ36))))))))))))))))))))))))))))
set_option maxRecDepth 100000 in
theorem j_X10_goDay_L72 (hI : x_I X) (hC : x_C X x_Z0 p (x_rm 5) s m c cX10_goDay RX10 4 0 0 5) (hr : meth.sig.returnType = none) (hlk : meth.locks = false) {k133 : Nat → Int32 → x_M → Option (Unit × x_M)} (hk133 : ∀ (b0 : Nat) (b1 : Int32) (μ : x_M), SM X 4 5 rkV p l e s m args below meth c 133 [(0, vR b0), (1, vI b1)] [] μ (k133 b0 b1 μ)) : ∀ (n : Nat) (v26 : Nat) (v27 : Int32) (v28 : Int32) (μ29 : x_M), SM X 4 5 rkV p l e s m args below meth c 72 [(0, vR v26), (1, vI v27), (2, vI v28)] [] μ29 (f_X10_goDay_L72 X k133 n v26 v27 v28 μ29) := by
  intro n
  induction n with
  | zero => intro v26 v27 v28 μ29; exact s_none
  | succ n ih =>
    intro v26 v27 v28 μ29
    unfold f_X10_goDay_L72
    refine s_iload_n hC 2 dX10_goDay_72 rfl ?_
    refine s_aload_n hC 0 dX10_goDay_73 rfl ?_
    refine s_getI hC xc10 (by decide) rfl qf_X10_7 dX10_goDay_74 ?_
    refine s_icmp_ge hC dX10_goDay_77 (tgt := 133) (by decide) ?_ ?_
    · refine s_lv (lv' := [(0, vR v26), (1, vI v27)]) [0, 1] rfl ?_
      exact hk133 _ _ _
    refine s_aload_n hC 0 dX10_goDay_80 rfl ?_
    refine s_getR hC xc10 (by decide) rfl qf_X10_32 dX10_goDay_81 ?_
    refine s_ltR (fun v30 => ?_)
    refine s_iload_n hC 2 dX10_goDay_84 rfl ?_
    refine s_dup2 hC dX10_goDay_85 ?_
    refine s_iald hC dX10_goDay_86 ?_
    refine s_aload_n hC 0 dX10_goDay_87 rfl ?_
    refine s_getR hC xc10 (by decide) rfl qf_X10_114 dX10_goDay_88 ?_
    refine s_ltR (fun v31 => ?_)
    refine s_iload_n hC 2 dX10_goDay_91 rfl ?_
    refine s_iald hC dX10_goDay_92 ?_
    refine s_isub hC dX10_goDay_93 ?_
    refine s_iast hC dX10_goDay_94 ?_
    refine s_ltM (fun μ32 => ?_)
    refine s_aload_n hC 0 dX10_goDay_95 rfl ?_
    refine s_aload_n hC 0 dX10_goDay_96 rfl ?_
    refine s_getI hC xc10 (by decide) rfl qf_X10_16 dX10_goDay_97 ?_
    refine s_aload_n hC 0 dX10_goDay_100 rfl ?_
    refine s_getR hC xc10 (by decide) rfl qf_X10_114 dX10_goDay_101 ?_
    refine s_ltR (fun v33 => ?_)
    refine s_iload_n hC 2 dX10_goDay_104 rfl ?_
    refine s_iald hC dX10_goDay_105 ?_
    refine s_icmp_le hC dX10_goDay_106 (tgt := 123) (by decide) ?_ ?_
    · refine s_iconst hC dX10_goDay_123 (v := 0) (by decide) ?_
      refine s_putI hC xc10 (by decide) rfl rfl qf_X10_16 dX10_goDay_124 ?_
      refine s_ltM (fun μ34 => ?_)
      refine s_iinc hC 2 dX10_goDay_127 rfl (w := 1) (by decide) (by decide) (lv' := [(2, vI (v28 + (1 : Int32))), (0, vR v26), (1, vI v27)]) rfl ?_
      refine s_goto hC dX10_goDay_130 (tgt := 72) (by decide) ?_
      refine s_lv (lv' := [(0, vR v26), (1, vI v27), (2, vI (v28 + (1 : Int32)))]) [1, 2, 0] rfl ?_
      exact ih _ _ _ _
    refine s_aload_n hC 0 dX10_goDay_109 rfl ?_
    refine s_getI hC xc10 (by decide) rfl qf_X10_16 dX10_goDay_110 ?_
    refine s_aload_n hC 0 dX10_goDay_113 rfl ?_
    refine s_getR hC xc10 (by decide) rfl qf_X10_114 dX10_goDay_114 ?_
    refine s_ltR (fun v35 => ?_)
    refine s_iload_n hC 2 dX10_goDay_117 rfl ?_
    refine s_iald hC dX10_goDay_118 ?_
    refine s_isub hC dX10_goDay_119 ?_
    refine s_goto hC dX10_goDay_120 (tgt := 124) (by decide) ?_
    refine s_putI hC xc10 (by decide) rfl rfl qf_X10_16 dX10_goDay_124 ?_
    refine s_ltM (fun μ36 => ?_)
    refine s_iinc hC 2 dX10_goDay_127 rfl (w := 1) (by decide) (by decide) (lv' := [(2, vI (v28 + (1 : Int32))), (0, vR v26), (1, vI v27)]) rfl ?_
    refine s_goto hC dX10_goDay_130 (tgt := 72) (by decide) ?_
    refine s_lv (lv' := [(0, vR v26), (1, vI v27), (2, vI (v28 + (1 : Int32)))]) [1, 2, 0] rfl ?_
    exact ih _ _ _ _
def f_X10_goDay_L205 (X : x_X) (k235 : Nat → x_M → Option (Unit × x_M)) : Nat → Nat → Int32 → x_M → Option (Unit × x_M)
  | 0, _, _, _ => none
  | n + 1, v47, v48, μ49 =>
    (ck (x_kd X v47 = 10 + 1) (if (μ49.1 v47 0) ≤ v48 then (k235 v47 μ49) else (ck (x_kd X v47 = 10 + 1) (lt (μ49.2.1 v47 7) (fun (v50 : Nat) => (ck (x_kd X v47 = 10 + 1) (lt (μ49.2.1 v47 7) (fun (v51 : Nat) => (ck ((x_kd X v51 = 20 ∨ x_kd X v51 = 40) ∧ x_ix v48 (x_ln X v51)) (ck (x_kd X v47 = 10 + 1) (bd (f_X10_held X v47 (μ49.1 v51 (v48).toNatClampNeg) μ49) (fun (v52 : Int32) (μ53 : x_M) => (ck (x_kd X v50 = 20 ∧ x_ix v48 (x_ln X v50)) (lt (x_sI μ53 v50 (v48).toNatClampNeg v52) (fun (μ54 : x_M) => (f_X10_goDay_L205 X k235 n v47 (v48 + (1 : Int32)) μ54))))))))))))))))
set_option maxRecDepth 100000 in
theorem j_X10_goDay_L205 (hI : x_I X) (hC : x_C X x_Z0 p (x_rm 5) s m c cX10_goDay RX10 4 0 0 5) (hr : meth.sig.returnType = none) (hlk : meth.locks = false) {k235 : Nat → x_M → Option (Unit × x_M)} (hk235 : ∀ (b0 : Nat) (μ : x_M), SM X 4 5 rkV p l e s m args below meth c 235 [(0, vR b0)] [] μ (k235 b0 μ)) : ∀ (n : Nat) (v47 : Nat) (v48 : Int32) (μ49 : x_M), SM X 4 5 rkV p l e s m args below meth c 205 [(0, vR v47), (3, vI v48)] [] μ49 (f_X10_goDay_L205 X k235 n v47 v48 μ49) := by
  intro n
  induction n with
  | zero => intro v47 v48 μ49; exact s_none
  | succ n ih =>
    intro v47 v48 μ49
    unfold f_X10_goDay_L205
    refine s_iload_n hC 1 dX10_goDay_205 rfl ?_
    refine s_aload_n hC 0 dX10_goDay_206 rfl ?_
    refine s_getI hC xc10 (by decide) rfl qf_X10_7 dX10_goDay_207 ?_
    refine s_icmp_ge hC dX10_goDay_210 (tgt := 235) (by decide) ?_ ?_
    · refine s_lv (lv' := [(0, vR v47)]) [0] rfl ?_
      exact hk235 _ _
    refine s_aload_n hC 0 dX10_goDay_213 rfl ?_
    refine s_getR hC xc10 (by decide) rfl qf_X10_32 dX10_goDay_214 ?_
    refine s_ltR (fun v50 => ?_)
    refine s_iload_n hC 1 dX10_goDay_217 rfl ?_
    refine s_aload_n hC 0 dX10_goDay_218 rfl ?_
    refine s_aload_n hC 0 dX10_goDay_219 rfl ?_
    refine s_getR hC xc10 (by decide) rfl qf_X10_32 dX10_goDay_220 ?_
    refine s_ltR (fun v51 => ?_)
    refine s_iload_n hC 1 dX10_goDay_223 rfl ?_
    refine s_iald hC dX10_goDay_224 ?_
    refine s_callV hC (x := v47) (avs := [vI (μ49.1 v51 (v48).toNatClampNeg)]) (st := [vI v48, vR v50]) (nest := false) xc10 (m_X10_held hI v47 (μ49.1 v51 (v48).toNatClampNeg) μ49) dX10_goDay_225 qm_X10_357 qi_X10_held qs_X10_held qc_X10 qd_X10_held qh_X10_held (by decide) (fun _ => Nat.le_of_ble_eq_true rfl) (Nat.le_of_ble_eq_true rfl) (fun v52 μ53 => ?_)
    refine s_iast hC dX10_goDay_228 ?_
    refine s_ltM (fun μ54 => ?_)
    refine s_iinc hC 1 dX10_goDay_229 rfl (w := 1) (by decide) (by decide) (lv' := [(3, vI (v48 + (1 : Int32))), (0, vR v47)]) rfl ?_
    refine s_goto hC dX10_goDay_232 (tgt := 205) (by decide) ?_
    refine s_lv (lv' := [(0, vR v47), (3, vI (v48 + (1 : Int32)))]) [1, 0] rfl ?_
    exact ih _ _ _
def f_X10_goDay_J203 (X : x_X) (v45 : Nat) (μ46 : x_M) : Option (Unit × x_M) :=
  (f_X10_goDay_L205 X (fun (v55 : Nat) (μ56 : x_M) => (ck (x_kd X v55 = 10 + 1) (ck (x_kd X v55 = 10 + 1) (lt (x_sI μ56 v55 1 ((μ56.1 v55 1) + (1 : Int32))) (fun (μ57 : x_M) => (some ((), μ57))))))) 4096 v45 (0 : Int32) μ46)
set_option maxRecDepth 100000 in
theorem j_X10_goDay_J203 (hI : x_I X) (hC : x_C X x_Z0 p (x_rm 5) s m c cX10_goDay RX10 4 0 0 5) (hr : meth.sig.returnType = none) (hlk : meth.locks = false) (v45 : Nat) (μ46 : x_M) : SM X 4 5 rkV p l e s m args below meth c 203 [(0, vR v45)] [] μ46 (f_X10_goDay_J203 X v45 μ46) := by
  unfold f_X10_goDay_J203
  refine s_iconst hC dX10_goDay_203 (v := 0) (by decide) ?_
  refine s_istore_n hC dX10_goDay_204 (by decide) (lv' := [(3, vI (0 : Int32)), (0, vR v45)]) rfl ?_
  refine s_lv (lv' := [(0, vR v45), (3, vI (0 : Int32))]) [1, 0] rfl ?_
  refine j_X10_goDay_L205 hI hC hr hlk (fun v55 μ56 => ?_) 4096 _ _ _
  refine s_aload_n hC 0 dX10_goDay_235 rfl ?_
  refine s_dupR hC dX10_goDay_236 ?_
  refine s_getI hC xc10 (by decide) rfl qf_X10_13 dX10_goDay_237 ?_
  refine s_iconst hC dX10_goDay_240 (v := 1) (by decide) ?_
  refine s_iadd hC dX10_goDay_241 ?_
  refine s_putI hC xc10 (by decide) rfl rfl qf_X10_13 dX10_goDay_242 ?_
  refine s_ltM (fun μ57 => ?_)
  exact s_vret hC hr hlk dX10_goDay_245
def f_X10_goDay_J195 (X : x_X) (v58 : Nat) (v59 : Int32) (v60 : Int32) (v61 : Nat) (μ62 : x_M) : Option (Unit × x_M) :=
  (ck (x_kd X v61 = 10 + 1) (lt (x_sI μ62 v61 3 v60) (fun (μ63 : x_M) => (ck (x_kd X v58 = 10 + 1) (lt (x_sI μ63 v58 2 v59) (fun (μ64 : x_M) => (f_X10_goDay_J203 X v58 μ64)))))))
set_option maxRecDepth 100000 in
theorem j_X10_goDay_J195 (hI : x_I X) (hC : x_C X x_Z0 p (x_rm 5) s m c cX10_goDay RX10 4 0 0 5) (hr : meth.sig.returnType = none) (hlk : meth.locks = false) (v58 : Nat) (v59 : Int32) (v60 : Int32) (v61 : Nat) (μ62 : x_M) : SM X 4 5 rkV p l e s m args below meth c 195 [(0, vR v58), (2, vI v59)] [vI v60, vR v61] μ62 (f_X10_goDay_J195 X v58 v59 v60 v61 μ62) := by
  unfold f_X10_goDay_J195
  refine s_putI hC xc10 (by decide) rfl rfl qf_X10_19 dX10_goDay_195 ?_
  refine s_ltM (fun μ63 => ?_)
  refine s_aload_n hC 0 dX10_goDay_198 rfl ?_
  refine s_iload_n hC 1 dX10_goDay_199 rfl ?_
  refine s_putI hC xc10 (by decide) rfl rfl qf_X10_16 dX10_goDay_200 ?_
  refine s_ltM (fun μ64 => ?_)
  refine s_lv (lv' := [(0, vR v58)]) [0] rfl ?_
  exact j_X10_goDay_J203 hI hC hr hlk _ _
def f_X10_goDay (X : x_X) (v0 : Nat) (μ : x_M) : Option (Unit × x_M) :=
  (f_X10_goDay_L2 X (fun (v13 : Nat) (μ14 : x_M) => (ck (x_kd X v13 = 10 + 1) (bd (f_X10_spring X v13 μ14) (fun (v15 : Int32) (μ16 : x_M) => (f_X10_goDay_L45 X (fun (v23 : Nat) (v24 : Int32) (μ25 : x_M) => (f_X10_goDay_L72 X (fun (v37 : Nat) (v38 : Int32) (μ39 : x_M) => (ck (x_kd X v37 = 10 + 1) (ck (x_kd X v37 = 10 + 1) (lt (x_sI μ39 v37 2 ((μ39.1 v37 2) + v38)) (fun (μ40 : x_M) => (ck (x_kd X v37 = 10 + 1) (bd (f_X10_mark X v37 μ40) (fun (v41 : Int32) (μ42 : x_M) => (ck (x_kd X v37 = 10 + 1) (bd (f_X10_volumeOf X v37 v41 μ42) (fun (v43 : Int32) (μ44 : x_M) => (ck (x_kd X v37 = 10 + 1) (if (μ44.1 v37 2) ≤ v43 then (f_X10_goDay_J203 X v37 μ44) else (ck (x_kd X v37 = 10 + 1) (ck (x_kd X v37 = 10 + 1) (if (((μ44.1 v37 3) + (μ44.1 v37 2)) - v43) ≤ (99999 : Int32) then (ck (x_kd X v37 = 10 + 1) (ck (x_kd X v37 = 10 + 1) (f_X10_goDay_J195 X v37 v43 (((μ44.1 v37 3) + (μ44.1 v37 2)) - v43) v37 μ44))) else (f_X10_goDay_J195 X v37 v43 (99999 : Int32) v37 μ44))))))))))))))))) 4096 v23 v24 (0 : Int32) μ25)) 4096 v13 v15 (0 : Int32) μ16))))) 4096 v0 (0 : Int32) μ)
set_option maxRecDepth 100000 in
theorem m_X10_goDay (hI : x_I X) (v0 : Nat) (μ : x_M) : x_Met X x_Z0 l yX10_goDay cX10_goDay 4 none 5 [vR v0] μ rkV (f_X10_goDay X v0 μ) := by
  refine x_enter hI (by decide +kernel) (Nat.le_of_ble_eq_true rfl) (fun p e s m args below meth c hC hr hlk => ?_)
  unfold f_X10_goDay
  refine s_lv (lv' := [(0, vR v0)]) [0] rfl ?_
  refine s_iconst hC dX10_goDay_0 (v := 0) (by decide) ?_
  refine s_istore_n hC dX10_goDay_1 (by decide) (lv' := [(1, vI (0 : Int32)), (0, vR v0)]) rfl ?_
  refine s_lv (lv' := [(0, vR v0), (1, vI (0 : Int32))]) [1, 0] rfl ?_
  refine j_X10_goDay_L2 hI hC hr hlk (fun v13 μ14 => ?_) 4096 _ _ _
  refine s_aload_n hC 0 dX10_goDay_38 rfl ?_
  refine s_callV hC (x := v13) (avs := []) (st := []) (nest := false) xc10 (m_X10_spring hI v13 μ14) dX10_goDay_39 qm_X10_349 qi_X10_spring qs_X10_spring qc_X10 qd_X10_spring qh_X10_spring (by decide) (fun _ => Nat.le_of_ble_eq_true rfl) (Nat.le_of_ble_eq_true rfl) (fun v15 μ16 => ?_)
  refine s_istore_n hC dX10_goDay_42 (by decide) (lv' := [(1, vI v15), (0, vR v13)]) rfl ?_
  refine s_iconst hC dX10_goDay_43 (v := 0) (by decide) ?_
  refine s_istore_n hC dX10_goDay_44 (by decide) (lv' := [(2, vI (0 : Int32)), (1, vI v15), (0, vR v13)]) rfl ?_
  refine s_lv (lv' := [(0, vR v13), (1, vI v15), (2, vI (0 : Int32))]) [2, 1, 0] rfl ?_
  refine j_X10_goDay_L45 hI hC hr hlk (fun v23 v24 μ25 => ?_) 4096 _ _ _ _
  refine s_iconst hC dX10_goDay_70 (v := 0) (by decide) ?_
  refine s_istore_n hC dX10_goDay_71 (by decide) (lv' := [(2, vI (0 : Int32)), (0, vR v23), (1, vI v24)]) rfl ?_
  refine s_lv (lv' := [(0, vR v23), (1, vI v24), (2, vI (0 : Int32))]) [1, 2, 0] rfl ?_
  refine j_X10_goDay_L72 hI hC hr hlk (fun v37 v38 μ39 => ?_) 4096 _ _ _ _
  refine s_aload_n hC 0 dX10_goDay_133 rfl ?_
  refine s_dupR hC dX10_goDay_134 ?_
  refine s_getI hC xc10 (by decide) rfl qf_X10_16 dX10_goDay_135 ?_
  refine s_iload_n hC 1 dX10_goDay_138 rfl ?_
  refine s_iadd hC dX10_goDay_139 ?_
  refine s_putI hC xc10 (by decide) rfl rfl qf_X10_16 dX10_goDay_140 ?_
  refine s_ltM (fun μ40 => ?_)
  refine s_aload_n hC 0 dX10_goDay_143 rfl ?_
  refine s_aload_n hC 0 dX10_goDay_144 rfl ?_
  refine s_callV hC (x := v37) (avs := []) (st := [vR v37]) (nest := false) xc10 (m_X10_mark hI v37 μ40) dX10_goDay_145 qm_X10_343 qi_X10_mark qs_X10_mark qc_X10 qd_X10_mark qh_X10_mark (by decide) (fun _ => Nat.le_of_ble_eq_true rfl) (Nat.le_of_ble_eq_true rfl) (fun v41 μ42 => ?_)
  refine s_callV hC (x := v37) (avs := [vI v41]) (st := []) (nest := false) xc10 (m_X10_volumeOf hI v37 v41 μ42) dX10_goDay_148 qm_X10_249 qi_X10_volumeOf qs_X10_volumeOf qc_X10 qd_X10_volumeOf qh_X10_volumeOf (by decide) (fun _ => Nat.le_of_ble_eq_true rfl) (Nat.le_of_ble_eq_true rfl) (fun v43 μ44 => ?_)
  refine s_istore_n hC dX10_goDay_151 (by decide) (lv' := [(2, vI v43), (0, vR v37), (1, vI v38)]) rfl ?_
  refine s_aload_n hC 1 dX10_goDay_152 rfl ?_
  refine s_getI hC xc10 (by decide) rfl qf_X10_16 dX10_goDay_153 ?_
  refine s_iload_n hC 0 dX10_goDay_156 rfl ?_
  refine s_icmp_le hC dX10_goDay_157 (tgt := 203) (by decide) ?_ ?_
  · refine s_lv (lv' := [(0, vR v37)]) [1] rfl ?_
    exact j_X10_goDay_J203 hI hC hr hlk _ _
  refine s_aload_n hC 1 dX10_goDay_160 rfl ?_
  refine s_aload_n hC 1 dX10_goDay_161 rfl ?_
  refine s_getI hC xc10 (by decide) rfl qf_X10_19 dX10_goDay_162 ?_
  refine s_aload_n hC 1 dX10_goDay_165 rfl ?_
  refine s_getI hC xc10 (by decide) rfl qf_X10_16 dX10_goDay_166 ?_
  refine s_iadd hC dX10_goDay_169 ?_
  refine s_iload_n hC 0 dX10_goDay_170 rfl ?_
  refine s_isub hC dX10_goDay_171 ?_
  refine s_ldc_w hC dX10_goDay_172 qk_X10_356 ?_
  refine s_icmp_le hC dX10_goDay_175 (tgt := 184) (by decide) ?_ ?_
  · refine s_aload_n hC 1 dX10_goDay_184 rfl ?_
    refine s_getI hC xc10 (by decide) rfl qf_X10_19 dX10_goDay_185 ?_
    refine s_aload_n hC 1 dX10_goDay_188 rfl ?_
    refine s_getI hC xc10 (by decide) rfl qf_X10_16 dX10_goDay_189 ?_
    refine s_iadd hC dX10_goDay_192 ?_
    refine s_iload_n hC 0 dX10_goDay_193 rfl ?_
    refine s_isub hC dX10_goDay_194 ?_
    refine s_lv (lv' := [(0, vR v37), (2, vI v43)]) [1, 0] rfl ?_
    exact j_X10_goDay_J195 hI hC hr hlk _ _ _ _ _
  refine s_ldc_w hC dX10_goDay_178 qk_X10_356 ?_
  refine s_goto hC dX10_goDay_181 (tgt := 195) (by decide) ?_
  refine s_lv (lv' := [(0, vR v37), (2, vI v43)]) [1, 0] rfl ?_
  exact j_X10_goDay_J195 hI hC hr hlk _ _ _ _ _
theorem dX10_savingPours_0 : decode cX10_savingPours 0 = .ok (.aload_n 0, 1) := by decide +kernel
theorem dX10_savingPours_1 : decode cX10_savingPours 1 = .ok (.bipush 20, 2) := by decide +kernel
theorem dX10_savingPours_3 : decode cX10_savingPours 3 = .ok (.invokevirtual 401, 3) := by decide +kernel
theorem dX10_savingPours_6 : decode cX10_savingPours 6 = .ok (.aload_n 0, 1) := by decide +kernel
theorem dX10_savingPours_7 : decode cX10_savingPours 7 = .ok (.iload_n 1, 1) := by decide +kernel
theorem dX10_savingPours_8 : decode cX10_savingPours 8 = .ok (.iload_n 2, 1) := by decide +kernel
theorem dX10_savingPours_9 : decode cX10_savingPours 9 = .ok (.invokevirtual 410, 3) := by decide +kernel
theorem dX10_savingPours_12 : decode cX10_savingPours 12 = .ok (.bipush 6, 2) := by decide +kernel
theorem dX10_savingPours_14 : decode cX10_savingPours 14 = .ok (.ixor, 1) := by decide +kernel
theorem dX10_savingPours_15 : decode cX10_savingPours 15 = .ok (.ireturn, 1) := by decide +kernel
def f_X10_savingPours (X : x_X) (v0 : Nat) (v1 : Int32) (v2 : Int32) (μ : x_M) : Option (Int32 × x_M) :=
  (ck (x_kd X v0 = 10 + 1) (bd (f_X10_body X v0 (20 : Int32) μ) (fun (_ : Unit) (μ4 : x_M) => (ck (x_kd X v0 = 10 + 1) (bd (f_X10_accountPours X v0 v1 v2 μ4) (fun (v5 : Int32) (μ6 : x_M) => (some ((v5 ^^^ (6 : Int32)), μ6))))))))
set_option maxRecDepth 100000 in
theorem m_X10_savingPours (hI : x_I X) (v0 : Nat) (v1 : Int32) (v2 : Int32) (μ : x_M) : x_Met X x_Z0 l yX10_savingPours cX10_savingPours 3 (some .int) 5 [vR v0, vI v1, vI v2] μ rkI (f_X10_savingPours X v0 v1 v2 μ) := by
  refine x_enter hI (by decide +kernel) (Nat.le_of_ble_eq_true rfl) (fun p e s m args below meth c hC hr hlk => ?_)
  unfold f_X10_savingPours
  refine s_lv (lv' := [(0, vR v0), (1, vI v1), (2, vI v2)]) [0, 1, 2] rfl ?_
  refine s_aload_n hC 0 dX10_savingPours_0 rfl ?_
  refine s_bipush hC dX10_savingPours_1 (v := 20) (by decide) ?_
  refine s_callV hC (x := v0) (avs := [vI (20 : Int32)]) (st := []) (nest := false) xc10 (m_X10_body hI v0 (20 : Int32) μ) dX10_savingPours_3 qm_X10_401 qi_X10_body qs_X10_body qc_X10 qd_X10_body qh_X10_body (by decide) (fun _ => Nat.le_of_ble_eq_true rfl) (Nat.le_of_ble_eq_true rfl) (fun _ μ4 => ?_)
  refine s_aload_n hC 0 dX10_savingPours_6 rfl ?_
  refine s_iload_n hC 1 dX10_savingPours_7 rfl ?_
  refine s_iload_n hC 2 dX10_savingPours_8 rfl ?_
  refine s_callV hC (x := v0) (avs := [vI v1, vI v2]) (st := []) (nest := false) xc10 (m_X10_accountPours hI v0 v1 v2 μ4) dX10_savingPours_9 qm_X10_410 qi_X10_accountPours qs_X10_accountPours qc_X10 qd_X10_accountPours qh_X10_accountPours (by decide) (fun _ => Nat.le_of_ble_eq_true rfl) (Nat.le_of_ble_eq_true rfl) (fun v5 μ6 => ?_)
  refine s_bipush hC dX10_savingPours_12 (v := 6) (by decide) ?_
  refine s_ixor hC dX10_savingPours_14 ?_
  exact s_iret hC hr hlk dX10_savingPours_15
theorem dX10_takesClause_0 : decode cX10_takesClause 0 = .ok (.aload_n 0, 1) := by decide +kernel
theorem dX10_takesClause_1 : decode cX10_takesClause 1 = .ok (.iload_n 1, 1) := by decide +kernel
theorem dX10_takesClause_2 : decode cX10_takesClause 2 = .ok (.invokevirtual 297, 3) := by decide +kernel
theorem dX10_takesClause_5 : decode cX10_takesClause 5 = .ok (.ifCond .eq 10, 3) := by decide +kernel
theorem dX10_takesClause_8 : decode cX10_takesClause 8 = .ok (.aload_n 0, 1) := by decide +kernel
theorem dX10_takesClause_9 : decode cX10_takesClause 9 = .ok (.invokevirtual 278, 3) := by decide +kernel
theorem dX10_takesClause_12 : decode cX10_takesClause 12 = .ok (.ifCond .ne 5, 3) := by decide +kernel
theorem dX10_takesClause_15 : decode cX10_takesClause 15 = .ok (.iconst 0, 1) := by decide +kernel
theorem dX10_takesClause_16 : decode cX10_takesClause 16 = .ok (.ireturn, 1) := by decide +kernel
theorem dX10_takesClause_17 : decode cX10_takesClause 17 = .ok (.aload_n 0, 1) := by decide +kernel
theorem dX10_takesClause_18 : decode cX10_takesClause 18 = .ok (.getfield 68, 3) := by decide +kernel
theorem dX10_takesClause_21 : decode cX10_takesClause 21 = .ok (.iload_n 1, 1) := by decide +kernel
theorem dX10_takesClause_22 : decode cX10_takesClause 22 = .ok (.aload_n 0, 1) := by decide +kernel
theorem dX10_takesClause_23 : decode cX10_takesClause 23 = .ok (.getfield 56, 3) := by decide +kernel
theorem dX10_takesClause_26 : decode cX10_takesClause 26 = .ok (.iastore, 1) := by decide +kernel
theorem dX10_takesClause_27 : decode cX10_takesClause 27 = .ok (.aload_n 0, 1) := by decide +kernel
theorem dX10_takesClause_28 : decode cX10_takesClause 28 = .ok (.getfield 65, 3) := by decide +kernel
theorem dX10_takesClause_31 : decode cX10_takesClause 31 = .ok (.iload_n 1, 1) := by decide +kernel
theorem dX10_takesClause_32 : decode cX10_takesClause 32 = .ok (.iaload, 1) := by decide +kernel
theorem dX10_takesClause_33 : decode cX10_takesClause 33 = .ok (.iconst 2, 1) := by decide +kernel
theorem dX10_takesClause_34 : decode cX10_takesClause 34 = .ok (.if_icmp .ge 20, 3) := by decide +kernel
theorem dX10_takesClause_37 : decode cX10_takesClause 37 = .ok (.aload_n 0, 1) := by decide +kernel
theorem dX10_takesClause_38 : decode cX10_takesClause 38 = .ok (.bipush 32, 2) := by decide +kernel
theorem dX10_takesClause_40 : decode cX10_takesClause 40 = .ok (.invokevirtual 264, 3) := by decide +kernel
theorem dX10_takesClause_43 : decode cX10_takesClause 43 = .ok (.ifCond .eq 15, 3) := by decide +kernel
theorem dX10_takesClause_46 : decode cX10_takesClause 46 = .ok (.aload_n 0, 1) := by decide +kernel
theorem dX10_takesClause_47 : decode cX10_takesClause 47 = .ok (.iload_n 1, 1) := by decide +kernel
theorem dX10_takesClause_48 : decode cX10_takesClause 48 = .ok (.invokevirtual 300, 3) := by decide +kernel
theorem dX10_takesClause_51 : decode cX10_takesClause 51 = .ok (.ifCond .eq 7, 3) := by decide +kernel
theorem dX10_takesClause_54 : decode cX10_takesClause 54 = .ok (.iconst 1, 1) := by decide +kernel
theorem dX10_takesClause_55 : decode cX10_takesClause 55 = .ok (.goto 4, 3) := by decide +kernel
theorem dX10_takesClause_58 : decode cX10_takesClause 58 = .ok (.iconst 0, 1) := by decide +kernel
theorem dX10_takesClause_59 : decode cX10_takesClause 59 = .ok (.ireturn, 1) := by decide +kernel
def f_X10_takesClause (X : x_X) (v0 : Nat) (v1 : Int32) (μ : x_M) : Option (Int32 × x_M) :=
  (ck (x_kd X v0 = 10 + 1) (bd (f_X10_takesHead X v0 v1 μ) (fun (v3 : Int32) (μ4 : x_M) => (if v3 = 0 then (ck ((0 : Int32) = 0 ∨ (0 : Int32) = 1) (some ((0 : Int32), μ4))) else (ck (x_kd X v0 = 10 + 1) (bd (f_X10_takesNumber X v0 μ4) (fun (v5 : Int32) (μ6 : x_M) => (if v5 = 0 then (ck ((0 : Int32) = 0 ∨ (0 : Int32) = 1) (some ((0 : Int32), μ6))) else (ck (x_kd X v0 = 10 + 1) (lt (μ6.2.1 v0 19) (fun (v7 : Nat) => (ck (x_kd X v0 = 10 + 1) (ck (x_kd X v7 = 20 ∧ x_ix v1 (x_ln X v7)) (lt (x_sI μ6 v7 (v1).toNatClampNeg (μ6.1 v0 15)) (fun (μ8 : x_M) => (ck (x_kd X v0 = 10 + 1) (lt (μ8.2.1 v0 18) (fun (v9 : Nat) => (ck ((x_kd X v9 = 20 ∨ x_kd X v9 = 40) ∧ x_ix v1 (x_ln X v9)) (if (2 : Int32) ≤ (μ8.1 v9 (v1).toNatClampNeg) then (ck ((1 : Int32) = 0 ∨ (1 : Int32) = 1) (some ((1 : Int32), μ8))) else (ck (x_kd X v0 = 10 + 1) (bd (f_X10_takes X v0 (32 : Int32) μ8) (fun (v10 : Int32) (μ11 : x_M) => (if v10 = 0 then (ck ((0 : Int32) = 0 ∨ (0 : Int32) = 1) (some ((0 : Int32), μ11))) else (ck (x_kd X v0 = 10 + 1) (bd (f_X10_takesE X v0 v1 μ11) (fun (v12 : Int32) (μ13 : x_M) => (if v12 = 0 then (ck ((0 : Int32) = 0 ∨ (0 : Int32) = 1) (some ((0 : Int32), μ13))) else (ck ((1 : Int32) = 0 ∨ (1 : Int32) = 1) (some ((1 : Int32), μ13)))))))))))))))))))))))))))))))
set_option maxRecDepth 100000 in
theorem m_X10_takesClause (hI : x_I X) (v0 : Nat) (v1 : Int32) (μ : x_M) : x_Met X x_Z0 l yX10_takesClause cX10_takesClause 2 (some .boolean) 6 [vR v0, vI v1] μ rkI (f_X10_takesClause X v0 v1 μ) := by
  refine x_enter hI (by decide +kernel) (Nat.le_of_ble_eq_true rfl) (fun p e s m args below meth c hC hr hlk => ?_)
  unfold f_X10_takesClause
  refine s_lv (lv' := [(0, vR v0), (1, vI v1)]) [0, 1] rfl ?_
  refine s_aload_n hC 0 dX10_takesClause_0 rfl ?_
  refine s_iload_n hC 1 dX10_takesClause_1 rfl ?_
  refine s_callV hC (x := v0) (avs := [vI v1]) (st := []) (nest := false) xc10 (m_X10_takesHead hI v0 v1 μ) dX10_takesClause_2 qm_X10_297 qi_X10_takesHead qs_X10_takesHead qc_X10 qd_X10_takesHead qh_X10_takesHead (by decide) (fun _ => Nat.le_of_ble_eq_true rfl) (Nat.le_of_ble_eq_true rfl) (fun v3 μ4 => ?_)
  refine s_if_eq hC dX10_takesClause_5 (tgt := 15) (by decide) ?_ ?_
  · refine s_iconst hC dX10_takesClause_15 (v := 0) (by decide) ?_
    exact s_zret hC hr hlk dX10_takesClause_16
  refine s_aload_n hC 0 dX10_takesClause_8 rfl ?_
  refine s_callV hC (x := v0) (avs := []) (st := []) (nest := false) xc10 (m_X10_takesNumber hI v0 μ4) dX10_takesClause_9 qm_X10_278 qi_X10_takesNumber qs_X10_takesNumber qc_X10 qd_X10_takesNumber qh_X10_takesNumber (by decide) (fun _ => Nat.le_of_ble_eq_true rfl) (Nat.le_of_ble_eq_true rfl) (fun v5 μ6 => ?_)
  refine s_if_ne hC dX10_takesClause_12 (tgt := 17) (by decide) ?_ ?_
  · refine s_aload_n hC 0 dX10_takesClause_17 rfl ?_
    refine s_getR hC xc10 (by decide) rfl qf_X10_68 dX10_takesClause_18 ?_
    refine s_ltR (fun v7 => ?_)
    refine s_iload_n hC 1 dX10_takesClause_21 rfl ?_
    refine s_aload_n hC 0 dX10_takesClause_22 rfl ?_
    refine s_getI hC xc10 (by decide) rfl qf_X10_56 dX10_takesClause_23 ?_
    refine s_iast hC dX10_takesClause_26 ?_
    refine s_ltM (fun μ8 => ?_)
    refine s_aload_n hC 0 dX10_takesClause_27 rfl ?_
    refine s_getR hC xc10 (by decide) rfl qf_X10_65 dX10_takesClause_28 ?_
    refine s_ltR (fun v9 => ?_)
    refine s_iload_n hC 1 dX10_takesClause_31 rfl ?_
    refine s_iald hC dX10_takesClause_32 ?_
    refine s_iconst hC dX10_takesClause_33 (v := 2) (by decide) ?_
    refine s_icmp_ge hC dX10_takesClause_34 (tgt := 54) (by decide) ?_ ?_
    · refine s_iconst hC dX10_takesClause_54 (v := 1) (by decide) ?_
      refine s_goto hC dX10_takesClause_55 (tgt := 59) (by decide) ?_
      exact s_zret hC hr hlk dX10_takesClause_59
    refine s_aload_n hC 0 dX10_takesClause_37 rfl ?_
    refine s_bipush hC dX10_takesClause_38 (v := 32) (by decide) ?_
    refine s_callV hC (x := v0) (avs := [vI (32 : Int32)]) (st := []) (nest := false) xc10 (m_X10_takes hI v0 (32 : Int32) μ8) dX10_takesClause_40 qm_X10_264 qi_X10_takes qs_X10_takes qc_X10 qd_X10_takes qh_X10_takes (by decide) (fun _ => Nat.le_of_ble_eq_true rfl) (Nat.le_of_ble_eq_true rfl) (fun v10 μ11 => ?_)
    refine s_if_eq hC dX10_takesClause_43 (tgt := 58) (by decide) ?_ ?_
    · refine s_iconst hC dX10_takesClause_58 (v := 0) (by decide) ?_
      exact s_zret hC hr hlk dX10_takesClause_59
    refine s_aload_n hC 0 dX10_takesClause_46 rfl ?_
    refine s_iload_n hC 1 dX10_takesClause_47 rfl ?_
    refine s_callV hC (x := v0) (avs := [vI v1]) (st := []) (nest := false) xc10 (m_X10_takesE hI v0 v1 μ11) dX10_takesClause_48 qm_X10_300 qi_X10_takesE qs_X10_takesE qc_X10 qd_X10_takesE qh_X10_takesE (by decide) (fun _ => Nat.le_of_ble_eq_true rfl) (Nat.le_of_ble_eq_true rfl) (fun v12 μ13 => ?_)
    refine s_if_eq hC dX10_takesClause_51 (tgt := 58) (by decide) ?_ ?_
    · refine s_iconst hC dX10_takesClause_58 (v := 0) (by decide) ?_
      exact s_zret hC hr hlk dX10_takesClause_59
    refine s_iconst hC dX10_takesClause_54 (v := 1) (by decide) ?_
    refine s_goto hC dX10_takesClause_55 (tgt := 59) (by decide) ?_
    exact s_zret hC hr hlk dX10_takesClause_59
  refine s_iconst hC dX10_takesClause_15 (v := 0) (by decide) ?_
  exact s_zret hC hr hlk dX10_takesClause_16
theorem dX10_day_0 : decode cX10_day 0 = .ok (.aload_n 0, 1) := by decide +kernel
theorem dX10_day_1 : decode cX10_day 1 = .ok (.getfield 13, 3) := by decide +kernel
theorem dX10_day_4 : decode cX10_day 4 = .ok (.sipush 9999, 3) := by decide +kernel
theorem dX10_day_7 : decode cX10_day 7 = .ok (.if_icmp .ne 6, 3) := by decide +kernel
theorem dX10_day_10 : decode cX10_day 10 = .ok (.bipush (-3), 2) := by decide +kernel
theorem dX10_day_12 : decode cX10_day 12 = .ok (.ireturn, 1) := by decide +kernel
theorem dX10_day_13 : decode cX10_day 13 = .ok (.aload_n 0, 1) := by decide +kernel
theorem dX10_day_14 : decode cX10_day 14 = .ok (.invokevirtual 360, 3) := by decide +kernel
theorem dX10_day_17 : decode cX10_day 17 = .ok (.aload_n 0, 1) := by decide +kernel
theorem dX10_day_18 : decode cX10_day 18 = .ok (.invokevirtual 328, 3) := by decide +kernel
theorem dX10_day_21 : decode cX10_day 21 = .ok (.ireturn, 1) := by decide +kernel
def f_X10_day (X : x_X) (v0 : Nat) (μ : x_M) : Option (Int32 × x_M) :=
  (ck (x_kd X v0 = 10 + 1) (if (μ.1 v0 1) = (9999 : Int32) then (some ((-3 : Int32), μ)) else (ck (x_kd X v0 = 10 + 1) (bd (f_X10_goDay X v0 μ) (fun (_ : Unit) (μ2 : x_M) => (ck (x_kd X v0 = 10 + 1) (bd (f_X10_level X v0 μ2) (fun (v3 : Int32) (μ4 : x_M) => (some (v3, μ4))))))))))
set_option maxRecDepth 100000 in
theorem m_X10_day (hI : x_I X) (v0 : Nat) (μ : x_M) : x_Met X x_Z0 l yX10_day cX10_day 1 (some .int) 6 [vR v0] μ rkI (f_X10_day X v0 μ) := by
  refine x_enter hI (by decide +kernel) (Nat.le_of_ble_eq_true rfl) (fun p e s m args below meth c hC hr hlk => ?_)
  unfold f_X10_day
  refine s_lv (lv' := [(0, vR v0)]) [0] rfl ?_
  refine s_aload_n hC 0 dX10_day_0 rfl ?_
  refine s_getI hC xc10 (by decide) rfl qf_X10_13 dX10_day_1 ?_
  refine s_sipush hC dX10_day_4 (v := 9999) (by decide) ?_
  refine s_icmp_ne hC dX10_day_7 (tgt := 13) (by decide) ?_ ?_
  · refine s_aload_n hC 0 dX10_day_13 rfl ?_
    refine s_callV hC (x := v0) (avs := []) (st := []) (nest := false) xc10 (m_X10_goDay hI v0 μ) dX10_day_14 qm_X10_360 qi_X10_goDay qs_X10_goDay qc_X10 qd_X10_goDay qh_X10_goDay (by decide) (fun _ => Nat.le_of_ble_eq_true rfl) (Nat.le_of_ble_eq_true rfl) (fun _ μ2 => ?_)
    refine s_aload_n hC 0 dX10_day_17 rfl ?_
    refine s_callV hC (x := v0) (avs := []) (st := []) (nest := false) xc10 (m_X10_level hI v0 μ2) dX10_day_18 qm_X10_328 qi_X10_level qs_X10_level qc_X10 qd_X10_level qh_X10_level (by decide) (fun _ => Nat.le_of_ble_eq_true rfl) (Nat.le_of_ble_eq_true rfl) (fun v3 μ4 => ?_)
    exact s_iret hC hr hlk dX10_day_21
  refine s_bipush hC dX10_day_10 (v := -3) (by decide) ?_
  exact s_iret hC hr hlk dX10_day_12
theorem dX10_goDays_0 : decode cX10_goDays 0 = .ok (.iconst 0, 1) := by decide +kernel
theorem dX10_goDays_1 : decode cX10_goDays 1 = .ok (.istore_n 2, 1) := by decide +kernel
theorem dX10_goDays_2 : decode cX10_goDays 2 = .ok (.iload_n 2, 1) := by decide +kernel
theorem dX10_goDays_3 : decode cX10_goDays 3 = .ok (.iload_n 1, 1) := by decide +kernel
theorem dX10_goDays_4 : decode cX10_goDays 4 = .ok (.if_icmp .ge 13, 3) := by decide +kernel
theorem dX10_goDays_7 : decode cX10_goDays 7 = .ok (.aload_n 0, 1) := by decide +kernel
theorem dX10_goDays_8 : decode cX10_goDays 8 = .ok (.invokevirtual 360, 3) := by decide +kernel
theorem dX10_goDays_11 : decode cX10_goDays 11 = .ok (.iinc 2 1, 3) := by decide +kernel
theorem dX10_goDays_14 : decode cX10_goDays 14 = .ok (.goto (-12), 3) := by decide +kernel
theorem dX10_goDays_17 : decode cX10_goDays 17 = .ok (.return_, 1) := by decide +kernel
def f_X10_goDays_L2 (X : x_X) : Nat → Nat → Int32 → Int32 → x_M → Option (Unit × x_M)
  | 0, _, _, _, _ => none
  | n + 1, v3, v4, v5, μ6 =>
    (if v4 ≤ v5 then (some ((), μ6)) else (ck (x_kd X v3 = 10 + 1) (bd (f_X10_goDay X v3 μ6) (fun (_ : Unit) (μ7 : x_M) => (f_X10_goDays_L2 X n v3 v4 (v5 + (1 : Int32)) μ7)))))
set_option maxRecDepth 100000 in
theorem j_X10_goDays_L2 (hI : x_I X) (hC : x_C X x_Z0 p (x_rm 6) s m c cX10_goDays RX10 3 0 0 6) (hr : meth.sig.returnType = none) (hlk : meth.locks = false) : ∀ (n : Nat) (v3 : Nat) (v4 : Int32) (v5 : Int32) (μ6 : x_M), SM X 3 6 rkV p l e s m args below meth c 2 [(0, vR v3), (1, vI v4), (2, vI v5)] [] μ6 (f_X10_goDays_L2 X n v3 v4 v5 μ6) := by
  intro n
  induction n with
  | zero => intro v3 v4 v5 μ6; exact s_none
  | succ n ih =>
    intro v3 v4 v5 μ6
    unfold f_X10_goDays_L2
    refine s_iload_n hC 2 dX10_goDays_2 rfl ?_
    refine s_iload_n hC 1 dX10_goDays_3 rfl ?_
    refine s_icmp_ge hC dX10_goDays_4 (tgt := 17) (by decide) ?_ ?_
    · exact s_vret hC hr hlk dX10_goDays_17
    refine s_aload_n hC 0 dX10_goDays_7 rfl ?_
    refine s_callV hC (x := v3) (avs := []) (st := []) (nest := false) xc10 (m_X10_goDay hI v3 μ6) dX10_goDays_8 qm_X10_360 qi_X10_goDay qs_X10_goDay qc_X10 qd_X10_goDay qh_X10_goDay (by decide) (fun _ => Nat.le_of_ble_eq_true rfl) (Nat.le_of_ble_eq_true rfl) (fun _ μ7 => ?_)
    refine s_iinc hC 2 dX10_goDays_11 rfl (w := 1) (by decide) (by decide) (lv' := [(2, vI (v5 + (1 : Int32))), (0, vR v3), (1, vI v4)]) rfl ?_
    refine s_goto hC dX10_goDays_14 (tgt := 2) (by decide) ?_
    refine s_lv (lv' := [(0, vR v3), (1, vI v4), (2, vI (v5 + (1 : Int32)))]) [1, 2, 0] rfl ?_
    exact ih _ _ _ _
def f_X10_goDays (X : x_X) (v0 : Nat) (v1 : Int32) (μ : x_M) : Option (Unit × x_M) :=
  (f_X10_goDays_L2 X 4096 v0 v1 (0 : Int32) μ)
set_option maxRecDepth 100000 in
theorem m_X10_goDays (hI : x_I X) (v0 : Nat) (v1 : Int32) (μ : x_M) : x_Met X x_Z0 l yX10_goDays cX10_goDays 3 none 6 [vR v0, vI v1] μ rkV (f_X10_goDays X v0 v1 μ) := by
  refine x_enter hI (by decide +kernel) (Nat.le_of_ble_eq_true rfl) (fun p e s m args below meth c hC hr hlk => ?_)
  unfold f_X10_goDays
  refine s_lv (lv' := [(0, vR v0), (1, vI v1)]) [0, 1] rfl ?_
  refine s_iconst hC dX10_goDays_0 (v := 0) (by decide) ?_
  refine s_istore_n hC dX10_goDays_1 (by decide) (lv' := [(2, vI (0 : Int32)), (0, vR v0), (1, vI v1)]) rfl ?_
  refine s_lv (lv' := [(0, vR v0), (1, vI v1), (2, vI (0 : Int32))]) [1, 2, 0] rfl ?_
  refine j_X10_goDays_L2 hI hC hr hlk 4096 _ _ _ _
theorem dX10_dry_0 : decode cX10_dry 0 = .ok (.aload_n 0, 1) := by decide +kernel
theorem dX10_dry_1 : decode cX10_dry 1 = .ok (.invokevirtual 366, 3) := by decide +kernel
theorem dX10_dry_4 : decode cX10_dry 4 = .ok (.iconst 0, 1) := by decide +kernel
theorem dX10_dry_5 : decode cX10_dry 5 = .ok (.istore_n 1, 1) := by decide +kernel
theorem dX10_dry_6 : decode cX10_dry 6 = .ok (.iload_n 1, 1) := by decide +kernel
theorem dX10_dry_7 : decode cX10_dry 7 = .ok (.bipush 61, 2) := by decide +kernel
theorem dX10_dry_9 : decode cX10_dry 9 = .ok (.if_icmp .ge 24, 3) := by decide +kernel
theorem dX10_dry_12 : decode cX10_dry 12 = .ok (.aload_n 0, 1) := by decide +kernel
theorem dX10_dry_13 : decode cX10_dry 13 = .ok (.invokevirtual 328, 3) := by decide +kernel
theorem dX10_dry_16 : decode cX10_dry 16 = .ok (.aload_n 0, 1) := by decide +kernel
theorem dX10_dry_17 : decode cX10_dry 17 = .ok (.invokevirtual 346, 3) := by decide +kernel
theorem dX10_dry_20 : decode cX10_dry 20 = .ok (.if_icmp .le 13, 3) := by decide +kernel
theorem dX10_dry_23 : decode cX10_dry 23 = .ok (.aload_n 0, 1) := by decide +kernel
theorem dX10_dry_24 : decode cX10_dry 24 = .ok (.invokevirtual 360, 3) := by decide +kernel
theorem dX10_dry_27 : decode cX10_dry 27 = .ok (.iinc 1 1, 3) := by decide +kernel
theorem dX10_dry_30 : decode cX10_dry 30 = .ok (.goto (-24), 3) := by decide +kernel
theorem dX10_dry_33 : decode cX10_dry 33 = .ok (.aload_n 0, 1) := by decide +kernel
theorem dX10_dry_34 : decode cX10_dry 34 = .ok (.invokevirtual 372, 3) := by decide +kernel
theorem dX10_dry_37 : decode cX10_dry 37 = .ok (.iload_n 1, 1) := by decide +kernel
theorem dX10_dry_38 : decode cX10_dry 38 = .ok (.bipush 61, 2) := by decide +kernel
theorem dX10_dry_40 : decode cX10_dry 40 = .ok (.if_icmp .ge 7, 3) := by decide +kernel
theorem dX10_dry_43 : decode cX10_dry 43 = .ok (.iload_n 1, 1) := by decide +kernel
theorem dX10_dry_44 : decode cX10_dry 44 = .ok (.goto 5, 3) := by decide +kernel
theorem dX10_dry_47 : decode cX10_dry 47 = .ok (.bipush (-5), 2) := by decide +kernel
theorem dX10_dry_49 : decode cX10_dry 49 = .ok (.ireturn, 1) := by decide +kernel
def f_X10_dry_L6 (X : x_X) (k33 : Nat → Int32 → x_M → Option (Int32 × x_M)) : Nat → Nat → Int32 → x_M → Option (Int32 × x_M)
  | 0, _, _, _ => none
  | n + 1, v3, v4, μ5 =>
    (if (61 : Int32) ≤ v4 then (k33 v3 v4 μ5) else (ck (x_kd X v3 = 10 + 1) (bd (f_X10_level X v3 μ5) (fun (v6 : Int32) (μ7 : x_M) => (ck (x_kd X v3 = 10 + 1) (bd (f_X10_floor X v3 μ7) (fun (v8 : Int32) (μ9 : x_M) => (if v6 ≤ v8 then (k33 v3 v4 μ9) else (ck (x_kd X v3 = 10 + 1) (bd (f_X10_goDay X v3 μ9) (fun (_ : Unit) (μ10 : x_M) => (f_X10_dry_L6 X k33 n v3 (v4 + (1 : Int32)) μ10))))))))))))
set_option maxRecDepth 100000 in
theorem j_X10_dry_L6 (hI : x_I X) (hC : x_C X x_Z0 p (x_rm 6) s m c cX10_dry RX10 2 0 0 6) (hr : meth.sig.returnType = (some .int)) (hlk : meth.locks = false) {k33 : Nat → Int32 → x_M → Option (Int32 × x_M)} (hk33 : ∀ (b0 : Nat) (b1 : Int32) (μ : x_M), SM X 2 6 rkI p l e s m args below meth c 33 [(0, vR b0), (1, vI b1)] [] μ (k33 b0 b1 μ)) : ∀ (n : Nat) (v3 : Nat) (v4 : Int32) (μ5 : x_M), SM X 2 6 rkI p l e s m args below meth c 6 [(0, vR v3), (1, vI v4)] [] μ5 (f_X10_dry_L6 X k33 n v3 v4 μ5) := by
  intro n
  induction n with
  | zero => intro v3 v4 μ5; exact s_none
  | succ n ih =>
    intro v3 v4 μ5
    unfold f_X10_dry_L6
    refine s_iload_n hC 1 dX10_dry_6 rfl ?_
    refine s_bipush hC dX10_dry_7 (v := 61) (by decide) ?_
    refine s_icmp_ge hC dX10_dry_9 (tgt := 33) (by decide) ?_ ?_
    · exact hk33 _ _ _
    refine s_aload_n hC 0 dX10_dry_12 rfl ?_
    refine s_callV hC (x := v3) (avs := []) (st := []) (nest := false) xc10 (m_X10_level hI v3 μ5) dX10_dry_13 qm_X10_328 qi_X10_level qs_X10_level qc_X10 qd_X10_level qh_X10_level (by decide) (fun _ => Nat.le_of_ble_eq_true rfl) (Nat.le_of_ble_eq_true rfl) (fun v6 μ7 => ?_)
    refine s_aload_n hC 0 dX10_dry_16 rfl ?_
    refine s_callV hC (x := v3) (avs := []) (st := [vI v6]) (nest := false) xc10 (m_X10_floor hI v3 μ7) dX10_dry_17 qm_X10_346 qi_X10_floor qs_X10_floor qc_X10 qd_X10_floor qh_X10_floor (by decide) (fun _ => Nat.le_of_ble_eq_true rfl) (Nat.le_of_ble_eq_true rfl) (fun v8 μ9 => ?_)
    refine s_icmp_le hC dX10_dry_20 (tgt := 33) (by decide) ?_ ?_
    · exact hk33 _ _ _
    refine s_aload_n hC 0 dX10_dry_23 rfl ?_
    refine s_callV hC (x := v3) (avs := []) (st := []) (nest := false) xc10 (m_X10_goDay hI v3 μ9) dX10_dry_24 qm_X10_360 qi_X10_goDay qs_X10_goDay qc_X10 qd_X10_goDay qh_X10_goDay (by decide) (fun _ => Nat.le_of_ble_eq_true rfl) (Nat.le_of_ble_eq_true rfl) (fun _ μ10 => ?_)
    refine s_iinc hC 1 dX10_dry_27 rfl (w := 1) (by decide) (by decide) (lv' := [(1, vI (v4 + (1 : Int32))), (0, vR v3)]) rfl ?_
    refine s_goto hC dX10_dry_30 (tgt := 6) (by decide) ?_
    refine s_lv (lv' := [(0, vR v3), (1, vI (v4 + (1 : Int32)))]) [1, 0] rfl ?_
    exact ih _ _ _
def f_X10_dry (X : x_X) (v0 : Nat) (μ : x_M) : Option (Int32 × x_M) :=
  (ck (x_kd X v0 = 10 + 1) (bd (f_X10_save X v0 μ) (fun (_ : Unit) (μ2 : x_M) => (f_X10_dry_L6 X (fun (v11 : Nat) (v12 : Int32) (μ13 : x_M) => (ck (x_kd X v11 = 10 + 1) (bd (f_X10_putBack X v11 μ13) (fun (_ : Unit) (μ14 : x_M) => (if (61 : Int32) ≤ v12 then (some ((-5 : Int32), μ14)) else (some (v12, μ14))))))) 4096 v0 (0 : Int32) μ2))))
set_option maxRecDepth 100000 in
theorem m_X10_dry (hI : x_I X) (v0 : Nat) (μ : x_M) : x_Met X x_Z0 l yX10_dry cX10_dry 2 (some .int) 6 [vR v0] μ rkI (f_X10_dry X v0 μ) := by
  refine x_enter hI (by decide +kernel) (Nat.le_of_ble_eq_true rfl) (fun p e s m args below meth c hC hr hlk => ?_)
  unfold f_X10_dry
  refine s_lv (lv' := [(0, vR v0)]) [0] rfl ?_
  refine s_aload_n hC 0 dX10_dry_0 rfl ?_
  refine s_callV hC (x := v0) (avs := []) (st := []) (nest := false) xc10 (m_X10_save hI v0 μ) dX10_dry_1 qm_X10_366 qi_X10_save qs_X10_save qc_X10 qd_X10_save qh_X10_save (by decide) (fun _ => Nat.le_of_ble_eq_true rfl) (Nat.le_of_ble_eq_true rfl) (fun _ μ2 => ?_)
  refine s_iconst hC dX10_dry_4 (v := 0) (by decide) ?_
  refine s_istore_n hC dX10_dry_5 (by decide) (lv' := [(1, vI (0 : Int32)), (0, vR v0)]) rfl ?_
  refine s_lv (lv' := [(0, vR v0), (1, vI (0 : Int32))]) [1, 0] rfl ?_
  refine j_X10_dry_L6 hI hC hr hlk (fun v11 v12 μ13 => ?_) 4096 _ _ _
  refine s_aload_n hC 0 dX10_dry_33 rfl ?_
  refine s_callV hC (x := v11) (avs := []) (st := []) (nest := false) xc10 (m_X10_putBack hI v11 μ13) dX10_dry_34 qm_X10_372 qi_X10_putBack qs_X10_putBack qc_X10 qd_X10_putBack qh_X10_putBack (by decide) (fun _ => Nat.le_of_ble_eq_true rfl) (Nat.le_of_ble_eq_true rfl) (fun _ μ14 => ?_)
  refine s_iload_n hC 1 dX10_dry_37 rfl ?_
  refine s_bipush hC dX10_dry_38 (v := 61) (by decide) ?_
  refine s_icmp_ge hC dX10_dry_40 (tgt := 47) (by decide) ?_ ?_
  · refine s_bipush hC dX10_dry_47 (v := -5) (by decide) ?_
    exact s_iret hC hr hlk dX10_dry_49
  refine s_iload_n hC 1 dX10_dry_43 rfl ?_
  refine s_goto hC dX10_dry_44 (tgt := 49) (by decide) ?_
  exact s_iret hC hr hlk dX10_dry_49
theorem dX10_lowest_0 : decode cX10_lowest 0 = .ok (.aload_n 0, 1) := by decide +kernel
theorem dX10_lowest_1 : decode cX10_lowest 1 = .ok (.iload_n 1, 1) := by decide +kernel
theorem dX10_lowest_2 : decode cX10_lowest 2 = .ok (.invokevirtual 363, 3) := by decide +kernel
theorem dX10_lowest_5 : decode cX10_lowest 5 = .ok (.ifCond .ne 6, 3) := by decide +kernel
theorem dX10_lowest_8 : decode cX10_lowest 8 = .ok (.bipush (-2), 2) := by decide +kernel
theorem dX10_lowest_10 : decode cX10_lowest 10 = .ok (.ireturn, 1) := by decide +kernel
theorem dX10_lowest_11 : decode cX10_lowest 11 = .ok (.aload_n 0, 1) := by decide +kernel
theorem dX10_lowest_12 : decode cX10_lowest 12 = .ok (.invokevirtual 366, 3) := by decide +kernel
theorem dX10_lowest_15 : decode cX10_lowest 15 = .ok (.iconst 0, 1) := by decide +kernel
theorem dX10_lowest_16 : decode cX10_lowest 16 = .ok (.istore_n 2, 1) := by decide +kernel
theorem dX10_lowest_17 : decode cX10_lowest 17 = .ok (.aload_n 0, 1) := by decide +kernel
theorem dX10_lowest_18 : decode cX10_lowest 18 = .ok (.invokevirtual 328, 3) := by decide +kernel
theorem dX10_lowest_21 : decode cX10_lowest 21 = .ok (.istore_n 3, 1) := by decide +kernel
theorem dX10_lowest_22 : decode cX10_lowest 22 = .ok (.iconst 1, 1) := by decide +kernel
theorem dX10_lowest_23 : decode cX10_lowest 23 = .ok (.istore 4, 2) := by decide +kernel
theorem dX10_lowest_25 : decode cX10_lowest 25 = .ok (.iload 4, 2) := by decide +kernel
theorem dX10_lowest_27 : decode cX10_lowest 27 = .ok (.iload_n 1, 1) := by decide +kernel
theorem dX10_lowest_28 : decode cX10_lowest 28 = .ok (.if_icmp .gt 34, 3) := by decide +kernel
theorem dX10_lowest_31 : decode cX10_lowest 31 = .ok (.aload_n 0, 1) := by decide +kernel
theorem dX10_lowest_32 : decode cX10_lowest 32 = .ok (.invokevirtual 360, 3) := by decide +kernel
theorem dX10_lowest_35 : decode cX10_lowest 35 = .ok (.aload_n 0, 1) := by decide +kernel
theorem dX10_lowest_36 : decode cX10_lowest 36 = .ok (.invokevirtual 328, 3) := by decide +kernel
theorem dX10_lowest_39 : decode cX10_lowest 39 = .ok (.istore 5, 2) := by decide +kernel
theorem dX10_lowest_41 : decode cX10_lowest 41 = .ok (.iload 5, 2) := by decide +kernel
theorem dX10_lowest_43 : decode cX10_lowest 43 = .ok (.iload_n 3, 1) := by decide +kernel
theorem dX10_lowest_44 : decode cX10_lowest 44 = .ok (.if_icmp .lt 6, 3) := by decide +kernel
theorem dX10_lowest_47 : decode cX10_lowest 47 = .ok (.goto 9, 3) := by decide +kernel
theorem dX10_lowest_50 : decode cX10_lowest 50 = .ok (.iload 4, 2) := by decide +kernel
theorem dX10_lowest_52 : decode cX10_lowest 52 = .ok (.istore_n 2, 1) := by decide +kernel
theorem dX10_lowest_53 : decode cX10_lowest 53 = .ok (.iload 5, 2) := by decide +kernel
theorem dX10_lowest_55 : decode cX10_lowest 55 = .ok (.istore_n 3, 1) := by decide +kernel
theorem dX10_lowest_56 : decode cX10_lowest 56 = .ok (.iinc 4 1, 3) := by decide +kernel
theorem dX10_lowest_59 : decode cX10_lowest 59 = .ok (.goto (-34), 3) := by decide +kernel
theorem dX10_lowest_62 : decode cX10_lowest 62 = .ok (.aload_n 0, 1) := by decide +kernel
theorem dX10_lowest_63 : decode cX10_lowest 63 = .ok (.invokevirtual 372, 3) := by decide +kernel
theorem dX10_lowest_66 : decode cX10_lowest 66 = .ok (.iload_n 2, 1) := by decide +kernel
theorem dX10_lowest_67 : decode cX10_lowest 67 = .ok (.ireturn, 1) := by decide +kernel
def f_X10_lowest_L25 (X : x_X) : Nat → Nat → Int32 → Int32 → Int32 → Int32 → x_M → Option (Int32 × x_M)
  | 0, _, _, _, _, _, _ => none
  | n + 1, v8, v9, v10, v11, v12, μ13 =>
    (if v9 < v12 then (ck (x_kd X v8 = 10 + 1) (bd (f_X10_putBack X v8 μ13) (fun (_ : Unit) (μ14 : x_M) => (some (v10, μ14))))) else (ck (x_kd X v8 = 10 + 1) (bd (f_X10_goDay X v8 μ13) (fun (_ : Unit) (μ15 : x_M) => (ck (x_kd X v8 = 10 + 1) (bd (f_X10_level X v8 μ15) (fun (v16 : Int32) (μ17 : x_M) => (if v16 < v11 then (f_X10_lowest_L25 X n v8 v9 v12 v16 (v12 + (1 : Int32)) μ17) else (f_X10_lowest_L25 X n v8 v9 v10 v11 (v12 + (1 : Int32)) μ17)))))))))
set_option maxRecDepth 100000 in
theorem j_X10_lowest_L25 (hI : x_I X) (hC : x_C X x_Z0 p (x_rm 6) s m c cX10_lowest RX10 6 0 0 6) (hr : meth.sig.returnType = (some .int)) (hlk : meth.locks = false) : ∀ (n : Nat) (v8 : Nat) (v9 : Int32) (v10 : Int32) (v11 : Int32) (v12 : Int32) (μ13 : x_M), SM X 6 6 rkI p l e s m args below meth c 25 [(0, vR v8), (1, vI v9), (2, vI v10), (3, vI v11), (4, vI v12)] [] μ13 (f_X10_lowest_L25 X n v8 v9 v10 v11 v12 μ13) := by
  intro n
  induction n with
  | zero => intro v8 v9 v10 v11 v12 μ13; exact s_none
  | succ n ih =>
    intro v8 v9 v10 v11 v12 μ13
    unfold f_X10_lowest_L25
    refine s_iload hC 4 dX10_lowest_25 rfl ?_
    refine s_iload_n hC 1 dX10_lowest_27 rfl ?_
    refine s_icmp_gt hC dX10_lowest_28 (tgt := 62) (by decide) ?_ ?_
    · refine s_aload_n hC 0 dX10_lowest_62 rfl ?_
      refine s_callV hC (x := v8) (avs := []) (st := []) (nest := false) xc10 (m_X10_putBack hI v8 μ13) dX10_lowest_63 qm_X10_372 qi_X10_putBack qs_X10_putBack qc_X10 qd_X10_putBack qh_X10_putBack (by decide) (fun _ => Nat.le_of_ble_eq_true rfl) (Nat.le_of_ble_eq_true rfl) (fun _ μ14 => ?_)
      refine s_iload_n hC 2 dX10_lowest_66 rfl ?_
      exact s_iret hC hr hlk dX10_lowest_67
    refine s_aload_n hC 0 dX10_lowest_31 rfl ?_
    refine s_callV hC (x := v8) (avs := []) (st := []) (nest := false) xc10 (m_X10_goDay hI v8 μ13) dX10_lowest_32 qm_X10_360 qi_X10_goDay qs_X10_goDay qc_X10 qd_X10_goDay qh_X10_goDay (by decide) (fun _ => Nat.le_of_ble_eq_true rfl) (Nat.le_of_ble_eq_true rfl) (fun _ μ15 => ?_)
    refine s_aload_n hC 0 dX10_lowest_35 rfl ?_
    refine s_callV hC (x := v8) (avs := []) (st := []) (nest := false) xc10 (m_X10_level hI v8 μ15) dX10_lowest_36 qm_X10_328 qi_X10_level qs_X10_level qc_X10 qd_X10_level qh_X10_level (by decide) (fun _ => Nat.le_of_ble_eq_true rfl) (Nat.le_of_ble_eq_true rfl) (fun v16 μ17 => ?_)
    refine s_istore hC dX10_lowest_39 (by decide) (lv' := [(5, vI v16), (0, vR v8), (1, vI v9), (2, vI v10), (3, vI v11), (4, vI v12)]) rfl ?_
    refine s_iload hC 0 dX10_lowest_41 rfl ?_
    refine s_iload_n hC 4 dX10_lowest_43 rfl ?_
    refine s_icmp_lt hC dX10_lowest_44 (tgt := 50) (by decide) ?_ ?_
    · refine s_iload hC 5 dX10_lowest_50 rfl ?_
      refine s_istore_n hC dX10_lowest_52 (by decide) (lv' := [(2, vI v12), (5, vI v16), (0, vR v8), (1, vI v9), (3, vI v11), (4, vI v12)]) rfl ?_
      refine s_iload hC 1 dX10_lowest_53 rfl ?_
      refine s_istore_n hC dX10_lowest_55 (by decide) (lv' := [(3, vI v16), (2, vI v12), (5, vI v16), (0, vR v8), (1, vI v9), (4, vI v12)]) rfl ?_
      refine s_iinc hC 5 dX10_lowest_56 rfl (w := 1) (by decide) (by decide) (lv' := [(4, vI (v12 + (1 : Int32))), (3, vI v16), (2, vI v12), (5, vI v16), (0, vR v8), (1, vI v9)]) rfl ?_
      refine s_goto hC dX10_lowest_59 (tgt := 25) (by decide) ?_
      refine s_lv (lv' := [(0, vR v8), (1, vI v9), (2, vI v12), (3, vI v16), (4, vI (v12 + (1 : Int32)))]) [4, 5, 2, 1, 0] rfl ?_
      exact ih _ _ _ _ _ _
    refine s_goto hC dX10_lowest_47 (tgt := 56) (by decide) ?_
    refine s_iinc hC 5 dX10_lowest_56 rfl (w := 1) (by decide) (by decide) (lv' := [(4, vI (v12 + (1 : Int32))), (5, vI v16), (0, vR v8), (1, vI v9), (2, vI v10), (3, vI v11)]) rfl ?_
    refine s_goto hC dX10_lowest_59 (tgt := 25) (by decide) ?_
    refine s_lv (lv' := [(0, vR v8), (1, vI v9), (2, vI v10), (3, vI v11), (4, vI (v12 + (1 : Int32)))]) [2, 3, 4, 5, 0] rfl ?_
    exact ih _ _ _ _ _ _
def f_X10_lowest (X : x_X) (v0 : Nat) (v1 : Int32) (μ : x_M) : Option (Int32 × x_M) :=
  (ck (x_kd X v0 = 10 + 1) (bd (f_X10_isDays X v0 v1 μ) (fun (v3 : Int32) (μ4 : x_M) => (if v3 = 0 then (some ((-2 : Int32), μ4)) else (ck (x_kd X v0 = 10 + 1) (bd (f_X10_save X v0 μ4) (fun (_ : Unit) (μ5 : x_M) => (ck (x_kd X v0 = 10 + 1) (bd (f_X10_level X v0 μ5) (fun (v6 : Int32) (μ7 : x_M) => (f_X10_lowest_L25 X 4096 v0 v1 (0 : Int32) v6 (1 : Int32) μ7)))))))))))
set_option maxRecDepth 100000 in
theorem m_X10_lowest (hI : x_I X) (v0 : Nat) (v1 : Int32) (μ : x_M) : x_Met X x_Z0 l yX10_lowest cX10_lowest 6 (some .int) 6 [vR v0, vI v1] μ rkI (f_X10_lowest X v0 v1 μ) := by
  refine x_enter hI (by decide +kernel) (Nat.le_of_ble_eq_true rfl) (fun p e s m args below meth c hC hr hlk => ?_)
  unfold f_X10_lowest
  refine s_lv (lv' := [(0, vR v0), (1, vI v1)]) [0, 1] rfl ?_
  refine s_aload_n hC 0 dX10_lowest_0 rfl ?_
  refine s_iload_n hC 1 dX10_lowest_1 rfl ?_
  refine s_callV hC (x := v0) (avs := [vI v1]) (st := []) (nest := false) xc10 (m_X10_isDays hI v0 v1 μ) dX10_lowest_2 qm_X10_363 qi_X10_isDays qs_X10_isDays qc_X10 qd_X10_isDays qh_X10_isDays (by decide) (fun _ => Nat.le_of_ble_eq_true rfl) (Nat.le_of_ble_eq_true rfl) (fun v3 μ4 => ?_)
  refine s_if_ne hC dX10_lowest_5 (tgt := 11) (by decide) ?_ ?_
  · refine s_aload_n hC 0 dX10_lowest_11 rfl ?_
    refine s_callV hC (x := v0) (avs := []) (st := []) (nest := false) xc10 (m_X10_save hI v0 μ4) dX10_lowest_12 qm_X10_366 qi_X10_save qs_X10_save qc_X10 qd_X10_save qh_X10_save (by decide) (fun _ => Nat.le_of_ble_eq_true rfl) (Nat.le_of_ble_eq_true rfl) (fun _ μ5 => ?_)
    refine s_iconst hC dX10_lowest_15 (v := 0) (by decide) ?_
    refine s_istore_n hC dX10_lowest_16 (by decide) (lv' := [(2, vI (0 : Int32)), (0, vR v0), (1, vI v1)]) rfl ?_
    refine s_aload_n hC 1 dX10_lowest_17 rfl ?_
    refine s_callV hC (x := v0) (avs := []) (st := []) (nest := false) xc10 (m_X10_level hI v0 μ5) dX10_lowest_18 qm_X10_328 qi_X10_level qs_X10_level qc_X10 qd_X10_level qh_X10_level (by decide) (fun _ => Nat.le_of_ble_eq_true rfl) (Nat.le_of_ble_eq_true rfl) (fun v6 μ7 => ?_)
    refine s_istore_n hC dX10_lowest_21 (by decide) (lv' := [(3, vI v6), (2, vI (0 : Int32)), (0, vR v0), (1, vI v1)]) rfl ?_
    refine s_iconst hC dX10_lowest_22 (v := 1) (by decide) ?_
    refine s_istore hC dX10_lowest_23 (by decide) (lv' := [(4, vI (1 : Int32)), (3, vI v6), (2, vI (0 : Int32)), (0, vR v0), (1, vI v1)]) rfl ?_
    refine s_lv (lv' := [(0, vR v0), (1, vI v1), (2, vI (0 : Int32)), (3, vI v6), (4, vI (1 : Int32))]) [3, 4, 2, 1, 0] rfl ?_
    refine j_X10_lowest_L25 hI hC hr hlk 4096 _ _ _ _ _ _
  refine s_bipush hC dX10_lowest_8 (v := -2) (by decide) ?_
  exact s_iret hC hr hlk dX10_lowest_10
theorem dX10_ruined_0 : decode cX10_ruined 0 = .ok (.aload_n 0, 1) := by decide +kernel
theorem dX10_ruined_1 : decode cX10_ruined 1 = .ok (.iload_n 1, 1) := by decide +kernel
theorem dX10_ruined_2 : decode cX10_ruined 2 = .ok (.iconst 0, 1) := by decide +kernel
theorem dX10_ruined_3 : decode cX10_ruined 3 = .ok (.sipush 999, 3) := by decide +kernel
theorem dX10_ruined_6 : decode cX10_ruined 6 = .ok (.invokevirtual 245, 3) := by decide +kernel
theorem dX10_ruined_9 : decode cX10_ruined 9 = .ok (.ifCond .ne 6, 3) := by decide +kernel
theorem dX10_ruined_12 : decode cX10_ruined 12 = .ok (.bipush (-2), 2) := by decide +kernel
theorem dX10_ruined_14 : decode cX10_ruined 14 = .ok (.ireturn, 1) := by decide +kernel
theorem dX10_ruined_15 : decode cX10_ruined 15 = .ok (.aload_n 0, 1) := by decide +kernel
theorem dX10_ruined_16 : decode cX10_ruined 16 = .ok (.invokevirtual 366, 3) := by decide +kernel
theorem dX10_ruined_19 : decode cX10_ruined 19 = .ok (.aload_n 0, 1) := by decide +kernel
theorem dX10_ruined_20 : decode cX10_ruined 20 = .ok (.iload_n 1, 1) := by decide +kernel
theorem dX10_ruined_21 : decode cX10_ruined 21 = .ok (.invokevirtual 375, 3) := by decide +kernel
theorem dX10_ruined_24 : decode cX10_ruined 24 = .ok (.istore_n 2, 1) := by decide +kernel
theorem dX10_ruined_25 : decode cX10_ruined 25 = .ok (.iconst 0, 1) := by decide +kernel
theorem dX10_ruined_26 : decode cX10_ruined 26 = .ok (.istore_n 3, 1) := by decide +kernel
theorem dX10_ruined_27 : decode cX10_ruined 27 = .ok (.iload_n 3, 1) := by decide +kernel
theorem dX10_ruined_28 : decode cX10_ruined 28 = .ok (.bipush 60, 2) := by decide +kernel
theorem dX10_ruined_30 : decode cX10_ruined 30 = .ok (.if_icmp .ge 23, 3) := by decide +kernel
theorem dX10_ruined_33 : decode cX10_ruined 33 = .ok (.iload_n 2, 1) := by decide +kernel
theorem dX10_ruined_34 : decode cX10_ruined 34 = .ok (.ifCond .ge 19, 3) := by decide +kernel
theorem dX10_ruined_37 : decode cX10_ruined 37 = .ok (.aload_n 0, 1) := by decide +kernel
theorem dX10_ruined_38 : decode cX10_ruined 38 = .ok (.invokevirtual 360, 3) := by decide +kernel
theorem dX10_ruined_41 : decode cX10_ruined 41 = .ok (.aload_n 0, 1) := by decide +kernel
theorem dX10_ruined_42 : decode cX10_ruined 42 = .ok (.iload_n 1, 1) := by decide +kernel
theorem dX10_ruined_43 : decode cX10_ruined 43 = .ok (.invokevirtual 375, 3) := by decide +kernel
theorem dX10_ruined_46 : decode cX10_ruined 46 = .ok (.istore_n 2, 1) := by decide +kernel
theorem dX10_ruined_47 : decode cX10_ruined 47 = .ok (.iinc 3 1, 3) := by decide +kernel
theorem dX10_ruined_50 : decode cX10_ruined 50 = .ok (.goto (-23), 3) := by decide +kernel
theorem dX10_ruined_53 : decode cX10_ruined 53 = .ok (.aload_n 0, 1) := by decide +kernel
theorem dX10_ruined_54 : decode cX10_ruined 54 = .ok (.invokevirtual 372, 3) := by decide +kernel
theorem dX10_ruined_57 : decode cX10_ruined 57 = .ok (.iload_n 2, 1) := by decide +kernel
theorem dX10_ruined_58 : decode cX10_ruined 58 = .ok (.ireturn, 1) := by decide +kernel
def f_X10_ruined_L27 (X : x_X) : Nat → Nat → Int32 → Int32 → Int32 → x_M → Option (Int32 × x_M)
  | 0, _, _, _, _, _ => none
  | n + 1, v8, v9, v10, v11, μ12 =>
    (if (60 : Int32) ≤ v11 then (ck (x_kd X v8 = 10 + 1) (bd (f_X10_putBack X v8 μ12) (fun (_ : Unit) (μ13 : x_M) => (some (v10, μ13))))) else (if 0 ≤ v10 then (ck (x_kd X v8 = 10 + 1) (bd (f_X10_putBack X v8 μ12) (fun (_ : Unit) (μ14 : x_M) => (some (v10, μ14))))) else (ck (x_kd X v8 = 10 + 1) (bd (f_X10_goDay X v8 μ12) (fun (_ : Unit) (μ15 : x_M) => (ck (x_kd X v8 = 10 + 1) (bd (f_X10_below X v8 v9 μ15) (fun (v16 : Int32) (μ17 : x_M) => (f_X10_ruined_L27 X n v8 v9 v16 (v11 + (1 : Int32)) μ17)))))))))
set_option maxRecDepth 100000 in
theorem j_X10_ruined_L27 (hI : x_I X) (hC : x_C X x_Z0 p (x_rm 6) s m c cX10_ruined RX10 4 0 0 6) (hr : meth.sig.returnType = (some .int)) (hlk : meth.locks = false) : ∀ (n : Nat) (v8 : Nat) (v9 : Int32) (v10 : Int32) (v11 : Int32) (μ12 : x_M), SM X 4 6 rkI p l e s m args below meth c 27 [(0, vR v8), (1, vI v9), (2, vI v10), (3, vI v11)] [] μ12 (f_X10_ruined_L27 X n v8 v9 v10 v11 μ12) := by
  intro n
  induction n with
  | zero => intro v8 v9 v10 v11 μ12; exact s_none
  | succ n ih =>
    intro v8 v9 v10 v11 μ12
    unfold f_X10_ruined_L27
    refine s_iload_n hC 3 dX10_ruined_27 rfl ?_
    refine s_bipush hC dX10_ruined_28 (v := 60) (by decide) ?_
    refine s_icmp_ge hC dX10_ruined_30 (tgt := 53) (by decide) ?_ ?_
    · refine s_aload_n hC 0 dX10_ruined_53 rfl ?_
      refine s_callV hC (x := v8) (avs := []) (st := []) (nest := false) xc10 (m_X10_putBack hI v8 μ12) dX10_ruined_54 qm_X10_372 qi_X10_putBack qs_X10_putBack qc_X10 qd_X10_putBack qh_X10_putBack (by decide) (fun _ => Nat.le_of_ble_eq_true rfl) (Nat.le_of_ble_eq_true rfl) (fun _ μ13 => ?_)
      refine s_iload_n hC 2 dX10_ruined_57 rfl ?_
      exact s_iret hC hr hlk dX10_ruined_58
    refine s_iload_n hC 2 dX10_ruined_33 rfl ?_
    refine s_if_ge hC dX10_ruined_34 (tgt := 53) (by decide) ?_ ?_
    · refine s_aload_n hC 0 dX10_ruined_53 rfl ?_
      refine s_callV hC (x := v8) (avs := []) (st := []) (nest := false) xc10 (m_X10_putBack hI v8 μ12) dX10_ruined_54 qm_X10_372 qi_X10_putBack qs_X10_putBack qc_X10 qd_X10_putBack qh_X10_putBack (by decide) (fun _ => Nat.le_of_ble_eq_true rfl) (Nat.le_of_ble_eq_true rfl) (fun _ μ14 => ?_)
      refine s_iload_n hC 2 dX10_ruined_57 rfl ?_
      exact s_iret hC hr hlk dX10_ruined_58
    refine s_aload_n hC 0 dX10_ruined_37 rfl ?_
    refine s_callV hC (x := v8) (avs := []) (st := []) (nest := false) xc10 (m_X10_goDay hI v8 μ12) dX10_ruined_38 qm_X10_360 qi_X10_goDay qs_X10_goDay qc_X10 qd_X10_goDay qh_X10_goDay (by decide) (fun _ => Nat.le_of_ble_eq_true rfl) (Nat.le_of_ble_eq_true rfl) (fun _ μ15 => ?_)
    refine s_aload_n hC 0 dX10_ruined_41 rfl ?_
    refine s_iload_n hC 1 dX10_ruined_42 rfl ?_
    refine s_callV hC (x := v8) (avs := [vI v9]) (st := []) (nest := false) xc10 (m_X10_below hI v8 v9 μ15) dX10_ruined_43 qm_X10_375 qi_X10_below qs_X10_below qc_X10 qd_X10_below qh_X10_below (by decide) (fun _ => Nat.le_of_ble_eq_true rfl) (Nat.le_of_ble_eq_true rfl) (fun v16 μ17 => ?_)
    refine s_istore_n hC dX10_ruined_46 (by decide) (lv' := [(2, vI v16), (0, vR v8), (1, vI v9), (3, vI v11)]) rfl ?_
    refine s_iinc hC 3 dX10_ruined_47 rfl (w := 1) (by decide) (by decide) (lv' := [(3, vI (v11 + (1 : Int32))), (2, vI v16), (0, vR v8), (1, vI v9)]) rfl ?_
    refine s_goto hC dX10_ruined_50 (tgt := 27) (by decide) ?_
    refine s_lv (lv' := [(0, vR v8), (1, vI v9), (2, vI v16), (3, vI (v11 + (1 : Int32)))]) [2, 3, 1, 0] rfl ?_
    exact ih _ _ _ _ _
def f_X10_ruined (X : x_X) (v0 : Nat) (v1 : Int32) (μ : x_M) : Option (Int32 × x_M) :=
  (ck (x_kd X v0 = 10 + 1) (bd (f_X10_in X v0 v1 (0 : Int32) (999 : Int32) μ) (fun (v3 : Int32) (μ4 : x_M) => (if v3 = 0 then (some ((-2 : Int32), μ4)) else (ck (x_kd X v0 = 10 + 1) (bd (f_X10_save X v0 μ4) (fun (_ : Unit) (μ5 : x_M) => (ck (x_kd X v0 = 10 + 1) (bd (f_X10_below X v0 v1 μ5) (fun (v6 : Int32) (μ7 : x_M) => (f_X10_ruined_L27 X 4096 v0 v1 v6 (0 : Int32) μ7)))))))))))
set_option maxRecDepth 100000 in
theorem m_X10_ruined (hI : x_I X) (v0 : Nat) (v1 : Int32) (μ : x_M) : x_Met X x_Z0 l yX10_ruined cX10_ruined 4 (some .int) 6 [vR v0, vI v1] μ rkI (f_X10_ruined X v0 v1 μ) := by
  refine x_enter hI (by decide +kernel) (Nat.le_of_ble_eq_true rfl) (fun p e s m args below meth c hC hr hlk => ?_)
  unfold f_X10_ruined
  refine s_lv (lv' := [(0, vR v0), (1, vI v1)]) [0, 1] rfl ?_
  refine s_aload_n hC 0 dX10_ruined_0 rfl ?_
  refine s_iload_n hC 1 dX10_ruined_1 rfl ?_
  refine s_iconst hC dX10_ruined_2 (v := 0) (by decide) ?_
  refine s_sipush hC dX10_ruined_3 (v := 999) (by decide) ?_
  refine s_callV hC (x := v0) (avs := [vI v1, vI (0 : Int32), vI (999 : Int32)]) (st := []) (nest := false) xc10 (m_X10_in hI v0 v1 (0 : Int32) (999 : Int32) μ) dX10_ruined_6 qm_X10_245 qi_X10_in qs_X10_in qc_X10 qd_X10_in qh_X10_in (by decide) (fun _ => Nat.le_of_ble_eq_true rfl) (Nat.le_of_ble_eq_true rfl) (fun v3 μ4 => ?_)
  refine s_if_ne hC dX10_ruined_9 (tgt := 15) (by decide) ?_ ?_
  · refine s_aload_n hC 0 dX10_ruined_15 rfl ?_
    refine s_callV hC (x := v0) (avs := []) (st := []) (nest := false) xc10 (m_X10_save hI v0 μ4) dX10_ruined_16 qm_X10_366 qi_X10_save qs_X10_save qc_X10 qd_X10_save qh_X10_save (by decide) (fun _ => Nat.le_of_ble_eq_true rfl) (Nat.le_of_ble_eq_true rfl) (fun _ μ5 => ?_)
    refine s_aload_n hC 0 dX10_ruined_19 rfl ?_
    refine s_iload_n hC 1 dX10_ruined_20 rfl ?_
    refine s_callV hC (x := v0) (avs := [vI v1]) (st := []) (nest := false) xc10 (m_X10_below hI v0 v1 μ5) dX10_ruined_21 qm_X10_375 qi_X10_below qs_X10_below qc_X10 qd_X10_below qh_X10_below (by decide) (fun _ => Nat.le_of_ble_eq_true rfl) (Nat.le_of_ble_eq_true rfl) (fun v6 μ7 => ?_)
    refine s_istore_n hC dX10_ruined_24 (by decide) (lv' := [(2, vI v6), (0, vR v0), (1, vI v1)]) rfl ?_
    refine s_iconst hC dX10_ruined_25 (v := 0) (by decide) ?_
    refine s_istore_n hC dX10_ruined_26 (by decide) (lv' := [(3, vI (0 : Int32)), (2, vI v6), (0, vR v0), (1, vI v1)]) rfl ?_
    refine s_lv (lv' := [(0, vR v0), (1, vI v1), (2, vI v6), (3, vI (0 : Int32))]) [2, 3, 1, 0] rfl ?_
    refine j_X10_ruined_L27 hI hC hr hlk 4096 _ _ _ _ _
  refine s_bipush hC dX10_ruined_12 (v := -2) (by decide) ?_
  exact s_iret hC hr hlk dX10_ruined_14
theorem dX10_isAbove_0 : decode cX10_isAbove 0 = .ok (.aload_n 0, 1) := by decide +kernel
theorem dX10_isAbove_1 : decode cX10_isAbove 1 = .ok (.invokevirtual 366, 3) := by decide +kernel
theorem dX10_isAbove_4 : decode cX10_isAbove 4 = .ok (.iconst 1, 1) := by decide +kernel
theorem dX10_isAbove_5 : decode cX10_isAbove 5 = .ok (.istore_n 2, 1) := by decide +kernel
theorem dX10_isAbove_6 : decode cX10_isAbove 6 = .ok (.iconst 0, 1) := by decide +kernel
theorem dX10_isAbove_7 : decode cX10_isAbove 7 = .ok (.istore_n 3, 1) := by decide +kernel
theorem dX10_isAbove_8 : decode cX10_isAbove 8 = .ok (.iload_n 3, 1) := by decide +kernel
theorem dX10_isAbove_9 : decode cX10_isAbove 9 = .ok (.iload_n 1, 1) := by decide +kernel
theorem dX10_isAbove_10 : decode cX10_isAbove 10 = .ok (.if_icmp .ge 34, 3) := by decide +kernel
theorem dX10_isAbove_13 : decode cX10_isAbove 13 = .ok (.iload_n 2, 1) := by decide +kernel
theorem dX10_isAbove_14 : decode cX10_isAbove 14 = .ok (.ifCond .eq 30, 3) := by decide +kernel
theorem dX10_isAbove_17 : decode cX10_isAbove 17 = .ok (.aload_n 0, 1) := by decide +kernel
theorem dX10_isAbove_18 : decode cX10_isAbove 18 = .ok (.invokevirtual 360, 3) := by decide +kernel
theorem dX10_isAbove_21 : decode cX10_isAbove 21 = .ok (.aload_n 0, 1) := by decide +kernel
theorem dX10_isAbove_22 : decode cX10_isAbove 22 = .ok (.invokevirtual 328, 3) := by decide +kernel
theorem dX10_isAbove_25 : decode cX10_isAbove 25 = .ok (.aload_n 0, 1) := by decide +kernel
theorem dX10_isAbove_26 : decode cX10_isAbove 26 = .ok (.invokevirtual 346, 3) := by decide +kernel
theorem dX10_isAbove_29 : decode cX10_isAbove 29 = .ok (.if_icmp .le 7, 3) := by decide +kernel
theorem dX10_isAbove_32 : decode cX10_isAbove 32 = .ok (.iconst 1, 1) := by decide +kernel
theorem dX10_isAbove_33 : decode cX10_isAbove 33 = .ok (.goto 4, 3) := by decide +kernel
theorem dX10_isAbove_36 : decode cX10_isAbove 36 = .ok (.iconst 0, 1) := by decide +kernel
theorem dX10_isAbove_37 : decode cX10_isAbove 37 = .ok (.istore_n 2, 1) := by decide +kernel
theorem dX10_isAbove_38 : decode cX10_isAbove 38 = .ok (.iinc 3 1, 3) := by decide +kernel
theorem dX10_isAbove_41 : decode cX10_isAbove 41 = .ok (.goto (-33), 3) := by decide +kernel
theorem dX10_isAbove_44 : decode cX10_isAbove 44 = .ok (.aload_n 0, 1) := by decide +kernel
theorem dX10_isAbove_45 : decode cX10_isAbove 45 = .ok (.invokevirtual 372, 3) := by decide +kernel
theorem dX10_isAbove_48 : decode cX10_isAbove 48 = .ok (.iload_n 2, 1) := by decide +kernel
theorem dX10_isAbove_49 : decode cX10_isAbove 49 = .ok (.ireturn, 1) := by decide +kernel
def f_X10_isAbove_L8 (X : x_X) : Nat → Nat → Int32 → Int32 → Int32 → x_M → Option (Int32 × x_M)
  | 0, _, _, _, _, _ => none
  | n + 1, v4, v5, v6, v7, μ8 =>
    (if v5 ≤ v7 then (ck (x_kd X v4 = 10 + 1) (bd (f_X10_putBack X v4 μ8) (fun (_ : Unit) (μ9 : x_M) => (ck (v6 = 0 ∨ v6 = 1) (some (v6, μ9)))))) else (if v6 = 0 then (ck (x_kd X v4 = 10 + 1) (bd (f_X10_putBack X v4 μ8) (fun (_ : Unit) (μ10 : x_M) => (ck (v6 = 0 ∨ v6 = 1) (some (v6, μ10)))))) else (ck (x_kd X v4 = 10 + 1) (bd (f_X10_goDay X v4 μ8) (fun (_ : Unit) (μ11 : x_M) => (ck (x_kd X v4 = 10 + 1) (bd (f_X10_level X v4 μ11) (fun (v12 : Int32) (μ13 : x_M) => (ck (x_kd X v4 = 10 + 1) (bd (f_X10_floor X v4 μ13) (fun (v14 : Int32) (μ15 : x_M) => (if v12 ≤ v14 then (f_X10_isAbove_L8 X n v4 v5 (0 : Int32) (v7 + (1 : Int32)) μ15) else (f_X10_isAbove_L8 X n v4 v5 (1 : Int32) (v7 + (1 : Int32)) μ15)))))))))))))
set_option maxRecDepth 100000 in
theorem j_X10_isAbove_L8 (hI : x_I X) (hC : x_C X x_Z0 p (x_rm 6) s m c cX10_isAbove RX10 4 0 0 6) (hr : meth.sig.returnType = (some .boolean)) (hlk : meth.locks = false) : ∀ (n : Nat) (v4 : Nat) (v5 : Int32) (v6 : Int32) (v7 : Int32) (μ8 : x_M), SM X 4 6 rkI p l e s m args below meth c 8 [(0, vR v4), (1, vI v5), (2, vI v6), (3, vI v7)] [] μ8 (f_X10_isAbove_L8 X n v4 v5 v6 v7 μ8) := by
  intro n
  induction n with
  | zero => intro v4 v5 v6 v7 μ8; exact s_none
  | succ n ih =>
    intro v4 v5 v6 v7 μ8
    unfold f_X10_isAbove_L8
    refine s_iload_n hC 3 dX10_isAbove_8 rfl ?_
    refine s_iload_n hC 1 dX10_isAbove_9 rfl ?_
    refine s_icmp_ge hC dX10_isAbove_10 (tgt := 44) (by decide) ?_ ?_
    · refine s_aload_n hC 0 dX10_isAbove_44 rfl ?_
      refine s_callV hC (x := v4) (avs := []) (st := []) (nest := false) xc10 (m_X10_putBack hI v4 μ8) dX10_isAbove_45 qm_X10_372 qi_X10_putBack qs_X10_putBack qc_X10 qd_X10_putBack qh_X10_putBack (by decide) (fun _ => Nat.le_of_ble_eq_true rfl) (Nat.le_of_ble_eq_true rfl) (fun _ μ9 => ?_)
      refine s_iload_n hC 2 dX10_isAbove_48 rfl ?_
      exact s_zret hC hr hlk dX10_isAbove_49
    refine s_iload_n hC 2 dX10_isAbove_13 rfl ?_
    refine s_if_eq hC dX10_isAbove_14 (tgt := 44) (by decide) ?_ ?_
    · refine s_aload_n hC 0 dX10_isAbove_44 rfl ?_
      refine s_callV hC (x := v4) (avs := []) (st := []) (nest := false) xc10 (m_X10_putBack hI v4 μ8) dX10_isAbove_45 qm_X10_372 qi_X10_putBack qs_X10_putBack qc_X10 qd_X10_putBack qh_X10_putBack (by decide) (fun _ => Nat.le_of_ble_eq_true rfl) (Nat.le_of_ble_eq_true rfl) (fun _ μ10 => ?_)
      refine s_iload_n hC 2 dX10_isAbove_48 rfl ?_
      exact s_zret hC hr hlk dX10_isAbove_49
    refine s_aload_n hC 0 dX10_isAbove_17 rfl ?_
    refine s_callV hC (x := v4) (avs := []) (st := []) (nest := false) xc10 (m_X10_goDay hI v4 μ8) dX10_isAbove_18 qm_X10_360 qi_X10_goDay qs_X10_goDay qc_X10 qd_X10_goDay qh_X10_goDay (by decide) (fun _ => Nat.le_of_ble_eq_true rfl) (Nat.le_of_ble_eq_true rfl) (fun _ μ11 => ?_)
    refine s_aload_n hC 0 dX10_isAbove_21 rfl ?_
    refine s_callV hC (x := v4) (avs := []) (st := []) (nest := false) xc10 (m_X10_level hI v4 μ11) dX10_isAbove_22 qm_X10_328 qi_X10_level qs_X10_level qc_X10 qd_X10_level qh_X10_level (by decide) (fun _ => Nat.le_of_ble_eq_true rfl) (Nat.le_of_ble_eq_true rfl) (fun v12 μ13 => ?_)
    refine s_aload_n hC 0 dX10_isAbove_25 rfl ?_
    refine s_callV hC (x := v4) (avs := []) (st := [vI v12]) (nest := false) xc10 (m_X10_floor hI v4 μ13) dX10_isAbove_26 qm_X10_346 qi_X10_floor qs_X10_floor qc_X10 qd_X10_floor qh_X10_floor (by decide) (fun _ => Nat.le_of_ble_eq_true rfl) (Nat.le_of_ble_eq_true rfl) (fun v14 μ15 => ?_)
    refine s_icmp_le hC dX10_isAbove_29 (tgt := 36) (by decide) ?_ ?_
    · refine s_iconst hC dX10_isAbove_36 (v := 0) (by decide) ?_
      refine s_istore_n hC dX10_isAbove_37 (by decide) (lv' := [(2, vI (0 : Int32)), (0, vR v4), (1, vI v5), (3, vI v7)]) rfl ?_
      refine s_iinc hC 3 dX10_isAbove_38 rfl (w := 1) (by decide) (by decide) (lv' := [(3, vI (v7 + (1 : Int32))), (2, vI (0 : Int32)), (0, vR v4), (1, vI v5)]) rfl ?_
      refine s_goto hC dX10_isAbove_41 (tgt := 8) (by decide) ?_
      refine s_lv (lv' := [(0, vR v4), (1, vI v5), (2, vI (0 : Int32)), (3, vI (v7 + (1 : Int32)))]) [2, 3, 1, 0] rfl ?_
      exact ih _ _ _ _ _
    refine s_iconst hC dX10_isAbove_32 (v := 1) (by decide) ?_
    refine s_goto hC dX10_isAbove_33 (tgt := 37) (by decide) ?_
    refine s_istore_n hC dX10_isAbove_37 (by decide) (lv' := [(2, vI (1 : Int32)), (0, vR v4), (1, vI v5), (3, vI v7)]) rfl ?_
    refine s_iinc hC 3 dX10_isAbove_38 rfl (w := 1) (by decide) (by decide) (lv' := [(3, vI (v7 + (1 : Int32))), (2, vI (1 : Int32)), (0, vR v4), (1, vI v5)]) rfl ?_
    refine s_goto hC dX10_isAbove_41 (tgt := 8) (by decide) ?_
    refine s_lv (lv' := [(0, vR v4), (1, vI v5), (2, vI (1 : Int32)), (3, vI (v7 + (1 : Int32)))]) [2, 3, 1, 0] rfl ?_
    exact ih _ _ _ _ _
def f_X10_isAbove (X : x_X) (v0 : Nat) (v1 : Int32) (μ : x_M) : Option (Int32 × x_M) :=
  (ck (x_kd X v0 = 10 + 1) (bd (f_X10_save X v0 μ) (fun (_ : Unit) (μ3 : x_M) => (f_X10_isAbove_L8 X 4096 v0 v1 (1 : Int32) (0 : Int32) μ3))))
set_option maxRecDepth 100000 in
theorem m_X10_isAbove (hI : x_I X) (v0 : Nat) (v1 : Int32) (μ : x_M) : x_Met X x_Z0 l yX10_isAbove cX10_isAbove 4 (some .boolean) 6 [vR v0, vI v1] μ rkI (f_X10_isAbove X v0 v1 μ) := by
  refine x_enter hI (by decide +kernel) (Nat.le_of_ble_eq_true rfl) (fun p e s m args below meth c hC hr hlk => ?_)
  unfold f_X10_isAbove
  refine s_lv (lv' := [(0, vR v0), (1, vI v1)]) [0, 1] rfl ?_
  refine s_aload_n hC 0 dX10_isAbove_0 rfl ?_
  refine s_callV hC (x := v0) (avs := []) (st := []) (nest := false) xc10 (m_X10_save hI v0 μ) dX10_isAbove_1 qm_X10_366 qi_X10_save qs_X10_save qc_X10 qd_X10_save qh_X10_save (by decide) (fun _ => Nat.le_of_ble_eq_true rfl) (Nat.le_of_ble_eq_true rfl) (fun _ μ3 => ?_)
  refine s_iconst hC dX10_isAbove_4 (v := 1) (by decide) ?_
  refine s_istore_n hC dX10_isAbove_5 (by decide) (lv' := [(2, vI (1 : Int32)), (0, vR v0), (1, vI v1)]) rfl ?_
  refine s_iconst hC dX10_isAbove_6 (v := 0) (by decide) ?_
  refine s_istore_n hC dX10_isAbove_7 (by decide) (lv' := [(3, vI (0 : Int32)), (2, vI (1 : Int32)), (0, vR v0), (1, vI v1)]) rfl ?_
  refine s_lv (lv' := [(0, vR v0), (1, vI v1), (2, vI (1 : Int32)), (3, vI (0 : Int32))]) [2, 3, 1, 0] rfl ?_
  refine j_X10_isAbove_L8 hI hC hr hlk 4096 _ _ _ _ _
theorem dX10_enough_0 : decode cX10_enough 0 = .ok (.aload_n 0, 1) := by decide +kernel
theorem dX10_enough_1 : decode cX10_enough 1 = .ok (.iload_n 1, 1) := by decide +kernel
theorem dX10_enough_2 : decode cX10_enough 2 = .ok (.invokevirtual 257, 3) := by decide +kernel
theorem dX10_enough_5 : decode cX10_enough 5 = .ok (.ifCond .ne 5, 3) := by decide +kernel
theorem dX10_enough_8 : decode cX10_enough 8 = .ok (.iconst (-1), 1) := by decide +kernel
theorem dX10_enough_9 : decode cX10_enough 9 = .ok (.ireturn, 1) := by decide +kernel
theorem dX10_enough_10 : decode cX10_enough 10 = .ok (.aload_n 0, 1) := by decide +kernel
theorem dX10_enough_11 : decode cX10_enough 11 = .ok (.iload_n 2, 1) := by decide +kernel
theorem dX10_enough_12 : decode cX10_enough 12 = .ok (.sipush (-999), 3) := by decide +kernel
theorem dX10_enough_15 : decode cX10_enough 15 = .ok (.sipush 999, 3) := by decide +kernel
theorem dX10_enough_18 : decode cX10_enough 18 = .ok (.invokevirtual 245, 3) := by decide +kernel
theorem dX10_enough_21 : decode cX10_enough 21 = .ok (.ifCond .ne 6, 3) := by decide +kernel
theorem dX10_enough_24 : decode cX10_enough 24 = .ok (.bipush (-2), 2) := by decide +kernel
theorem dX10_enough_26 : decode cX10_enough 26 = .ok (.ireturn, 1) := by decide +kernel
theorem dX10_enough_27 : decode cX10_enough 27 = .ok (.aload_n 0, 1) := by decide +kernel
theorem dX10_enough_28 : decode cX10_enough 28 = .ok (.invokevirtual 366, 3) := by decide +kernel
theorem dX10_enough_31 : decode cX10_enough 31 = .ok (.iconst 0, 1) := by decide +kernel
theorem dX10_enough_32 : decode cX10_enough 32 = .ok (.istore_n 3, 1) := by decide +kernel
theorem dX10_enough_33 : decode cX10_enough 33 = .ok (.iload_n 3, 1) := by decide +kernel
theorem dX10_enough_34 : decode cX10_enough 34 = .ok (.bipush 61, 2) := by decide +kernel
theorem dX10_enough_36 : decode cX10_enough 36 = .ok (.if_icmp .ge 23, 3) := by decide +kernel
theorem dX10_enough_39 : decode cX10_enough 39 = .ok (.aload_n 0, 1) := by decide +kernel
theorem dX10_enough_40 : decode cX10_enough 40 = .ok (.getfield 32, 3) := by decide +kernel
theorem dX10_enough_43 : decode cX10_enough 43 = .ok (.iload_n 1, 1) := by decide +kernel
theorem dX10_enough_44 : decode cX10_enough 44 = .ok (.iaload, 1) := by decide +kernel
theorem dX10_enough_45 : decode cX10_enough 45 = .ok (.iload_n 2, 1) := by decide +kernel
theorem dX10_enough_46 : decode cX10_enough 46 = .ok (.if_icmp .ge 13, 3) := by decide +kernel
theorem dX10_enough_49 : decode cX10_enough 49 = .ok (.aload_n 0, 1) := by decide +kernel
theorem dX10_enough_50 : decode cX10_enough 50 = .ok (.invokevirtual 360, 3) := by decide +kernel
theorem dX10_enough_53 : decode cX10_enough 53 = .ok (.iinc 3 1, 3) := by decide +kernel
theorem dX10_enough_56 : decode cX10_enough 56 = .ok (.goto (-23), 3) := by decide +kernel
theorem dX10_enough_59 : decode cX10_enough 59 = .ok (.aload_n 0, 1) := by decide +kernel
theorem dX10_enough_60 : decode cX10_enough 60 = .ok (.invokevirtual 372, 3) := by decide +kernel
theorem dX10_enough_63 : decode cX10_enough 63 = .ok (.iload_n 3, 1) := by decide +kernel
theorem dX10_enough_64 : decode cX10_enough 64 = .ok (.bipush 61, 2) := by decide +kernel
theorem dX10_enough_66 : decode cX10_enough 66 = .ok (.if_icmp .ge 7, 3) := by decide +kernel
theorem dX10_enough_69 : decode cX10_enough 69 = .ok (.iload_n 3, 1) := by decide +kernel
theorem dX10_enough_70 : decode cX10_enough 70 = .ok (.goto 5, 3) := by decide +kernel
theorem dX10_enough_73 : decode cX10_enough 73 = .ok (.bipush (-5), 2) := by decide +kernel
theorem dX10_enough_75 : decode cX10_enough 75 = .ok (.ireturn, 1) := by decide +kernel
def f_X10_enough_L33 (X : x_X) (k59 : Nat → Int32 → x_M → Option (Int32 × x_M)) : Nat → Nat → Int32 → Int32 → Int32 → x_M → Option (Int32 × x_M)
  | 0, _, _, _, _, _ => none
  | n + 1, v9, v10, v11, v12, μ13 =>
    (if (61 : Int32) ≤ v12 then (k59 v9 v12 μ13) else (ck (x_kd X v9 = 10 + 1) (lt (μ13.2.1 v9 7) (fun (v14 : Nat) => (ck ((x_kd X v14 = 20 ∨ x_kd X v14 = 40) ∧ x_ix v10 (x_ln X v14)) (if v11 ≤ (μ13.1 v14 (v10).toNatClampNeg) then (k59 v9 v12 μ13) else (ck (x_kd X v9 = 10 + 1) (bd (f_X10_goDay X v9 μ13) (fun (_ : Unit) (μ15 : x_M) => (f_X10_enough_L33 X k59 n v9 v10 v11 (v12 + (1 : Int32)) μ15))))))))))
set_option maxRecDepth 100000 in
theorem j_X10_enough_L33 (hI : x_I X) (hC : x_C X x_Z0 p (x_rm 6) s m c cX10_enough RX10 4 0 0 6) (hr : meth.sig.returnType = (some .int)) (hlk : meth.locks = false) {k59 : Nat → Int32 → x_M → Option (Int32 × x_M)} (hk59 : ∀ (b0 : Nat) (b3 : Int32) (μ : x_M), SM X 4 6 rkI p l e s m args below meth c 59 [(0, vR b0), (3, vI b3)] [] μ (k59 b0 b3 μ)) : ∀ (n : Nat) (v9 : Nat) (v10 : Int32) (v11 : Int32) (v12 : Int32) (μ13 : x_M), SM X 4 6 rkI p l e s m args below meth c 33 [(0, vR v9), (1, vI v10), (2, vI v11), (3, vI v12)] [] μ13 (f_X10_enough_L33 X k59 n v9 v10 v11 v12 μ13) := by
  intro n
  induction n with
  | zero => intro v9 v10 v11 v12 μ13; exact s_none
  | succ n ih =>
    intro v9 v10 v11 v12 μ13
    unfold f_X10_enough_L33
    refine s_iload_n hC 3 dX10_enough_33 rfl ?_
    refine s_bipush hC dX10_enough_34 (v := 61) (by decide) ?_
    refine s_icmp_ge hC dX10_enough_36 (tgt := 59) (by decide) ?_ ?_
    · refine s_lv (lv' := [(0, vR v9), (3, vI v12)]) [0, 3] rfl ?_
      exact hk59 _ _ _
    refine s_aload_n hC 0 dX10_enough_39 rfl ?_
    refine s_getR hC xc10 (by decide) rfl qf_X10_32 dX10_enough_40 ?_
    refine s_ltR (fun v14 => ?_)
    refine s_iload_n hC 1 dX10_enough_43 rfl ?_
    refine s_iald hC dX10_enough_44 ?_
    refine s_iload_n hC 2 dX10_enough_45 rfl ?_
    refine s_icmp_ge hC dX10_enough_46 (tgt := 59) (by decide) ?_ ?_
    · refine s_lv (lv' := [(0, vR v9), (3, vI v12)]) [0, 3] rfl ?_
      exact hk59 _ _ _
    refine s_aload_n hC 0 dX10_enough_49 rfl ?_
    refine s_callV hC (x := v9) (avs := []) (st := []) (nest := false) xc10 (m_X10_goDay hI v9 μ13) dX10_enough_50 qm_X10_360 qi_X10_goDay qs_X10_goDay qc_X10 qd_X10_goDay qh_X10_goDay (by decide) (fun _ => Nat.le_of_ble_eq_true rfl) (Nat.le_of_ble_eq_true rfl) (fun _ μ15 => ?_)
    refine s_iinc hC 3 dX10_enough_53 rfl (w := 1) (by decide) (by decide) (lv' := [(3, vI (v12 + (1 : Int32))), (0, vR v9), (1, vI v10), (2, vI v11)]) rfl ?_
    refine s_goto hC dX10_enough_56 (tgt := 33) (by decide) ?_
    refine s_lv (lv' := [(0, vR v9), (1, vI v10), (2, vI v11), (3, vI (v12 + (1 : Int32)))]) [1, 2, 3, 0] rfl ?_
    exact ih _ _ _ _ _
def f_X10_enough (X : x_X) (v0 : Nat) (v1 : Int32) (v2 : Int32) (μ : x_M) : Option (Int32 × x_M) :=
  (ck (x_kd X v0 = 10 + 1) (bd (f_X10_isAccount X v0 v1 μ) (fun (v4 : Int32) (μ5 : x_M) => (if v4 = 0 then (some ((-1 : Int32), μ5)) else (ck (x_kd X v0 = 10 + 1) (bd (f_X10_in X v0 v2 (-999 : Int32) (999 : Int32) μ5) (fun (v6 : Int32) (μ7 : x_M) => (if v6 = 0 then (some ((-2 : Int32), μ7)) else (ck (x_kd X v0 = 10 + 1) (bd (f_X10_save X v0 μ7) (fun (_ : Unit) (μ8 : x_M) => (f_X10_enough_L33 X (fun (v16 : Nat) (v17 : Int32) (μ18 : x_M) => (ck (x_kd X v16 = 10 + 1) (bd (f_X10_putBack X v16 μ18) (fun (_ : Unit) (μ19 : x_M) => (if (61 : Int32) ≤ v17 then (some ((-5 : Int32), μ19)) else (some (v17, μ19))))))) 4096 v0 v1 v2 (0 : Int32) μ8))))))))))))
set_option maxRecDepth 100000 in
theorem m_X10_enough (hI : x_I X) (v0 : Nat) (v1 : Int32) (v2 : Int32) (μ : x_M) : x_Met X x_Z0 l yX10_enough cX10_enough 4 (some .int) 6 [vR v0, vI v1, vI v2] μ rkI (f_X10_enough X v0 v1 v2 μ) := by
  refine x_enter hI (by decide +kernel) (Nat.le_of_ble_eq_true rfl) (fun p e s m args below meth c hC hr hlk => ?_)
  unfold f_X10_enough
  refine s_lv (lv' := [(0, vR v0), (1, vI v1), (2, vI v2)]) [0, 1, 2] rfl ?_
  refine s_aload_n hC 0 dX10_enough_0 rfl ?_
  refine s_iload_n hC 1 dX10_enough_1 rfl ?_
  refine s_callV hC (x := v0) (avs := [vI v1]) (st := []) (nest := false) xc10 (m_X10_isAccount hI v0 v1 μ) dX10_enough_2 qm_X10_257 qi_X10_isAccount qs_X10_isAccount qc_X10 qd_X10_isAccount qh_X10_isAccount (by decide) (fun _ => Nat.le_of_ble_eq_true rfl) (Nat.le_of_ble_eq_true rfl) (fun v4 μ5 => ?_)
  refine s_if_ne hC dX10_enough_5 (tgt := 10) (by decide) ?_ ?_
  · refine s_aload_n hC 0 dX10_enough_10 rfl ?_
    refine s_iload_n hC 2 dX10_enough_11 rfl ?_
    refine s_sipush hC dX10_enough_12 (v := -999) (by decide) ?_
    refine s_sipush hC dX10_enough_15 (v := 999) (by decide) ?_
    refine s_callV hC (x := v0) (avs := [vI v2, vI (-999 : Int32), vI (999 : Int32)]) (st := []) (nest := false) xc10 (m_X10_in hI v0 v2 (-999 : Int32) (999 : Int32) μ5) dX10_enough_18 qm_X10_245 qi_X10_in qs_X10_in qc_X10 qd_X10_in qh_X10_in (by decide) (fun _ => Nat.le_of_ble_eq_true rfl) (Nat.le_of_ble_eq_true rfl) (fun v6 μ7 => ?_)
    refine s_if_ne hC dX10_enough_21 (tgt := 27) (by decide) ?_ ?_
    · refine s_aload_n hC 0 dX10_enough_27 rfl ?_
      refine s_callV hC (x := v0) (avs := []) (st := []) (nest := false) xc10 (m_X10_save hI v0 μ7) dX10_enough_28 qm_X10_366 qi_X10_save qs_X10_save qc_X10 qd_X10_save qh_X10_save (by decide) (fun _ => Nat.le_of_ble_eq_true rfl) (Nat.le_of_ble_eq_true rfl) (fun _ μ8 => ?_)
      refine s_iconst hC dX10_enough_31 (v := 0) (by decide) ?_
      refine s_istore_n hC dX10_enough_32 (by decide) (lv' := [(3, vI (0 : Int32)), (0, vR v0), (1, vI v1), (2, vI v2)]) rfl ?_
      refine s_lv (lv' := [(0, vR v0), (1, vI v1), (2, vI v2), (3, vI (0 : Int32))]) [1, 2, 3, 0] rfl ?_
      refine j_X10_enough_L33 hI hC hr hlk (fun v16 v17 μ18 => ?_) 4096 _ _ _ _ _
      refine s_aload_n hC 0 dX10_enough_59 rfl ?_
      refine s_callV hC (x := v16) (avs := []) (st := []) (nest := false) xc10 (m_X10_putBack hI v16 μ18) dX10_enough_60 qm_X10_372 qi_X10_putBack qs_X10_putBack qc_X10 qd_X10_putBack qh_X10_putBack (by decide) (fun _ => Nat.le_of_ble_eq_true rfl) (Nat.le_of_ble_eq_true rfl) (fun _ μ19 => ?_)
      refine s_iload_n hC 1 dX10_enough_63 rfl ?_
      refine s_bipush hC dX10_enough_64 (v := 61) (by decide) ?_
      refine s_icmp_ge hC dX10_enough_66 (tgt := 73) (by decide) ?_ ?_
      · refine s_bipush hC dX10_enough_73 (v := -5) (by decide) ?_
        exact s_iret hC hr hlk dX10_enough_75
      refine s_iload_n hC 1 dX10_enough_69 rfl ?_
      refine s_goto hC dX10_enough_70 (tgt := 75) (by decide) ?_
      exact s_iret hC hr hlk dX10_enough_75
    refine s_bipush hC dX10_enough_24 (v := -2) (by decide) ?_
    exact s_iret hC hr hlk dX10_enough_26
  refine s_iconst hC dX10_enough_8 (v := -1) (by decide) ?_
  exact s_iret hC hr hlk dX10_enough_9
theorem dX10_share_0 : decode cX10_share 0 = .ok (.aload_n 0, 1) := by decide +kernel
theorem dX10_share_1 : decode cX10_share 1 = .ok (.iload_n 1, 1) := by decide +kernel
theorem dX10_share_2 : decode cX10_share 2 = .ok (.invokevirtual 257, 3) := by decide +kernel
theorem dX10_share_5 : decode cX10_share 5 = .ok (.ifCond .eq 24, 3) := by decide +kernel
theorem dX10_share_8 : decode cX10_share 8 = .ok (.aload_n 0, 1) := by decide +kernel
theorem dX10_share_9 : decode cX10_share 9 = .ok (.iload_n 2, 1) := by decide +kernel
theorem dX10_share_10 : decode cX10_share 10 = .ok (.iconst 1, 1) := by decide +kernel
theorem dX10_share_11 : decode cX10_share 11 = .ok (.bipush 40, 2) := by decide +kernel
theorem dX10_share_13 : decode cX10_share 13 = .ok (.invokevirtual 245, 3) := by decide +kernel
theorem dX10_share_16 : decode cX10_share 16 = .ok (.ifCond .eq 13, 3) := by decide +kernel
theorem dX10_share_19 : decode cX10_share 19 = .ok (.aload_n 0, 1) := by decide +kernel
theorem dX10_share_20 : decode cX10_share 20 = .ok (.iload_n 3, 1) := by decide +kernel
theorem dX10_share_21 : decode cX10_share 21 = .ok (.iconst 0, 1) := by decide +kernel
theorem dX10_share_22 : decode cX10_share 22 = .ok (.iconst 1, 1) := by decide +kernel
theorem dX10_share_23 : decode cX10_share 23 = .ok (.invokevirtual 245, 3) := by decide +kernel
theorem dX10_share_26 : decode cX10_share 26 = .ok (.ifCond .ne 7, 3) := by decide +kernel
theorem dX10_share_29 : decode cX10_share 29 = .ok (.ldc2_w 389, 3) := by decide +kernel
theorem dX10_share_32 : decode cX10_share 32 = .ok (.lreturn, 1) := by decide +kernel
theorem dX10_share_33 : decode cX10_share 33 = .ok (.aload_n 0, 1) := by decide +kernel
theorem dX10_share_34 : decode cX10_share 34 = .ok (.invokevirtual 366, 3) := by decide +kernel
theorem dX10_share_37 : decode cX10_share 37 = .ok (.iconst 0, 1) := by decide +kernel
theorem dX10_share_38 : decode cX10_share 38 = .ok (.istore 4, 2) := by decide +kernel
theorem dX10_share_40 : decode cX10_share 40 = .ok (.iconst 0, 1) := by decide +kernel
theorem dX10_share_41 : decode cX10_share 41 = .ok (.istore 5, 2) := by decide +kernel
theorem dX10_share_43 : decode cX10_share 43 = .ok (.iconst 0, 1) := by decide +kernel
theorem dX10_share_44 : decode cX10_share 44 = .ok (.istore 6, 2) := by decide +kernel
theorem dX10_share_46 : decode cX10_share 46 = .ok (.iload 6, 2) := by decide +kernel
theorem dX10_share_48 : decode cX10_share 48 = .ok (.iload_n 2, 1) := by decide +kernel
theorem dX10_share_49 : decode cX10_share 49 = .ok (.if_icmp .ge 52, 3) := by decide +kernel
theorem dX10_share_52 : decode cX10_share 52 = .ok (.iload 4, 2) := by decide +kernel
theorem dX10_share_54 : decode cX10_share 54 = .ok (.aload_n 0, 1) := by decide +kernel
theorem dX10_share_55 : decode cX10_share 55 = .ok (.iload_n 1, 1) := by decide +kernel
theorem dX10_share_56 : decode cX10_share 56 = .ok (.invokevirtual 340, 3) := by decide +kernel
theorem dX10_share_59 : decode cX10_share 59 = .ok (.iadd, 1) := by decide +kernel
theorem dX10_share_60 : decode cX10_share 60 = .ok (.istore 4, 2) := by decide +kernel
theorem dX10_share_62 : decode cX10_share 62 = .ok (.iconst 0, 1) := by decide +kernel
theorem dX10_share_63 : decode cX10_share 63 = .ok (.istore 7, 2) := by decide +kernel
theorem dX10_share_65 : decode cX10_share 65 = .ok (.iload 7, 2) := by decide +kernel
theorem dX10_share_67 : decode cX10_share 67 = .ok (.aload_n 0, 1) := by decide +kernel
theorem dX10_share_68 : decode cX10_share 68 = .ok (.getfield 7, 3) := by decide +kernel
theorem dX10_share_71 : decode cX10_share 71 = .ok (.if_icmp .ge 20, 3) := by decide +kernel
theorem dX10_share_74 : decode cX10_share 74 = .ok (.iload 5, 2) := by decide +kernel
theorem dX10_share_76 : decode cX10_share 76 = .ok (.aload_n 0, 1) := by decide +kernel
theorem dX10_share_77 : decode cX10_share 77 = .ok (.iload 7, 2) := by decide +kernel
theorem dX10_share_79 : decode cX10_share 79 = .ok (.invokevirtual 340, 3) := by decide +kernel
theorem dX10_share_82 : decode cX10_share 82 = .ok (.iadd, 1) := by decide +kernel
theorem dX10_share_83 : decode cX10_share 83 = .ok (.istore 5, 2) := by decide +kernel
theorem dX10_share_85 : decode cX10_share 85 = .ok (.iinc 7 1, 3) := by decide +kernel
theorem dX10_share_88 : decode cX10_share 88 = .ok (.goto (-23), 3) := by decide +kernel
theorem dX10_share_91 : decode cX10_share 91 = .ok (.aload_n 0, 1) := by decide +kernel
theorem dX10_share_92 : decode cX10_share 92 = .ok (.invokevirtual 360, 3) := by decide +kernel
theorem dX10_share_95 : decode cX10_share 95 = .ok (.iinc 6 1, 3) := by decide +kernel
theorem dX10_share_98 : decode cX10_share 98 = .ok (.goto (-52), 3) := by decide +kernel
theorem dX10_share_101 : decode cX10_share 101 = .ok (.aload_n 0, 1) := by decide +kernel
theorem dX10_share_102 : decode cX10_share 102 = .ok (.invokevirtual 372, 3) := by decide +kernel
theorem dX10_share_105 : decode cX10_share 105 = .ok (.iload 5, 2) := by decide +kernel
theorem dX10_share_107 : decode cX10_share 107 = .ok (.ifCond .ne 9, 3) := by decide +kernel
theorem dX10_share_110 : decode cX10_share 110 = .ok (.ldc2_w 389, 3) := by decide +kernel
theorem dX10_share_113 : decode cX10_share 113 = .ok (.goto 12, 3) := by decide +kernel
theorem dX10_share_116 : decode cX10_share 116 = .ok (.aload_n 0, 1) := by decide +kernel
theorem dX10_share_117 : decode cX10_share 117 = .ok (.iload 4, 2) := by decide +kernel
theorem dX10_share_119 : decode cX10_share 119 = .ok (.iload 5, 2) := by decide +kernel
theorem dX10_share_121 : decode cX10_share 121 = .ok (.iload_n 3, 1) := by decide +kernel
theorem dX10_share_122 : decode cX10_share 122 = .ok (.invokevirtual 391, 3) := by decide +kernel
theorem dX10_share_125 : decode cX10_share 125 = .ok (.lreturn, 1) := by decide +kernel
def f_X10_share_L65 (X : x_X) (k91 : Nat → Int32 → Int32 → Int32 → Int32 → Int32 → Int32 → x_M → Option (Int64 × x_M)) : Nat → Nat → Int32 → Int32 → Int32 → Int32 → Int32 → Int32 → Int32 → x_M → Option (Int64 × x_M)
  | 0, _, _, _, _, _, _, _, _, _ => none
  | n + 1, v23, v24, v25, v26, v27, v28, v29, v30, μ31 =>
    (ck (x_kd X v23 = 10 + 1) (if (μ31.1 v23 0) ≤ v30 then (k91 v23 v24 v25 v26 v27 v28 v29 μ31) else (ck (x_kd X v23 = 10 + 1) (bd (f_X10_sunOf X v23 v30 μ31) (fun (v32 : Int32) (μ33 : x_M) => (lt (v28 + v32) (fun (v34 : Int32) => (f_X10_share_L65 X k91 n v23 v24 v25 v26 v27 v34 v29 (v30 + (1 : Int32)) μ33))))))))
set_option maxRecDepth 100000 in
theorem j_X10_share_L65 (hI : x_I X) (hC : x_C X x_Z0 p (x_rm 6) s m c cX10_share RX10 8 0 0 6) (hr : meth.sig.returnType = (some .long)) (hlk : meth.locks = false) {k91 : Nat → Int32 → Int32 → Int32 → Int32 → Int32 → Int32 → x_M → Option (Int64 × x_M)} (hk91 : ∀ (b0 : Nat) (b1 : Int32) (b2 : Int32) (b3 : Int32) (b4 : Int32) (b5 : Int32) (b6 : Int32) (μ : x_M), SM X 8 6 rkJ p l e s m args below meth c 91 [(0, vR b0), (1, vI b1), (2, vI b2), (3, vI b3), (4, vI b4), (5, vI b5), (6, vI b6)] [] μ (k91 b0 b1 b2 b3 b4 b5 b6 μ)) : ∀ (n : Nat) (v23 : Nat) (v24 : Int32) (v25 : Int32) (v26 : Int32) (v27 : Int32) (v28 : Int32) (v29 : Int32) (v30 : Int32) (μ31 : x_M), SM X 8 6 rkJ p l e s m args below meth c 65 [(0, vR v23), (1, vI v24), (2, vI v25), (3, vI v26), (4, vI v27), (5, vI v28), (6, vI v29), (7, vI v30)] [] μ31 (f_X10_share_L65 X k91 n v23 v24 v25 v26 v27 v28 v29 v30 μ31) := by
  intro n
  induction n with
  | zero => intro v23 v24 v25 v26 v27 v28 v29 v30 μ31; exact s_none
  | succ n ih =>
    intro v23 v24 v25 v26 v27 v28 v29 v30 μ31
    unfold f_X10_share_L65
    refine s_iload hC 7 dX10_share_65 rfl ?_
    refine s_aload_n hC 0 dX10_share_67 rfl ?_
    refine s_getI hC xc10 (by decide) rfl qf_X10_7 dX10_share_68 ?_
    refine s_icmp_ge hC dX10_share_71 (tgt := 91) (by decide) ?_ ?_
    · refine s_lv (lv' := [(0, vR v23), (1, vI v24), (2, vI v25), (3, vI v26), (4, vI v27), (5, vI v28), (6, vI v29)]) [0, 1, 2, 3, 4, 5, 6] rfl ?_
      exact hk91 _ _ _ _ _ _ _ _
    refine s_iload hC 5 dX10_share_74 rfl ?_
    refine s_aload_n hC 0 dX10_share_76 rfl ?_
    refine s_iload hC 7 dX10_share_77 rfl ?_
    refine s_callV hC (x := v23) (avs := [vI v30]) (st := [vI v28]) (nest := false) xc10 (m_X10_sunOf hI v23 v30 μ31) dX10_share_79 qm_X10_340 qi_X10_sunOf qs_X10_sunOf qc_X10 qd_X10_sunOf qh_X10_sunOf (by decide) (fun _ => Nat.le_of_ble_eq_true rfl) (Nat.le_of_ble_eq_true rfl) (fun v32 μ33 => ?_)
    refine s_iadd hC dX10_share_82 ?_
    refine s_ltI (fun v34 => ?_)
    refine s_istore hC dX10_share_83 (by decide) (lv' := [(5, vI v34), (0, vR v23), (1, vI v24), (2, vI v25), (3, vI v26), (4, vI v27), (6, vI v29), (7, vI v30)]) rfl ?_
    refine s_iinc hC 7 dX10_share_85 rfl (w := 1) (by decide) (by decide) (lv' := [(7, vI (v30 + (1 : Int32))), (5, vI v34), (0, vR v23), (1, vI v24), (2, vI v25), (3, vI v26), (4, vI v27), (6, vI v29)]) rfl ?_
    refine s_goto hC dX10_share_88 (tgt := 65) (by decide) ?_
    refine s_lv (lv' := [(0, vR v23), (1, vI v24), (2, vI v25), (3, vI v26), (4, vI v27), (5, vI v34), (6, vI v29), (7, vI (v30 + (1 : Int32)))]) [2, 3, 4, 5, 6, 1, 7, 0] rfl ?_
    exact ih _ _ _ _ _ _ _ _ _
def f_X10_share_L46 (X : x_X) (k101 : Nat → Int32 → Int32 → Int32 → x_M → Option (Int64 × x_M)) : Nat → Nat → Int32 → Int32 → Int32 → Int32 → Int32 → Int32 → x_M → Option (Int64 × x_M)
  | 0, _, _, _, _, _, _, _, _ => none
  | n + 1, v12, v13, v14, v15, v16, v17, v18, μ19 =>
    (if v14 ≤ v18 then (k101 v12 v15 v16 v17 μ19) else (ck (x_kd X v12 = 10 + 1) (bd (f_X10_sunOf X v12 v13 μ19) (fun (v20 : Int32) (μ21 : x_M) => (lt (v16 + v20) (fun (v22 : Int32) => (f_X10_share_L65 X (fun (v35 : Nat) (v36 : Int32) (v37 : Int32) (v38 : Int32) (v39 : Int32) (v40 : Int32) (v41 : Int32) (μ42 : x_M) => (ck (x_kd X v35 = 10 + 1) (bd (f_X10_goDay X v35 μ42) (fun (_ : Unit) (μ43 : x_M) => (f_X10_share_L46 X k101 n v35 v36 v37 v38 v39 v40 (v41 + (1 : Int32)) μ43))))) 4096 v12 v13 v14 v15 v22 v17 v18 (0 : Int32) μ21)))))))
set_option maxRecDepth 100000 in
theorem j_X10_share_L46 (hI : x_I X) (hC : x_C X x_Z0 p (x_rm 6) s m c cX10_share RX10 8 0 0 6) (hr : meth.sig.returnType = (some .long)) (hlk : meth.locks = false) {k101 : Nat → Int32 → Int32 → Int32 → x_M → Option (Int64 × x_M)} (hk101 : ∀ (b0 : Nat) (b3 : Int32) (b4 : Int32) (b5 : Int32) (μ : x_M), SM X 8 6 rkJ p l e s m args below meth c 101 [(0, vR b0), (3, vI b3), (4, vI b4), (5, vI b5)] [] μ (k101 b0 b3 b4 b5 μ)) : ∀ (n : Nat) (v12 : Nat) (v13 : Int32) (v14 : Int32) (v15 : Int32) (v16 : Int32) (v17 : Int32) (v18 : Int32) (μ19 : x_M), SM X 8 6 rkJ p l e s m args below meth c 46 [(0, vR v12), (1, vI v13), (2, vI v14), (3, vI v15), (4, vI v16), (5, vI v17), (6, vI v18)] [] μ19 (f_X10_share_L46 X k101 n v12 v13 v14 v15 v16 v17 v18 μ19) := by
  intro n
  induction n with
  | zero => intro v12 v13 v14 v15 v16 v17 v18 μ19; exact s_none
  | succ n ih =>
    intro v12 v13 v14 v15 v16 v17 v18 μ19
    unfold f_X10_share_L46
    refine s_iload hC 6 dX10_share_46 rfl ?_
    refine s_iload_n hC 2 dX10_share_48 rfl ?_
    refine s_icmp_ge hC dX10_share_49 (tgt := 101) (by decide) ?_ ?_
    · refine s_lv (lv' := [(0, vR v12), (3, vI v15), (4, vI v16), (5, vI v17)]) [0, 3, 4, 5] rfl ?_
      exact hk101 _ _ _ _ _
    refine s_iload hC 4 dX10_share_52 rfl ?_
    refine s_aload_n hC 0 dX10_share_54 rfl ?_
    refine s_iload_n hC 1 dX10_share_55 rfl ?_
    refine s_callV hC (x := v12) (avs := [vI v13]) (st := [vI v16]) (nest := false) xc10 (m_X10_sunOf hI v12 v13 μ19) dX10_share_56 qm_X10_340 qi_X10_sunOf qs_X10_sunOf qc_X10 qd_X10_sunOf qh_X10_sunOf (by decide) (fun _ => Nat.le_of_ble_eq_true rfl) (Nat.le_of_ble_eq_true rfl) (fun v20 μ21 => ?_)
    refine s_iadd hC dX10_share_59 ?_
    refine s_ltI (fun v22 => ?_)
    refine s_istore hC dX10_share_60 (by decide) (lv' := [(4, vI v22), (0, vR v12), (1, vI v13), (2, vI v14), (3, vI v15), (5, vI v17), (6, vI v18)]) rfl ?_
    refine s_iconst hC dX10_share_62 (v := 0) (by decide) ?_
    refine s_istore hC dX10_share_63 (by decide) (lv' := [(7, vI (0 : Int32)), (4, vI v22), (0, vR v12), (1, vI v13), (2, vI v14), (3, vI v15), (5, vI v17), (6, vI v18)]) rfl ?_
    refine s_lv (lv' := [(0, vR v12), (1, vI v13), (2, vI v14), (3, vI v15), (4, vI v22), (5, vI v17), (6, vI v18), (7, vI (0 : Int32))]) [2, 3, 4, 5, 1, 6, 7, 0] rfl ?_
    refine j_X10_share_L65 hI hC hr hlk (fun v35 v36 v37 v38 v39 v40 v41 μ42 => ?_) 4096 _ _ _ _ _ _ _ _ _
    refine s_aload_n hC 0 dX10_share_91 rfl ?_
    refine s_callV hC (x := v35) (avs := []) (st := []) (nest := false) xc10 (m_X10_goDay hI v35 μ42) dX10_share_92 qm_X10_360 qi_X10_goDay qs_X10_goDay qc_X10 qd_X10_goDay qh_X10_goDay (by decide) (fun _ => Nat.le_of_ble_eq_true rfl) (Nat.le_of_ble_eq_true rfl) (fun _ μ43 => ?_)
    refine s_iinc hC 6 dX10_share_95 rfl (w := 1) (by decide) (by decide) (lv' := [(6, vI (v41 + (1 : Int32))), (0, vR v35), (1, vI v36), (2, vI v37), (3, vI v38), (4, vI v39), (5, vI v40)]) rfl ?_
    refine s_goto hC dX10_share_98 (tgt := 46) (by decide) ?_
    refine s_lv (lv' := [(0, vR v35), (1, vI v36), (2, vI v37), (3, vI v38), (4, vI v39), (5, vI v40), (6, vI (v41 + (1 : Int32)))]) [1, 2, 3, 4, 5, 6, 0] rfl ?_
    exact ih _ _ _ _ _ _ _ _
def f_X10_share (X : x_X) (v0 : Nat) (v1 : Int32) (v2 : Int32) (v3 : Int32) (μ : x_M) : Option (Int64 × x_M) :=
  (ck (x_kd X v0 = 10 + 1) (bd (f_X10_isAccount X v0 v1 μ) (fun (v5 : Int32) (μ6 : x_M) => (if v5 = 0 then (some ((-9223372036854775808 : Int64), μ6)) else (ck (x_kd X v0 = 10 + 1) (bd (f_X10_in X v0 v2 (1 : Int32) (40 : Int32) μ6) (fun (v7 : Int32) (μ8 : x_M) => (if v7 = 0 then (some ((-9223372036854775808 : Int64), μ8)) else (ck (x_kd X v0 = 10 + 1) (bd (f_X10_in X v0 v3 (0 : Int32) (1 : Int32) μ8) (fun (v9 : Int32) (μ10 : x_M) => (if v9 = 0 then (some ((-9223372036854775808 : Int64), μ10)) else (ck (x_kd X v0 = 10 + 1) (bd (f_X10_save X v0 μ10) (fun (_ : Unit) (μ11 : x_M) => (f_X10_share_L46 X (fun (v44 : Nat) (v45 : Int32) (v46 : Int32) (v47 : Int32) (μ48 : x_M) => (ck (x_kd X v44 = 10 + 1) (bd (f_X10_putBack X v44 μ48) (fun (_ : Unit) (μ49 : x_M) => (if v47 = 0 then (some ((-9223372036854775808 : Int64), μ49)) else (ck (x_kd X v44 = 10 + 1) (bd (f_X10_lowestTerms X v44 v46 v47 v45 μ49) (fun (v50 : Int64) (μ51 : x_M) => (some (v50, μ51)))))))))) 4096 v0 v1 v2 v3 (0 : Int32) (0 : Int32) (0 : Int32) μ11))))))))))))))))
set_option maxRecDepth 100000 in
theorem m_X10_share (hI : x_I X) (v0 : Nat) (v1 : Int32) (v2 : Int32) (v3 : Int32) (μ : x_M) : x_Met X x_Z0 l yX10_share cX10_share 8 (some .long) 6 [vR v0, vI v1, vI v2, vI v3] μ rkJ (f_X10_share X v0 v1 v2 v3 μ) := by
  refine x_enter hI (by decide +kernel) (Nat.le_of_ble_eq_true rfl) (fun p e s m args below meth c hC hr hlk => ?_)
  unfold f_X10_share
  refine s_lv (lv' := [(0, vR v0), (1, vI v1), (2, vI v2), (3, vI v3)]) [0, 1, 2, 3] rfl ?_
  refine s_aload_n hC 0 dX10_share_0 rfl ?_
  refine s_iload_n hC 1 dX10_share_1 rfl ?_
  refine s_callV hC (x := v0) (avs := [vI v1]) (st := []) (nest := false) xc10 (m_X10_isAccount hI v0 v1 μ) dX10_share_2 qm_X10_257 qi_X10_isAccount qs_X10_isAccount qc_X10 qd_X10_isAccount qh_X10_isAccount (by decide) (fun _ => Nat.le_of_ble_eq_true rfl) (Nat.le_of_ble_eq_true rfl) (fun v5 μ6 => ?_)
  refine s_if_eq hC dX10_share_5 (tgt := 29) (by decide) ?_ ?_
  · refine s_ldc2 hC dX10_share_29 qk_X10_389 ?_
    exact s_lret hC hr hlk dX10_share_32
  refine s_aload_n hC 0 dX10_share_8 rfl ?_
  refine s_iload_n hC 2 dX10_share_9 rfl ?_
  refine s_iconst hC dX10_share_10 (v := 1) (by decide) ?_
  refine s_bipush hC dX10_share_11 (v := 40) (by decide) ?_
  refine s_callV hC (x := v0) (avs := [vI v2, vI (1 : Int32), vI (40 : Int32)]) (st := []) (nest := false) xc10 (m_X10_in hI v0 v2 (1 : Int32) (40 : Int32) μ6) dX10_share_13 qm_X10_245 qi_X10_in qs_X10_in qc_X10 qd_X10_in qh_X10_in (by decide) (fun _ => Nat.le_of_ble_eq_true rfl) (Nat.le_of_ble_eq_true rfl) (fun v7 μ8 => ?_)
  refine s_if_eq hC dX10_share_16 (tgt := 29) (by decide) ?_ ?_
  · refine s_ldc2 hC dX10_share_29 qk_X10_389 ?_
    exact s_lret hC hr hlk dX10_share_32
  refine s_aload_n hC 0 dX10_share_19 rfl ?_
  refine s_iload_n hC 3 dX10_share_20 rfl ?_
  refine s_iconst hC dX10_share_21 (v := 0) (by decide) ?_
  refine s_iconst hC dX10_share_22 (v := 1) (by decide) ?_
  refine s_callV hC (x := v0) (avs := [vI v3, vI (0 : Int32), vI (1 : Int32)]) (st := []) (nest := false) xc10 (m_X10_in hI v0 v3 (0 : Int32) (1 : Int32) μ8) dX10_share_23 qm_X10_245 qi_X10_in qs_X10_in qc_X10 qd_X10_in qh_X10_in (by decide) (fun _ => Nat.le_of_ble_eq_true rfl) (Nat.le_of_ble_eq_true rfl) (fun v9 μ10 => ?_)
  refine s_if_ne hC dX10_share_26 (tgt := 33) (by decide) ?_ ?_
  · refine s_aload_n hC 0 dX10_share_33 rfl ?_
    refine s_callV hC (x := v0) (avs := []) (st := []) (nest := false) xc10 (m_X10_save hI v0 μ10) dX10_share_34 qm_X10_366 qi_X10_save qs_X10_save qc_X10 qd_X10_save qh_X10_save (by decide) (fun _ => Nat.le_of_ble_eq_true rfl) (Nat.le_of_ble_eq_true rfl) (fun _ μ11 => ?_)
    refine s_iconst hC dX10_share_37 (v := 0) (by decide) ?_
    refine s_istore hC dX10_share_38 (by decide) (lv' := [(4, vI (0 : Int32)), (0, vR v0), (1, vI v1), (2, vI v2), (3, vI v3)]) rfl ?_
    refine s_iconst hC dX10_share_40 (v := 0) (by decide) ?_
    refine s_istore hC dX10_share_41 (by decide) (lv' := [(5, vI (0 : Int32)), (4, vI (0 : Int32)), (0, vR v0), (1, vI v1), (2, vI v2), (3, vI v3)]) rfl ?_
    refine s_iconst hC dX10_share_43 (v := 0) (by decide) ?_
    refine s_istore hC dX10_share_44 (by decide) (lv' := [(6, vI (0 : Int32)), (5, vI (0 : Int32)), (4, vI (0 : Int32)), (0, vR v0), (1, vI v1), (2, vI v2), (3, vI v3)]) rfl ?_
    refine s_lv (lv' := [(0, vR v0), (1, vI v1), (2, vI v2), (3, vI v3), (4, vI (0 : Int32)), (5, vI (0 : Int32)), (6, vI (0 : Int32))]) [3, 4, 5, 6, 2, 1, 0] rfl ?_
    refine j_X10_share_L46 hI hC hr hlk (fun v44 v45 v46 v47 μ48 => ?_) 4096 _ _ _ _ _ _ _ _
    refine s_aload_n hC 0 dX10_share_101 rfl ?_
    refine s_callV hC (x := v44) (avs := []) (st := []) (nest := false) xc10 (m_X10_putBack hI v44 μ48) dX10_share_102 qm_X10_372 qi_X10_putBack qs_X10_putBack qc_X10 qd_X10_putBack qh_X10_putBack (by decide) (fun _ => Nat.le_of_ble_eq_true rfl) (Nat.le_of_ble_eq_true rfl) (fun _ μ49 => ?_)
    refine s_iload hC 3 dX10_share_105 rfl ?_
    refine s_if_ne hC dX10_share_107 (tgt := 116) (by decide) ?_ ?_
    · refine s_aload_n hC 0 dX10_share_116 rfl ?_
      refine s_iload hC 2 dX10_share_117 rfl ?_
      refine s_iload hC 3 dX10_share_119 rfl ?_
      refine s_iload_n hC 1 dX10_share_121 rfl ?_
      refine s_callV hC (x := v44) (avs := [vI v46, vI v47, vI v45]) (st := []) (nest := false) xc10 (m_X10_lowestTerms hI v44 v46 v47 v45 μ49) dX10_share_122 qm_X10_391 qi_X10_lowestTerms qs_X10_lowestTerms qc_X10 qd_X10_lowestTerms qh_X10_lowestTerms (by decide) (fun _ => Nat.le_of_ble_eq_true rfl) (Nat.le_of_ble_eq_true rfl) (fun v50 μ51 => ?_)
      exact s_lret hC hr hlk dX10_share_125
    refine s_ldc2 hC dX10_share_110 qk_X10_389 ?_
    refine s_goto hC dX10_share_113 (tgt := 125) (by decide) ?_
    exact s_lret hC hr hlk dX10_share_125
  refine s_ldc2 hC dX10_share_29 qk_X10_389 ?_
  exact s_lret hC hr hlk dX10_share_32
theorem dX10_mean_0 : decode cX10_mean 0 = .ok (.aload_n 0, 1) := by decide +kernel
theorem dX10_mean_1 : decode cX10_mean 1 = .ok (.iload_n 1, 1) := by decide +kernel
theorem dX10_mean_2 : decode cX10_mean 2 = .ok (.iconst 1, 1) := by decide +kernel
theorem dX10_mean_3 : decode cX10_mean 3 = .ok (.bipush 40, 2) := by decide +kernel
theorem dX10_mean_5 : decode cX10_mean 5 = .ok (.invokevirtual 245, 3) := by decide +kernel
theorem dX10_mean_8 : decode cX10_mean 8 = .ok (.ifCond .eq 13, 3) := by decide +kernel
theorem dX10_mean_11 : decode cX10_mean 11 = .ok (.aload_n 0, 1) := by decide +kernel
theorem dX10_mean_12 : decode cX10_mean 12 = .ok (.iload_n 2, 1) := by decide +kernel
theorem dX10_mean_13 : decode cX10_mean 13 = .ok (.iconst 0, 1) := by decide +kernel
theorem dX10_mean_14 : decode cX10_mean 14 = .ok (.iconst 1, 1) := by decide +kernel
theorem dX10_mean_15 : decode cX10_mean 15 = .ok (.invokevirtual 245, 3) := by decide +kernel
theorem dX10_mean_18 : decode cX10_mean 18 = .ok (.ifCond .ne 7, 3) := by decide +kernel
theorem dX10_mean_21 : decode cX10_mean 21 = .ok (.ldc2_w 389, 3) := by decide +kernel
theorem dX10_mean_24 : decode cX10_mean 24 = .ok (.lreturn, 1) := by decide +kernel
theorem dX10_mean_25 : decode cX10_mean 25 = .ok (.aload_n 0, 1) := by decide +kernel
theorem dX10_mean_26 : decode cX10_mean 26 = .ok (.invokevirtual 366, 3) := by decide +kernel
theorem dX10_mean_29 : decode cX10_mean 29 = .ok (.iconst 0, 1) := by decide +kernel
theorem dX10_mean_30 : decode cX10_mean 30 = .ok (.istore_n 3, 1) := by decide +kernel
theorem dX10_mean_31 : decode cX10_mean 31 = .ok (.iconst 0, 1) := by decide +kernel
theorem dX10_mean_32 : decode cX10_mean 32 = .ok (.istore 4, 2) := by decide +kernel
theorem dX10_mean_34 : decode cX10_mean 34 = .ok (.iload 4, 2) := by decide +kernel
theorem dX10_mean_36 : decode cX10_mean 36 = .ok (.iload_n 1, 1) := by decide +kernel
theorem dX10_mean_37 : decode cX10_mean 37 = .ok (.if_icmp .ge 20, 3) := by decide +kernel
theorem dX10_mean_40 : decode cX10_mean 40 = .ok (.aload_n 0, 1) := by decide +kernel
theorem dX10_mean_41 : decode cX10_mean 41 = .ok (.invokevirtual 360, 3) := by decide +kernel
theorem dX10_mean_44 : decode cX10_mean 44 = .ok (.iload_n 3, 1) := by decide +kernel
theorem dX10_mean_45 : decode cX10_mean 45 = .ok (.aload_n 0, 1) := by decide +kernel
theorem dX10_mean_46 : decode cX10_mean 46 = .ok (.invokevirtual 328, 3) := by decide +kernel
theorem dX10_mean_49 : decode cX10_mean 49 = .ok (.iadd, 1) := by decide +kernel
theorem dX10_mean_50 : decode cX10_mean 50 = .ok (.istore_n 3, 1) := by decide +kernel
theorem dX10_mean_51 : decode cX10_mean 51 = .ok (.iinc 4 1, 3) := by decide +kernel
theorem dX10_mean_54 : decode cX10_mean 54 = .ok (.goto (-20), 3) := by decide +kernel
theorem dX10_mean_57 : decode cX10_mean 57 = .ok (.aload_n 0, 1) := by decide +kernel
theorem dX10_mean_58 : decode cX10_mean 58 = .ok (.invokevirtual 372, 3) := by decide +kernel
theorem dX10_mean_61 : decode cX10_mean 61 = .ok (.aload_n 0, 1) := by decide +kernel
theorem dX10_mean_62 : decode cX10_mean 62 = .ok (.iload_n 3, 1) := by decide +kernel
theorem dX10_mean_63 : decode cX10_mean 63 = .ok (.iload_n 1, 1) := by decide +kernel
theorem dX10_mean_64 : decode cX10_mean 64 = .ok (.iload_n 2, 1) := by decide +kernel
theorem dX10_mean_65 : decode cX10_mean 65 = .ok (.invokevirtual 391, 3) := by decide +kernel
theorem dX10_mean_68 : decode cX10_mean 68 = .ok (.lreturn, 1) := by decide +kernel
def f_X10_mean_L34 (X : x_X) (k57 : Nat → Int32 → Int32 → Int32 → x_M → Option (Int64 × x_M)) : Nat → Nat → Int32 → Int32 → Int32 → Int32 → x_M → Option (Int64 × x_M)
  | 0, _, _, _, _, _, _ => none
  | n + 1, v9, v10, v11, v12, v13, μ14 =>
    (if v10 ≤ v13 then (k57 v9 v10 v11 v12 μ14) else (ck (x_kd X v9 = 10 + 1) (bd (f_X10_goDay X v9 μ14) (fun (_ : Unit) (μ15 : x_M) => (ck (x_kd X v9 = 10 + 1) (bd (f_X10_level X v9 μ15) (fun (v16 : Int32) (μ17 : x_M) => (lt (v12 + v16) (fun (v18 : Int32) => (f_X10_mean_L34 X k57 n v9 v10 v11 v18 (v13 + (1 : Int32)) μ17))))))))))
set_option maxRecDepth 100000 in
theorem j_X10_mean_L34 (hI : x_I X) (hC : x_C X x_Z0 p (x_rm 6) s m c cX10_mean RX10 5 0 0 6) (hr : meth.sig.returnType = (some .long)) (hlk : meth.locks = false) {k57 : Nat → Int32 → Int32 → Int32 → x_M → Option (Int64 × x_M)} (hk57 : ∀ (b0 : Nat) (b1 : Int32) (b2 : Int32) (b3 : Int32) (μ : x_M), SM X 5 6 rkJ p l e s m args below meth c 57 [(0, vR b0), (1, vI b1), (2, vI b2), (3, vI b3)] [] μ (k57 b0 b1 b2 b3 μ)) : ∀ (n : Nat) (v9 : Nat) (v10 : Int32) (v11 : Int32) (v12 : Int32) (v13 : Int32) (μ14 : x_M), SM X 5 6 rkJ p l e s m args below meth c 34 [(0, vR v9), (1, vI v10), (2, vI v11), (3, vI v12), (4, vI v13)] [] μ14 (f_X10_mean_L34 X k57 n v9 v10 v11 v12 v13 μ14) := by
  intro n
  induction n with
  | zero => intro v9 v10 v11 v12 v13 μ14; exact s_none
  | succ n ih =>
    intro v9 v10 v11 v12 v13 μ14
    unfold f_X10_mean_L34
    refine s_iload hC 4 dX10_mean_34 rfl ?_
    refine s_iload_n hC 1 dX10_mean_36 rfl ?_
    refine s_icmp_ge hC dX10_mean_37 (tgt := 57) (by decide) ?_ ?_
    · refine s_lv (lv' := [(0, vR v9), (1, vI v10), (2, vI v11), (3, vI v12)]) [0, 1, 2, 3] rfl ?_
      exact hk57 _ _ _ _ _
    refine s_aload_n hC 0 dX10_mean_40 rfl ?_
    refine s_callV hC (x := v9) (avs := []) (st := []) (nest := false) xc10 (m_X10_goDay hI v9 μ14) dX10_mean_41 qm_X10_360 qi_X10_goDay qs_X10_goDay qc_X10 qd_X10_goDay qh_X10_goDay (by decide) (fun _ => Nat.le_of_ble_eq_true rfl) (Nat.le_of_ble_eq_true rfl) (fun _ μ15 => ?_)
    refine s_iload_n hC 3 dX10_mean_44 rfl ?_
    refine s_aload_n hC 0 dX10_mean_45 rfl ?_
    refine s_callV hC (x := v9) (avs := []) (st := [vI v12]) (nest := false) xc10 (m_X10_level hI v9 μ15) dX10_mean_46 qm_X10_328 qi_X10_level qs_X10_level qc_X10 qd_X10_level qh_X10_level (by decide) (fun _ => Nat.le_of_ble_eq_true rfl) (Nat.le_of_ble_eq_true rfl) (fun v16 μ17 => ?_)
    refine s_iadd hC dX10_mean_49 ?_
    refine s_ltI (fun v18 => ?_)
    refine s_istore_n hC dX10_mean_50 (by decide) (lv' := [(3, vI v18), (0, vR v9), (1, vI v10), (2, vI v11), (4, vI v13)]) rfl ?_
    refine s_iinc hC 4 dX10_mean_51 rfl (w := 1) (by decide) (by decide) (lv' := [(4, vI (v13 + (1 : Int32))), (3, vI v18), (0, vR v9), (1, vI v10), (2, vI v11)]) rfl ?_
    refine s_goto hC dX10_mean_54 (tgt := 34) (by decide) ?_
    refine s_lv (lv' := [(0, vR v9), (1, vI v10), (2, vI v11), (3, vI v18), (4, vI (v13 + (1 : Int32)))]) [2, 3, 4, 1, 0] rfl ?_
    exact ih _ _ _ _ _ _
def f_X10_mean (X : x_X) (v0 : Nat) (v1 : Int32) (v2 : Int32) (μ : x_M) : Option (Int64 × x_M) :=
  (ck (x_kd X v0 = 10 + 1) (bd (f_X10_in X v0 v1 (1 : Int32) (40 : Int32) μ) (fun (v4 : Int32) (μ5 : x_M) => (if v4 = 0 then (some ((-9223372036854775808 : Int64), μ5)) else (ck (x_kd X v0 = 10 + 1) (bd (f_X10_in X v0 v2 (0 : Int32) (1 : Int32) μ5) (fun (v6 : Int32) (μ7 : x_M) => (if v6 = 0 then (some ((-9223372036854775808 : Int64), μ7)) else (ck (x_kd X v0 = 10 + 1) (bd (f_X10_save X v0 μ7) (fun (_ : Unit) (μ8 : x_M) => (f_X10_mean_L34 X (fun (v19 : Nat) (v20 : Int32) (v21 : Int32) (v22 : Int32) (μ23 : x_M) => (ck (x_kd X v19 = 10 + 1) (bd (f_X10_putBack X v19 μ23) (fun (_ : Unit) (μ24 : x_M) => (ck (x_kd X v19 = 10 + 1) (bd (f_X10_lowestTerms X v19 v22 v20 v21 μ24) (fun (v25 : Int64) (μ26 : x_M) => (some (v25, μ26))))))))) 4096 v0 v1 v2 (0 : Int32) (0 : Int32) μ8))))))))))))
set_option maxRecDepth 100000 in
theorem m_X10_mean (hI : x_I X) (v0 : Nat) (v1 : Int32) (v2 : Int32) (μ : x_M) : x_Met X x_Z0 l yX10_mean cX10_mean 5 (some .long) 6 [vR v0, vI v1, vI v2] μ rkJ (f_X10_mean X v0 v1 v2 μ) := by
  refine x_enter hI (by decide +kernel) (Nat.le_of_ble_eq_true rfl) (fun p e s m args below meth c hC hr hlk => ?_)
  unfold f_X10_mean
  refine s_lv (lv' := [(0, vR v0), (1, vI v1), (2, vI v2)]) [0, 1, 2] rfl ?_
  refine s_aload_n hC 0 dX10_mean_0 rfl ?_
  refine s_iload_n hC 1 dX10_mean_1 rfl ?_
  refine s_iconst hC dX10_mean_2 (v := 1) (by decide) ?_
  refine s_bipush hC dX10_mean_3 (v := 40) (by decide) ?_
  refine s_callV hC (x := v0) (avs := [vI v1, vI (1 : Int32), vI (40 : Int32)]) (st := []) (nest := false) xc10 (m_X10_in hI v0 v1 (1 : Int32) (40 : Int32) μ) dX10_mean_5 qm_X10_245 qi_X10_in qs_X10_in qc_X10 qd_X10_in qh_X10_in (by decide) (fun _ => Nat.le_of_ble_eq_true rfl) (Nat.le_of_ble_eq_true rfl) (fun v4 μ5 => ?_)
  refine s_if_eq hC dX10_mean_8 (tgt := 21) (by decide) ?_ ?_
  · refine s_ldc2 hC dX10_mean_21 qk_X10_389 ?_
    exact s_lret hC hr hlk dX10_mean_24
  refine s_aload_n hC 0 dX10_mean_11 rfl ?_
  refine s_iload_n hC 2 dX10_mean_12 rfl ?_
  refine s_iconst hC dX10_mean_13 (v := 0) (by decide) ?_
  refine s_iconst hC dX10_mean_14 (v := 1) (by decide) ?_
  refine s_callV hC (x := v0) (avs := [vI v2, vI (0 : Int32), vI (1 : Int32)]) (st := []) (nest := false) xc10 (m_X10_in hI v0 v2 (0 : Int32) (1 : Int32) μ5) dX10_mean_15 qm_X10_245 qi_X10_in qs_X10_in qc_X10 qd_X10_in qh_X10_in (by decide) (fun _ => Nat.le_of_ble_eq_true rfl) (Nat.le_of_ble_eq_true rfl) (fun v6 μ7 => ?_)
  refine s_if_ne hC dX10_mean_18 (tgt := 25) (by decide) ?_ ?_
  · refine s_aload_n hC 0 dX10_mean_25 rfl ?_
    refine s_callV hC (x := v0) (avs := []) (st := []) (nest := false) xc10 (m_X10_save hI v0 μ7) dX10_mean_26 qm_X10_366 qi_X10_save qs_X10_save qc_X10 qd_X10_save qh_X10_save (by decide) (fun _ => Nat.le_of_ble_eq_true rfl) (Nat.le_of_ble_eq_true rfl) (fun _ μ8 => ?_)
    refine s_iconst hC dX10_mean_29 (v := 0) (by decide) ?_
    refine s_istore_n hC dX10_mean_30 (by decide) (lv' := [(3, vI (0 : Int32)), (0, vR v0), (1, vI v1), (2, vI v2)]) rfl ?_
    refine s_iconst hC dX10_mean_31 (v := 0) (by decide) ?_
    refine s_istore hC dX10_mean_32 (by decide) (lv' := [(4, vI (0 : Int32)), (3, vI (0 : Int32)), (0, vR v0), (1, vI v1), (2, vI v2)]) rfl ?_
    refine s_lv (lv' := [(0, vR v0), (1, vI v1), (2, vI v2), (3, vI (0 : Int32)), (4, vI (0 : Int32))]) [2, 3, 4, 1, 0] rfl ?_
    refine j_X10_mean_L34 hI hC hr hlk (fun v19 v20 v21 v22 μ23 => ?_) 4096 _ _ _ _ _ _
    refine s_aload_n hC 0 dX10_mean_57 rfl ?_
    refine s_callV hC (x := v19) (avs := []) (st := []) (nest := false) xc10 (m_X10_putBack hI v19 μ23) dX10_mean_58 qm_X10_372 qi_X10_putBack qs_X10_putBack qc_X10 qd_X10_putBack qh_X10_putBack (by decide) (fun _ => Nat.le_of_ble_eq_true rfl) (Nat.le_of_ble_eq_true rfl) (fun _ μ24 => ?_)
    refine s_aload_n hC 0 dX10_mean_61 rfl ?_
    refine s_iload_n hC 3 dX10_mean_62 rfl ?_
    refine s_iload_n hC 1 dX10_mean_63 rfl ?_
    refine s_iload_n hC 2 dX10_mean_64 rfl ?_
    refine s_callV hC (x := v19) (avs := [vI v22, vI v20, vI v21]) (st := []) (nest := false) xc10 (m_X10_lowestTerms hI v19 v22 v20 v21 μ24) dX10_mean_65 qm_X10_391 qi_X10_lowestTerms qs_X10_lowestTerms qc_X10 qd_X10_lowestTerms qh_X10_lowestTerms (by decide) (fun _ => Nat.le_of_ble_eq_true rfl) (Nat.le_of_ble_eq_true rfl) (fun v25 μ26 => ?_)
    exact s_lret hC hr hlk dX10_mean_68
  refine s_ldc2 hC dX10_mean_21 qk_X10_389 ?_
  exact s_lret hC hr hlk dX10_mean_24
theorem dX10_planned_0 : decode cX10_planned 0 = .ok (.aload_n 0, 1) := by decide +kernel
theorem dX10_planned_1 : decode cX10_planned 1 = .ok (.iload_n 1, 1) := by decide +kernel
theorem dX10_planned_2 : decode cX10_planned 2 = .ok (.iconst 0, 1) := by decide +kernel
theorem dX10_planned_3 : decode cX10_planned 3 = .ok (.iconst 1, 1) := by decide +kernel
theorem dX10_planned_4 : decode cX10_planned 4 = .ok (.invokevirtual 245, 3) := by decide +kernel
theorem dX10_planned_7 : decode cX10_planned 7 = .ok (.ifCond .ne 5, 3) := by decide +kernel
theorem dX10_planned_10 : decode cX10_planned 10 = .ok (.iconst (-1), 1) := by decide +kernel
theorem dX10_planned_11 : decode cX10_planned 11 = .ok (.ireturn, 1) := by decide +kernel
theorem dX10_planned_12 : decode cX10_planned 12 = .ok (.aload_n 0, 1) := by decide +kernel
theorem dX10_planned_13 : decode cX10_planned 13 = .ok (.invokevirtual 366, 3) := by decide +kernel
theorem dX10_planned_16 : decode cX10_planned 16 = .ok (.iconst 0, 1) := by decide +kernel
theorem dX10_planned_17 : decode cX10_planned 17 = .ok (.istore_n 2, 1) := by decide +kernel
theorem dX10_planned_18 : decode cX10_planned 18 = .ok (.iload_n 2, 1) := by decide +kernel
theorem dX10_planned_19 : decode cX10_planned 19 = .ok (.aload_n 0, 1) := by decide +kernel
theorem dX10_planned_20 : decode cX10_planned 20 = .ok (.getfield 141, 3) := by decide +kernel
theorem dX10_planned_23 : decode cX10_planned 23 = .ok (.if_icmp .ge 30, 3) := by decide +kernel
theorem dX10_planned_26 : decode cX10_planned 26 = .ok (.aload_n 0, 1) := by decide +kernel
theorem dX10_planned_27 : decode cX10_planned 27 = .ok (.getfield 35, 3) := by decide +kernel
theorem dX10_planned_30 : decode cX10_planned 30 = .ok (.aload_n 0, 1) := by decide +kernel
theorem dX10_planned_31 : decode cX10_planned 31 = .ok (.getfield 147, 3) := by decide +kernel
theorem dX10_planned_34 : decode cX10_planned 34 = .ok (.iload_n 2, 1) := by decide +kernel
theorem dX10_planned_35 : decode cX10_planned 35 = .ok (.iaload, 1) := by decide +kernel
theorem dX10_planned_36 : decode cX10_planned 36 = .ok (.aload_n 0, 1) := by decide +kernel
theorem dX10_planned_37 : decode cX10_planned 37 = .ok (.getfield 150, 3) := by decide +kernel
theorem dX10_planned_40 : decode cX10_planned 40 = .ok (.iload_n 2, 1) := by decide +kernel
theorem dX10_planned_41 : decode cX10_planned 41 = .ok (.iaload, 1) := by decide +kernel
theorem dX10_planned_42 : decode cX10_planned 42 = .ok (.iastore, 1) := by decide +kernel
theorem dX10_planned_43 : decode cX10_planned 43 = .ok (.aload_n 0, 1) := by decide +kernel
theorem dX10_planned_44 : decode cX10_planned 44 = .ok (.invokevirtual 360, 3) := by decide +kernel
theorem dX10_planned_47 : decode cX10_planned 47 = .ok (.iinc 2 1, 3) := by decide +kernel
theorem dX10_planned_50 : decode cX10_planned 50 = .ok (.goto (-32), 3) := by decide +kernel
theorem dX10_planned_53 : decode cX10_planned 53 = .ok (.iload_n 1, 1) := by decide +kernel
theorem dX10_planned_54 : decode cX10_planned 54 = .ok (.ifCond .ne 10, 3) := by decide +kernel
theorem dX10_planned_57 : decode cX10_planned 57 = .ok (.aload_n 0, 1) := by decide +kernel
theorem dX10_planned_58 : decode cX10_planned 58 = .ok (.getfield 16, 3) := by decide +kernel
theorem dX10_planned_61 : decode cX10_planned 61 = .ok (.goto 7, 3) := by decide +kernel
theorem dX10_planned_64 : decode cX10_planned 64 = .ok (.aload_n 0, 1) := by decide +kernel
theorem dX10_planned_65 : decode cX10_planned 65 = .ok (.invokevirtual 328, 3) := by decide +kernel
theorem dX10_planned_68 : decode cX10_planned 68 = .ok (.istore_n 2, 1) := by decide +kernel
theorem dX10_planned_69 : decode cX10_planned 69 = .ok (.aload_n 0, 1) := by decide +kernel
theorem dX10_planned_70 : decode cX10_planned 70 = .ok (.invokevirtual 372, 3) := by decide +kernel
theorem dX10_planned_73 : decode cX10_planned 73 = .ok (.iload_n 2, 1) := by decide +kernel
theorem dX10_planned_74 : decode cX10_planned 74 = .ok (.ireturn, 1) := by decide +kernel
def f_X10_planned_L18 (X : x_X) (k53 : Nat → Int32 → x_M → Option (Int32 × x_M)) : Nat → Nat → Int32 → Int32 → x_M → Option (Int32 × x_M)
  | 0, _, _, _, _ => none
  | n + 1, v6, v7, v8, μ9 =>
    (ck (x_kd X v6 = 10 + 1) (if (μ9.1 v6 43) ≤ v8 then (k53 v6 v7 μ9) else (ck (x_kd X v6 = 10 + 1) (lt (μ9.2.1 v6 8) (fun (v10 : Nat) => (ck (x_kd X v6 = 10 + 1) (lt (μ9.2.1 v6 45) (fun (v11 : Nat) => (ck ((x_kd X v11 = 20 ∨ x_kd X v11 = 40) ∧ x_ix v8 (x_ln X v11)) (ck (x_kd X v6 = 10 + 1) (lt (μ9.2.1 v6 46) (fun (v12 : Nat) => (ck ((x_kd X v12 = 20 ∨ x_kd X v12 = 40) ∧ x_ix v8 (x_ln X v12)) (lt (μ9.1 v11 (v8).toNatClampNeg) (fun (v13 : Int32) => (ck (x_kd X v10 = 20 ∧ x_ix v13 (x_ln X v10)) (lt (x_sI μ9 v10 (v13).toNatClampNeg (μ9.1 v12 (v8).toNatClampNeg)) (fun (μ14 : x_M) => (ck (x_kd X v6 = 10 + 1) (bd (f_X10_goDay X v6 μ14) (fun (_ : Unit) (μ15 : x_M) => (f_X10_planned_L18 X k53 n v6 v7 (v8 + (1 : Int32)) μ15))))))))))))))))))))))
set_option maxRecDepth 100000 in
theorem j_X10_planned_L18 (hI : x_I X) (hC : x_C X x_Z0 p (x_rm 6) s m c cX10_planned RX10 3 0 0 6) (hr : meth.sig.returnType = (some .int)) (hlk : meth.locks = false) {k53 : Nat → Int32 → x_M → Option (Int32 × x_M)} (hk53 : ∀ (b0 : Nat) (b1 : Int32) (μ : x_M), SM X 3 6 rkI p l e s m args below meth c 53 [(0, vR b0), (1, vI b1)] [] μ (k53 b0 b1 μ)) : ∀ (n : Nat) (v6 : Nat) (v7 : Int32) (v8 : Int32) (μ9 : x_M), SM X 3 6 rkI p l e s m args below meth c 18 [(0, vR v6), (1, vI v7), (2, vI v8)] [] μ9 (f_X10_planned_L18 X k53 n v6 v7 v8 μ9) := by
  intro n
  induction n with
  | zero => intro v6 v7 v8 μ9; exact s_none
  | succ n ih =>
    intro v6 v7 v8 μ9
    unfold f_X10_planned_L18
    refine s_iload_n hC 2 dX10_planned_18 rfl ?_
    refine s_aload_n hC 0 dX10_planned_19 rfl ?_
    refine s_getI hC xc10 (by decide) rfl qf_X10_141 dX10_planned_20 ?_
    refine s_icmp_ge hC dX10_planned_23 (tgt := 53) (by decide) ?_ ?_
    · refine s_lv (lv' := [(0, vR v6), (1, vI v7)]) [0, 1] rfl ?_
      exact hk53 _ _ _
    refine s_aload_n hC 0 dX10_planned_26 rfl ?_
    refine s_getR hC xc10 (by decide) rfl qf_X10_35 dX10_planned_27 ?_
    refine s_ltR (fun v10 => ?_)
    refine s_aload_n hC 0 dX10_planned_30 rfl ?_
    refine s_getR hC xc10 (by decide) rfl qf_X10_147 dX10_planned_31 ?_
    refine s_ltR (fun v11 => ?_)
    refine s_iload_n hC 2 dX10_planned_34 rfl ?_
    refine s_iald hC dX10_planned_35 ?_
    refine s_aload_n hC 0 dX10_planned_36 rfl ?_
    refine s_getR hC xc10 (by decide) rfl qf_X10_150 dX10_planned_37 ?_
    refine s_ltR (fun v12 => ?_)
    refine s_iload_n hC 2 dX10_planned_40 rfl ?_
    refine s_iald hC dX10_planned_41 ?_
    refine s_ltI2 (fun v13 => ?_)
    refine s_iast hC dX10_planned_42 ?_
    refine s_ltM (fun μ14 => ?_)
    refine s_aload_n hC 0 dX10_planned_43 rfl ?_
    refine s_callV hC (x := v6) (avs := []) (st := []) (nest := false) xc10 (m_X10_goDay hI v6 μ14) dX10_planned_44 qm_X10_360 qi_X10_goDay qs_X10_goDay qc_X10 qd_X10_goDay qh_X10_goDay (by decide) (fun _ => Nat.le_of_ble_eq_true rfl) (Nat.le_of_ble_eq_true rfl) (fun _ μ15 => ?_)
    refine s_iinc hC 2 dX10_planned_47 rfl (w := 1) (by decide) (by decide) (lv' := [(2, vI (v8 + (1 : Int32))), (0, vR v6), (1, vI v7)]) rfl ?_
    refine s_goto hC dX10_planned_50 (tgt := 18) (by decide) ?_
    refine s_lv (lv' := [(0, vR v6), (1, vI v7), (2, vI (v8 + (1 : Int32)))]) [1, 2, 0] rfl ?_
    exact ih _ _ _ _
def f_X10_planned (X : x_X) (v0 : Nat) (v1 : Int32) (μ : x_M) : Option (Int32 × x_M) :=
  (ck (x_kd X v0 = 10 + 1) (bd (f_X10_in X v0 v1 (0 : Int32) (1 : Int32) μ) (fun (v3 : Int32) (μ4 : x_M) => (if v3 = 0 then (some ((-1 : Int32), μ4)) else (ck (x_kd X v0 = 10 + 1) (bd (f_X10_save X v0 μ4) (fun (_ : Unit) (μ5 : x_M) => (f_X10_planned_L18 X (fun (v16 : Nat) (v17 : Int32) (μ18 : x_M) => (if v17 = 0 then (ck (x_kd X v16 = 10 + 1) (lt (μ18.1 v16 2) (fun (v22 : Int32) => (ck (x_kd X v16 = 10 + 1) (bd (f_X10_putBack X v16 μ18) (fun (_ : Unit) (μ23 : x_M) => (some (v22, μ23)))))))) else (ck (x_kd X v16 = 10 + 1) (bd (f_X10_level X v16 μ18) (fun (v19 : Int32) (μ20 : x_M) => (ck (x_kd X v16 = 10 + 1) (bd (f_X10_putBack X v16 μ20) (fun (_ : Unit) (μ21 : x_M) => (some (v19, μ21)))))))))) 4096 v0 v1 (0 : Int32) μ5))))))))
set_option maxRecDepth 100000 in
theorem m_X10_planned (hI : x_I X) (v0 : Nat) (v1 : Int32) (μ : x_M) : x_Met X x_Z0 l yX10_planned cX10_planned 3 (some .int) 6 [vR v0, vI v1] μ rkI (f_X10_planned X v0 v1 μ) := by
  refine x_enter hI (by decide +kernel) (Nat.le_of_ble_eq_true rfl) (fun p e s m args below meth c hC hr hlk => ?_)
  unfold f_X10_planned
  refine s_lv (lv' := [(0, vR v0), (1, vI v1)]) [0, 1] rfl ?_
  refine s_aload_n hC 0 dX10_planned_0 rfl ?_
  refine s_iload_n hC 1 dX10_planned_1 rfl ?_
  refine s_iconst hC dX10_planned_2 (v := 0) (by decide) ?_
  refine s_iconst hC dX10_planned_3 (v := 1) (by decide) ?_
  refine s_callV hC (x := v0) (avs := [vI v1, vI (0 : Int32), vI (1 : Int32)]) (st := []) (nest := false) xc10 (m_X10_in hI v0 v1 (0 : Int32) (1 : Int32) μ) dX10_planned_4 qm_X10_245 qi_X10_in qs_X10_in qc_X10 qd_X10_in qh_X10_in (by decide) (fun _ => Nat.le_of_ble_eq_true rfl) (Nat.le_of_ble_eq_true rfl) (fun v3 μ4 => ?_)
  refine s_if_ne hC dX10_planned_7 (tgt := 12) (by decide) ?_ ?_
  · refine s_aload_n hC 0 dX10_planned_12 rfl ?_
    refine s_callV hC (x := v0) (avs := []) (st := []) (nest := false) xc10 (m_X10_save hI v0 μ4) dX10_planned_13 qm_X10_366 qi_X10_save qs_X10_save qc_X10 qd_X10_save qh_X10_save (by decide) (fun _ => Nat.le_of_ble_eq_true rfl) (Nat.le_of_ble_eq_true rfl) (fun _ μ5 => ?_)
    refine s_iconst hC dX10_planned_16 (v := 0) (by decide) ?_
    refine s_istore_n hC dX10_planned_17 (by decide) (lv' := [(2, vI (0 : Int32)), (0, vR v0), (1, vI v1)]) rfl ?_
    refine s_lv (lv' := [(0, vR v0), (1, vI v1), (2, vI (0 : Int32))]) [1, 2, 0] rfl ?_
    refine j_X10_planned_L18 hI hC hr hlk (fun v16 v17 μ18 => ?_) 4096 _ _ _ _
    refine s_iload_n hC 1 dX10_planned_53 rfl ?_
    refine s_if_ne hC dX10_planned_54 (tgt := 64) (by decide) ?_ ?_
    · refine s_aload_n hC 0 dX10_planned_64 rfl ?_
      refine s_callV hC (x := v16) (avs := []) (st := []) (nest := false) xc10 (m_X10_level hI v16 μ18) dX10_planned_65 qm_X10_328 qi_X10_level qs_X10_level qc_X10 qd_X10_level qh_X10_level (by decide) (fun _ => Nat.le_of_ble_eq_true rfl) (Nat.le_of_ble_eq_true rfl) (fun v19 μ20 => ?_)
      refine s_istore_n hC dX10_planned_68 (by decide) (lv' := [(2, vI v19), (0, vR v16), (1, vI v17)]) rfl ?_
      refine s_aload_n hC 1 dX10_planned_69 rfl ?_
      refine s_callV hC (x := v16) (avs := []) (st := []) (nest := false) xc10 (m_X10_putBack hI v16 μ20) dX10_planned_70 qm_X10_372 qi_X10_putBack qs_X10_putBack qc_X10 qd_X10_putBack qh_X10_putBack (by decide) (fun _ => Nat.le_of_ble_eq_true rfl) (Nat.le_of_ble_eq_true rfl) (fun _ μ21 => ?_)
      refine s_iload_n hC 0 dX10_planned_73 rfl ?_
      exact s_iret hC hr hlk dX10_planned_74
    refine s_aload_n hC 0 dX10_planned_57 rfl ?_
    refine s_getI hC xc10 (by decide) rfl qf_X10_16 dX10_planned_58 ?_
    refine s_goto hC dX10_planned_61 (tgt := 68) (by decide) ?_
    refine s_ltI (fun v22 => ?_)
    refine s_istore_n hC dX10_planned_68 (by decide) (lv' := [(2, vI v22), (0, vR v16), (1, vI v17)]) rfl ?_
    refine s_aload_n hC 1 dX10_planned_69 rfl ?_
    refine s_callV hC (x := v16) (avs := []) (st := []) (nest := false) xc10 (m_X10_putBack hI v16 μ18) dX10_planned_70 qm_X10_372 qi_X10_putBack qs_X10_putBack qc_X10 qd_X10_putBack qh_X10_putBack (by decide) (fun _ => Nat.le_of_ble_eq_true rfl) (Nat.le_of_ble_eq_true rfl) (fun _ μ23 => ?_)
    refine s_iload_n hC 0 dX10_planned_73 rfl ?_
    exact s_iret hC hr hlk dX10_planned_74
  refine s_iconst hC dX10_planned_10 (v := -1) (by decide) ?_
  exact s_iret hC hr hlk dX10_planned_11
theorem dX10_poursAct_0 : decode cX10_poursAct 0 = .ok (.aload_n 0, 1) := by decide +kernel
theorem dX10_poursAct_1 : decode cX10_poursAct 1 = .ok (.getfield 26, 3) := by decide +kernel
theorem dX10_poursAct_4 : decode cX10_poursAct 4 = .ok (.iload_n 1, 1) := by decide +kernel
theorem dX10_poursAct_5 : decode cX10_poursAct 5 = .ok (.iaload, 1) := by decide +kernel
theorem dX10_poursAct_6 : decode cX10_poursAct 6 = .ok (.lookupswitch 78 #[(1, 34), (4, 41), (6, 56)], 34) := by decide +kernel
theorem dX10_poursAct_40 : decode cX10_poursAct 40 = .ok (.aload_n 0, 1) := by decide +kernel
theorem dX10_poursAct_41 : decode cX10_poursAct 41 = .ok (.iload_n 1, 1) := by decide +kernel
theorem dX10_poursAct_42 : decode cX10_poursAct 42 = .ok (.iload_n 2, 1) := by decide +kernel
theorem dX10_poursAct_43 : decode cX10_poursAct 43 = .ok (.invokevirtual 413, 3) := by decide +kernel
theorem dX10_poursAct_46 : decode cX10_poursAct 46 = .ok (.ireturn, 1) := by decide +kernel
theorem dX10_poursAct_47 : decode cX10_poursAct 47 = .ok (.aload_n 0, 1) := by decide +kernel
theorem dX10_poursAct_48 : decode cX10_poursAct 48 = .ok (.bipush 51, 2) := by decide +kernel
theorem dX10_poursAct_50 : decode cX10_poursAct 50 = .ok (.invokevirtual 401, 3) := by decide +kernel
theorem dX10_poursAct_53 : decode cX10_poursAct 53 = .ok (.aload_n 0, 1) := by decide +kernel
theorem dX10_poursAct_54 : decode cX10_poursAct 54 = .ok (.iload_n 1, 1) := by decide +kernel
theorem dX10_poursAct_55 : decode cX10_poursAct 55 = .ok (.iload_n 2, 1) := by decide +kernel
theorem dX10_poursAct_56 : decode cX10_poursAct 56 = .ok (.iconst 1, 1) := by decide +kernel
theorem dX10_poursAct_57 : decode cX10_poursAct 57 = .ok (.iadd, 1) := by decide +kernel
theorem dX10_poursAct_58 : decode cX10_poursAct 58 = .ok (.invokevirtual 413, 3) := by decide +kernel
theorem dX10_poursAct_61 : decode cX10_poursAct 61 = .ok (.ireturn, 1) := by decide +kernel
theorem dX10_poursAct_62 : decode cX10_poursAct 62 = .ok (.aload_n 0, 1) := by decide +kernel
theorem dX10_poursAct_63 : decode cX10_poursAct 63 = .ok (.bipush 70, 2) := by decide +kernel
theorem dX10_poursAct_65 : decode cX10_poursAct 65 = .ok (.invokevirtual 401, 3) := by decide +kernel
theorem dX10_poursAct_68 : decode cX10_poursAct 68 = .ok (.aload_n 0, 1) := by decide +kernel
theorem dX10_poursAct_69 : decode cX10_poursAct 69 = .ok (.iload_n 1, 1) := by decide +kernel
theorem dX10_poursAct_70 : decode cX10_poursAct 70 = .ok (.iload_n 2, 1) := by decide +kernel
theorem dX10_poursAct_71 : decode cX10_poursAct 71 = .ok (.invokevirtual 410, 3) := by decide +kernel
theorem dX10_poursAct_74 : decode cX10_poursAct 74 = .ok (.istore_n 3, 1) := by decide +kernel
theorem dX10_poursAct_75 : decode cX10_poursAct 75 = .ok (.iload_n 3, 1) := by decide +kernel
theorem dX10_poursAct_76 : decode cX10_poursAct 76 = .ok (.aload_n 0, 1) := by decide +kernel
theorem dX10_poursAct_77 : decode cX10_poursAct 77 = .ok (.iload_n 1, 1) := by decide +kernel
theorem dX10_poursAct_78 : decode cX10_poursAct 78 = .ok (.iconst 2, 1) := by decide +kernel
theorem dX10_poursAct_79 : decode cX10_poursAct 79 = .ok (.invokevirtual 404, 3) := by decide +kernel
theorem dX10_poursAct_82 : decode cX10_poursAct 82 = .ok (.iadd, 1) := by decide +kernel
theorem dX10_poursAct_83 : decode cX10_poursAct 83 = .ok (.ireturn, 1) := by decide +kernel
theorem dX10_poursAct_84 : decode cX10_poursAct 84 = .ok (.aload_n 0, 1) := by decide +kernel
theorem dX10_poursAct_85 : decode cX10_poursAct 85 = .ok (.iload_n 1, 1) := by decide +kernel
theorem dX10_poursAct_86 : decode cX10_poursAct 86 = .ok (.iload_n 2, 1) := by decide +kernel
theorem dX10_poursAct_87 : decode cX10_poursAct 87 = .ok (.invokevirtual 410, 3) := by decide +kernel
theorem dX10_poursAct_90 : decode cX10_poursAct 90 = .ok (.ireturn, 1) := by decide +kernel
def f_X10_poursAct (X : x_X) (v0 : Nat) (v1 : Int32) (v2 : Int32) (μ : x_M) : Option (Int32 × x_M) :=
  (ck (x_kd X v0 = 10 + 1) (lt (μ.2.1 v0 5) (fun (v4 : Nat) => (ck ((x_kd X v4 = 20 ∨ x_kd X v4 = 40) ∧ x_ix v1 (x_ln X v4)) (lt (μ.1 v4 (v1).toNatClampNeg) (fun (v5 : Int32) => (x_swo [(1 : Int32), (4 : Int32), (6 : Int32)] [(ck (x_kd X v0 = 10 + 1) (bd (f_X10_savingPours X v0 v1 v2 μ) (fun (v6 : Int32) (μ7 : x_M) => (some (v6, μ7))))), (ck (x_kd X v0 = 10 + 1) (bd (f_X10_body X v0 (51 : Int32) μ) (fun (_ : Unit) (μ8 : x_M) => (ck (x_kd X v0 = 10 + 1) (bd (f_X10_savingPours X v0 v1 (v2 + (1 : Int32)) μ8) (fun (v9 : Int32) (μ10 : x_M) => (some (v9, μ10)))))))), (ck (x_kd X v0 = 10 + 1) (bd (f_X10_body X v0 (70 : Int32) μ) (fun (_ : Unit) (μ11 : x_M) => (ck (x_kd X v0 = 10 + 1) (bd (f_X10_accountPours X v0 v1 v2 μ11) (fun (v12 : Int32) (μ13 : x_M) => (ck (x_kd X v0 = 10 + 1) (bd (f_X10_accountKeeps X v0 v1 (2 : Int32) μ13) (fun (v14 : Int32) (μ15 : x_M) => (some ((v12 + v14), μ15)))))))))))] (ck (x_kd X v0 = 10 + 1) (bd (f_X10_accountPours X v0 v1 v2 μ) (fun (v16 : Int32) (μ17 : x_M) => (some (v16, μ17))))) v5)))))))
set_option maxRecDepth 100000 in
theorem m_X10_poursAct (hI : x_I X) (v0 : Nat) (v1 : Int32) (v2 : Int32) (μ : x_M) : x_Met X x_Z0 l yX10_poursAct cX10_poursAct 4 (some .int) 6 [vR v0, vI v1, vI v2] μ rkI (f_X10_poursAct X v0 v1 v2 μ) := by
  refine x_enter hI (by decide +kernel) (Nat.le_of_ble_eq_true rfl) (fun p e s m args below meth c hC hr hlk => ?_)
  unfold f_X10_poursAct
  refine s_lv (lv' := [(0, vR v0), (1, vI v1), (2, vI v2)]) [0, 1, 2] rfl ?_
  refine s_aload_n hC 0 dX10_poursAct_0 rfl ?_
  refine s_getR hC xc10 (by decide) rfl qf_X10_26 dX10_poursAct_1 ?_
  refine s_ltR (fun v4 => ?_)
  refine s_iload_n hC 1 dX10_poursAct_4 rfl ?_
  refine s_iald hC dX10_poursAct_5 ?_
  refine s_ltI (fun v5 => ?_)
  refine s_lookup hC dX10_poursAct_6 (by decide) [((1 : Int32), 40), ((4 : Int32), 47), ((6 : Int32), 62)] 84 (by decide +kernel) ⟨?_, ?_, ?_, trivial⟩ ?_
  · refine s_aload_n hC 0 dX10_poursAct_40 rfl ?_
    refine s_iload_n hC 1 dX10_poursAct_41 rfl ?_
    refine s_iload_n hC 2 dX10_poursAct_42 rfl ?_
    refine s_callV hC (x := v0) (avs := [vI v1, vI v2]) (st := []) (nest := false) xc10 (m_X10_savingPours hI v0 v1 v2 μ) dX10_poursAct_43 qm_X10_413 qi_X10_savingPours qs_X10_savingPours qc_X10 qd_X10_savingPours qh_X10_savingPours (by decide) (fun _ => Nat.le_of_ble_eq_true rfl) (Nat.le_of_ble_eq_true rfl) (fun v6 μ7 => ?_)
    exact s_iret hC hr hlk dX10_poursAct_46
  · refine s_aload_n hC 0 dX10_poursAct_47 rfl ?_
    refine s_bipush hC dX10_poursAct_48 (v := 51) (by decide) ?_
    refine s_callV hC (x := v0) (avs := [vI (51 : Int32)]) (st := []) (nest := false) xc10 (m_X10_body hI v0 (51 : Int32) μ) dX10_poursAct_50 qm_X10_401 qi_X10_body qs_X10_body qc_X10 qd_X10_body qh_X10_body (by decide) (fun _ => Nat.le_of_ble_eq_true rfl) (Nat.le_of_ble_eq_true rfl) (fun _ μ8 => ?_)
    refine s_aload_n hC 0 dX10_poursAct_53 rfl ?_
    refine s_iload_n hC 1 dX10_poursAct_54 rfl ?_
    refine s_iload_n hC 2 dX10_poursAct_55 rfl ?_
    refine s_iconst hC dX10_poursAct_56 (v := 1) (by decide) ?_
    refine s_iadd hC dX10_poursAct_57 ?_
    refine s_callV hC (x := v0) (avs := [vI v1, vI (v2 + (1 : Int32))]) (st := []) (nest := false) xc10 (m_X10_savingPours hI v0 v1 (v2 + (1 : Int32)) μ8) dX10_poursAct_58 qm_X10_413 qi_X10_savingPours qs_X10_savingPours qc_X10 qd_X10_savingPours qh_X10_savingPours (by decide) (fun _ => Nat.le_of_ble_eq_true rfl) (Nat.le_of_ble_eq_true rfl) (fun v9 μ10 => ?_)
    exact s_iret hC hr hlk dX10_poursAct_61
  · refine s_aload_n hC 0 dX10_poursAct_62 rfl ?_
    refine s_bipush hC dX10_poursAct_63 (v := 70) (by decide) ?_
    refine s_callV hC (x := v0) (avs := [vI (70 : Int32)]) (st := []) (nest := false) xc10 (m_X10_body hI v0 (70 : Int32) μ) dX10_poursAct_65 qm_X10_401 qi_X10_body qs_X10_body qc_X10 qd_X10_body qh_X10_body (by decide) (fun _ => Nat.le_of_ble_eq_true rfl) (Nat.le_of_ble_eq_true rfl) (fun _ μ11 => ?_)
    refine s_aload_n hC 0 dX10_poursAct_68 rfl ?_
    refine s_iload_n hC 1 dX10_poursAct_69 rfl ?_
    refine s_iload_n hC 2 dX10_poursAct_70 rfl ?_
    refine s_callV hC (x := v0) (avs := [vI v1, vI v2]) (st := []) (nest := false) xc10 (m_X10_accountPours hI v0 v1 v2 μ11) dX10_poursAct_71 qm_X10_410 qi_X10_accountPours qs_X10_accountPours qc_X10 qd_X10_accountPours qh_X10_accountPours (by decide) (fun _ => Nat.le_of_ble_eq_true rfl) (Nat.le_of_ble_eq_true rfl) (fun v12 μ13 => ?_)
    refine s_istore_n hC dX10_poursAct_74 (by decide) (lv' := [(3, vI v12), (0, vR v0), (1, vI v1), (2, vI v2)]) rfl ?_
    refine s_iload_n hC 0 dX10_poursAct_75 rfl ?_
    refine s_aload_n hC 1 dX10_poursAct_76 rfl ?_
    refine s_iload_n hC 2 dX10_poursAct_77 rfl ?_
    refine s_iconst hC dX10_poursAct_78 (v := 2) (by decide) ?_
    refine s_callV hC (x := v0) (avs := [vI v1, vI (2 : Int32)]) (st := [vI v12]) (nest := false) xc10 (m_X10_accountKeeps hI v0 v1 (2 : Int32) μ13) dX10_poursAct_79 qm_X10_404 qi_X10_accountKeeps qs_X10_accountKeeps qc_X10 qd_X10_accountKeeps qh_X10_accountKeeps (by decide) (fun _ => Nat.le_of_ble_eq_true rfl) (Nat.le_of_ble_eq_true rfl) (fun v14 μ15 => ?_)
    refine s_iadd hC dX10_poursAct_82 ?_
    exact s_iret hC hr hlk dX10_poursAct_83
  refine s_aload_n hC 0 dX10_poursAct_84 rfl ?_
  refine s_iload_n hC 1 dX10_poursAct_85 rfl ?_
  refine s_iload_n hC 2 dX10_poursAct_86 rfl ?_
  refine s_callV hC (x := v0) (avs := [vI v1, vI v2]) (st := []) (nest := false) xc10 (m_X10_accountPours hI v0 v1 v2 μ) dX10_poursAct_87 qm_X10_410 qi_X10_accountPours qs_X10_accountPours qc_X10 qd_X10_accountPours qh_X10_accountPours (by decide) (fun _ => Nat.le_of_ble_eq_true rfl) (Nat.le_of_ble_eq_true rfl) (fun v16 μ17 => ?_)
  exact s_iret hC hr hlk dX10_poursAct_90
theorem dX10_goesText_0 : decode cX10_goesText 0 = .ok (.aload_n 0, 1) := by decide +kernel
theorem dX10_goesText_1 : decode cX10_goesText 1 = .ok (.iconst 0, 1) := by decide +kernel
theorem dX10_goesText_2 : decode cX10_goesText 2 = .ok (.putfield 53, 3) := by decide +kernel
theorem dX10_goesText_5 : decode cX10_goesText 5 = .ok (.aload_n 0, 1) := by decide +kernel
theorem dX10_goesText_6 : decode cX10_goesText 6 = .ok (.bipush 100, 2) := by decide +kernel
theorem dX10_goesText_8 : decode cX10_goesText 8 = .ok (.iload_n 1, 1) := by decide +kernel
theorem dX10_goesText_9 : decode cX10_goesText 9 = .ok (.imul, 1) := by decide +kernel
theorem dX10_goesText_10 : decode cX10_goesText 10 = .ok (.putfield 83, 3) := by decide +kernel
theorem dX10_goesText_13 : decode cX10_goesText 13 = .ok (.iconst 0, 1) := by decide +kernel
theorem dX10_goesText_14 : decode cX10_goesText 14 = .ok (.istore_n 2, 1) := by decide +kernel
theorem dX10_goesText_15 : decode cX10_goesText 15 = .ok (.aload_n 0, 1) := by decide +kernel
theorem dX10_goesText_16 : decode cX10_goesText 16 = .ok (.bipush 10, 2) := by decide +kernel
theorem dX10_goesText_18 : decode cX10_goesText 18 = .ok (.iload_n 1, 1) := by decide +kernel
theorem dX10_goesText_19 : decode cX10_goesText 19 = .ok (.imul, 1) := by decide +kernel
theorem dX10_goesText_20 : decode cX10_goesText 20 = .ok (.iload_n 2, 1) := by decide +kernel
theorem dX10_goesText_21 : decode cX10_goesText 21 = .ok (.iadd, 1) := by decide +kernel
theorem dX10_goesText_22 : decode cX10_goesText 22 = .ok (.invokevirtual 303, 3) := by decide +kernel
theorem dX10_goesText_25 : decode cX10_goesText 25 = .ok (.ifCond .ne 5, 3) := by decide +kernel
theorem dX10_goesText_28 : decode cX10_goesText 28 = .ok (.iconst 0, 1) := by decide +kernel
theorem dX10_goesText_29 : decode cX10_goesText 29 = .ok (.ireturn, 1) := by decide +kernel
theorem dX10_goesText_30 : decode cX10_goesText 30 = .ok (.iinc 2 1, 3) := by decide +kernel
theorem dX10_goesText_33 : decode cX10_goesText 33 = .ok (.aload_n 0, 1) := by decide +kernel
theorem dX10_goesText_34 : decode cX10_goesText 34 = .ok (.getfield 62, 3) := by decide +kernel
theorem dX10_goesText_37 : decode cX10_goesText 37 = .ok (.iload_n 1, 1) := by decide +kernel
theorem dX10_goesText_38 : decode cX10_goesText 38 = .ok (.iload_n 2, 1) := by decide +kernel
theorem dX10_goesText_39 : decode cX10_goesText 39 = .ok (.iastore, 1) := by decide +kernel
theorem dX10_goesText_40 : decode cX10_goesText 40 = .ok (.aload_n 0, 1) := by decide +kernel
theorem dX10_goesText_41 : decode cX10_goesText 41 = .ok (.getfield 53, 3) := by decide +kernel
theorem dX10_goesText_44 : decode cX10_goesText 44 = .ok (.aload_n 0, 1) := by decide +kernel
theorem dX10_goesText_45 : decode cX10_goesText 45 = .ok (.getfield 50, 3) := by decide +kernel
theorem dX10_goesText_48 : decode cX10_goesText 48 = .ok (.if_icmp .ne 5, 3) := by decide +kernel
theorem dX10_goesText_51 : decode cX10_goesText 51 = .ok (.iconst 1, 1) := by decide +kernel
theorem dX10_goesText_52 : decode cX10_goesText 52 = .ok (.ireturn, 1) := by decide +kernel
theorem dX10_goesText_53 : decode cX10_goesText 53 = .ok (.iload_n 2, 1) := by decide +kernel
theorem dX10_goesText_54 : decode cX10_goesText 54 = .ok (.bipush 10, 2) := by decide +kernel
theorem dX10_goesText_56 : decode cX10_goesText 56 = .ok (.if_icmp .eq 12, 3) := by decide +kernel
theorem dX10_goesText_59 : decode cX10_goesText 59 = .ok (.aload_n 0, 1) := by decide +kernel
theorem dX10_goesText_60 : decode cX10_goesText 60 = .ok (.bipush 59, 2) := by decide +kernel
theorem dX10_goesText_62 : decode cX10_goesText 62 = .ok (.invokevirtual 264, 3) := by decide +kernel
theorem dX10_goesText_65 : decode cX10_goesText 65 = .ok (.ifCond .ne (-50), 3) := by decide +kernel
theorem dX10_goesText_68 : decode cX10_goesText 68 = .ok (.iconst 0, 1) := by decide +kernel
theorem dX10_goesText_69 : decode cX10_goesText 69 = .ok (.ireturn, 1) := by decide +kernel
def f_X10_goesText_L15 (X : x_X) : Nat → Nat → Int32 → Int32 → x_M → Option (Int32 × x_M)
  | 0, _, _, _, _ => none
  | n + 1, v5, v6, v7, μ8 =>
    (ck (x_kd X v5 = 10 + 1) (bd (f_X10_takesClause X v5 (((10 : Int32) * v6) + v7) μ8) (fun (v9 : Int32) (μ10 : x_M) => (if v9 = 0 then (ck ((0 : Int32) = 0 ∨ (0 : Int32) = 1) (some ((0 : Int32), μ10))) else (ck (x_kd X v5 = 10 + 1) (lt (μ10.2.1 v5 17) (fun (v11 : Nat) => (ck (x_kd X v11 = 20 ∧ x_ix v6 (x_ln X v11)) (lt (x_sI μ10 v11 (v6).toNatClampNeg (v7 + (1 : Int32))) (fun (μ12 : x_M) => (ck (x_kd X v5 = 10 + 1) (ck (x_kd X v5 = 10 + 1) (if (μ12.1 v5 14) = (μ12.1 v5 13) then (ck ((1 : Int32) = 0 ∨ (1 : Int32) = 1) (some ((1 : Int32), μ12))) else (if (v7 + (1 : Int32)) = (10 : Int32) then (ck ((0 : Int32) = 0 ∨ (0 : Int32) = 1) (some ((0 : Int32), μ12))) else (ck (x_kd X v5 = 10 + 1) (bd (f_X10_takes X v5 (59 : Int32) μ12) (fun (v13 : Int32) (μ14 : x_M) => (if v13 = 0 then (ck ((0 : Int32) = 0 ∨ (0 : Int32) = 1) (some ((0 : Int32), μ14))) else (f_X10_goesText_L15 X n v5 v6 (v7 + (1 : Int32)) μ14)))))))))))))))))))
set_option maxRecDepth 100000 in
theorem j_X10_goesText_L15 (hI : x_I X) (hC : x_C X x_Z0 p (x_rm 7) s m c cX10_goesText RX10 3 0 0 7) (hr : meth.sig.returnType = (some .boolean)) (hlk : meth.locks = false) : ∀ (n : Nat) (v5 : Nat) (v6 : Int32) (v7 : Int32) (μ8 : x_M), SM X 3 7 rkI p l e s m args below meth c 15 [(0, vR v5), (1, vI v6), (2, vI v7)] [] μ8 (f_X10_goesText_L15 X n v5 v6 v7 μ8) := by
  intro n
  induction n with
  | zero => intro v5 v6 v7 μ8; exact s_none
  | succ n ih =>
    intro v5 v6 v7 μ8
    unfold f_X10_goesText_L15
    refine s_aload_n hC 0 dX10_goesText_15 rfl ?_
    refine s_bipush hC dX10_goesText_16 (v := 10) (by decide) ?_
    refine s_iload_n hC 1 dX10_goesText_18 rfl ?_
    refine s_imul hC dX10_goesText_19 ?_
    refine s_iload_n hC 2 dX10_goesText_20 rfl ?_
    refine s_iadd hC dX10_goesText_21 ?_
    refine s_callV hC (x := v5) (avs := [vI (((10 : Int32) * v6) + v7)]) (st := []) (nest := false) xc10 (m_X10_takesClause hI v5 (((10 : Int32) * v6) + v7) μ8) dX10_goesText_22 qm_X10_303 qi_X10_takesClause qs_X10_takesClause qc_X10 qd_X10_takesClause qh_X10_takesClause (by decide) (fun _ => Nat.le_of_ble_eq_true rfl) (Nat.le_of_ble_eq_true rfl) (fun v9 μ10 => ?_)
    refine s_if_ne hC dX10_goesText_25 (tgt := 30) (by decide) ?_ ?_
    · refine s_iinc hC 2 dX10_goesText_30 rfl (w := 1) (by decide) (by decide) (lv' := [(2, vI (v7 + (1 : Int32))), (0, vR v5), (1, vI v6)]) rfl ?_
      refine s_aload_n hC 1 dX10_goesText_33 rfl ?_
      refine s_getR hC xc10 (by decide) rfl qf_X10_62 dX10_goesText_34 ?_
      refine s_ltR (fun v11 => ?_)
      refine s_iload_n hC 2 dX10_goesText_37 rfl ?_
      refine s_iload_n hC 0 dX10_goesText_38 rfl ?_
      refine s_iast hC dX10_goesText_39 ?_
      refine s_ltM (fun μ12 => ?_)
      refine s_aload_n hC 1 dX10_goesText_40 rfl ?_
      refine s_getI hC xc10 (by decide) rfl qf_X10_53 dX10_goesText_41 ?_
      refine s_aload_n hC 1 dX10_goesText_44 rfl ?_
      refine s_getI hC xc10 (by decide) rfl qf_X10_50 dX10_goesText_45 ?_
      refine s_icmp_ne hC dX10_goesText_48 (tgt := 53) (by decide) ?_ ?_
      · refine s_iload_n hC 0 dX10_goesText_53 rfl ?_
        refine s_bipush hC dX10_goesText_54 (v := 10) (by decide) ?_
        refine s_icmp_eq hC dX10_goesText_56 (tgt := 68) (by decide) ?_ ?_
        · refine s_iconst hC dX10_goesText_68 (v := 0) (by decide) ?_
          exact s_zret hC hr hlk dX10_goesText_69
        refine s_aload_n hC 1 dX10_goesText_59 rfl ?_
        refine s_bipush hC dX10_goesText_60 (v := 59) (by decide) ?_
        refine s_callV hC (x := v5) (avs := [vI (59 : Int32)]) (st := []) (nest := false) xc10 (m_X10_takes hI v5 (59 : Int32) μ12) dX10_goesText_62 qm_X10_264 qi_X10_takes qs_X10_takes qc_X10 qd_X10_takes qh_X10_takes (by decide) (fun _ => Nat.le_of_ble_eq_true rfl) (Nat.le_of_ble_eq_true rfl) (fun v13 μ14 => ?_)
        refine s_if_ne hC dX10_goesText_65 (tgt := 15) (by decide) ?_ ?_
        · refine s_lv (lv' := [(0, vR v5), (1, vI v6), (2, vI (v7 + (1 : Int32)))]) [1, 2, 0] rfl ?_
          exact ih _ _ _ _
        refine s_iconst hC dX10_goesText_68 (v := 0) (by decide) ?_
        exact s_zret hC hr hlk dX10_goesText_69
      refine s_iconst hC dX10_goesText_51 (v := 1) (by decide) ?_
      exact s_zret hC hr hlk dX10_goesText_52
    refine s_iconst hC dX10_goesText_28 (v := 0) (by decide) ?_
    exact s_zret hC hr hlk dX10_goesText_29
def f_X10_goesText (X : x_X) (v0 : Nat) (v1 : Int32) (μ : x_M) : Option (Int32 × x_M) :=
  (ck (x_kd X v0 = 10 + 1) (lt (x_sI μ v0 14 (0 : Int32)) (fun (μ3 : x_M) => (ck (x_kd X v0 = 10 + 1) (lt (x_sI μ3 v0 24 ((100 : Int32) * v1)) (fun (μ4 : x_M) => (f_X10_goesText_L15 X 4096 v0 v1 (0 : Int32) μ4)))))))
set_option maxRecDepth 100000 in
theorem m_X10_goesText (hI : x_I X) (v0 : Nat) (v1 : Int32) (μ : x_M) : x_Met X x_Z0 l yX10_goesText cX10_goesText 3 (some .boolean) 7 [vR v0, vI v1] μ rkI (f_X10_goesText X v0 v1 μ) := by
  refine x_enter hI (by decide +kernel) (Nat.le_of_ble_eq_true rfl) (fun p e s m args below meth c hC hr hlk => ?_)
  unfold f_X10_goesText
  refine s_lv (lv' := [(0, vR v0), (1, vI v1)]) [0, 1] rfl ?_
  refine s_aload_n hC 0 dX10_goesText_0 rfl ?_
  refine s_iconst hC dX10_goesText_1 (v := 0) (by decide) ?_
  refine s_putI hC xc10 (by decide) rfl rfl qf_X10_53 dX10_goesText_2 ?_
  refine s_ltM (fun μ3 => ?_)
  refine s_aload_n hC 0 dX10_goesText_5 rfl ?_
  refine s_bipush hC dX10_goesText_6 (v := 100) (by decide) ?_
  refine s_iload_n hC 1 dX10_goesText_8 rfl ?_
  refine s_imul hC dX10_goesText_9 ?_
  refine s_putI hC xc10 (by decide) rfl rfl qf_X10_83 dX10_goesText_10 ?_
  refine s_ltM (fun μ4 => ?_)
  refine s_iconst hC dX10_goesText_13 (v := 0) (by decide) ?_
  refine s_istore_n hC dX10_goesText_14 (by decide) (lv' := [(2, vI (0 : Int32)), (0, vR v0), (1, vI v1)]) rfl ?_
  refine s_lv (lv' := [(0, vR v0), (1, vI v1), (2, vI (0 : Int32))]) [1, 2, 0] rfl ?_
  refine j_X10_goesText_L15 hI hC hr hlk 4096 _ _ _ _
theorem dX10_on_0 : decode cX10_on 0 = .ok (.aload_n 0, 1) := by decide +kernel
theorem dX10_on_1 : decode cX10_on 1 = .ok (.iload_n 2, 1) := by decide +kernel
theorem dX10_on_2 : decode cX10_on 2 = .ok (.iconst 0, 1) := by decide +kernel
theorem dX10_on_3 : decode cX10_on 3 = .ok (.iconst 2, 1) := by decide +kernel
theorem dX10_on_4 : decode cX10_on 4 = .ok (.invokevirtual 245, 3) := by decide +kernel
theorem dX10_on_7 : decode cX10_on 7 = .ok (.ifCond .ne 24, 3) := by decide +kernel
theorem dX10_on_10 : decode cX10_on 10 = .ok (.aload_n 0, 1) := by decide +kernel
theorem dX10_on_11 : decode cX10_on 11 = .ok (.iload_n 2, 1) := by decide +kernel
theorem dX10_on_12 : decode cX10_on 12 = .ok (.bipush 10, 2) := by decide +kernel
theorem dX10_on_14 : decode cX10_on 14 = .ok (.bipush 9, 2) := by decide +kernel
theorem dX10_on_16 : decode cX10_on 16 = .ok (.aload_n 0, 1) := by decide +kernel
theorem dX10_on_17 : decode cX10_on 17 = .ok (.getfield 7, 3) := by decide +kernel
theorem dX10_on_20 : decode cX10_on 20 = .ok (.iadd, 1) := by decide +kernel
theorem dX10_on_21 : decode cX10_on 21 = .ok (.invokevirtual 245, 3) := by decide +kernel
theorem dX10_on_24 : decode cX10_on 24 = .ok (.ifCond .ne 7, 3) := by decide +kernel
theorem dX10_on_27 : decode cX10_on 27 = .ok (.sipush (-10001), 3) := by decide +kernel
theorem dX10_on_30 : decode cX10_on 30 = .ok (.ireturn, 1) := by decide +kernel
theorem dX10_on_31 : decode cX10_on 31 = .ok (.aload_n 0, 1) := by decide +kernel
theorem dX10_on_32 : decode cX10_on 32 = .ok (.iload_n 1, 1) := by decide +kernel
theorem dX10_on_33 : decode cX10_on 33 = .ok (.invokevirtual 363, 3) := by decide +kernel
theorem dX10_on_36 : decode cX10_on 36 = .ok (.ifCond .ne 7, 3) := by decide +kernel
theorem dX10_on_39 : decode cX10_on 39 = .ok (.sipush (-10002), 3) := by decide +kernel
theorem dX10_on_42 : decode cX10_on 42 = .ok (.ireturn, 1) := by decide +kernel
theorem dX10_on_43 : decode cX10_on 43 = .ok (.aload_n 0, 1) := by decide +kernel
theorem dX10_on_44 : decode cX10_on 44 = .ok (.invokevirtual 366, 3) := by decide +kernel
theorem dX10_on_47 : decode cX10_on 47 = .ok (.aload_n 0, 1) := by decide +kernel
theorem dX10_on_48 : decode cX10_on 48 = .ok (.iload_n 1, 1) := by decide +kernel
theorem dX10_on_49 : decode cX10_on 49 = .ok (.invokevirtual 369, 3) := by decide +kernel
theorem dX10_on_52 : decode cX10_on 52 = .ok (.iload_n 2, 1) := by decide +kernel
theorem dX10_on_53 : decode cX10_on 53 = .ok (.ifCond .ne 10, 3) := by decide +kernel
theorem dX10_on_56 : decode cX10_on 56 = .ok (.aload_n 0, 1) := by decide +kernel
theorem dX10_on_57 : decode cX10_on 57 = .ok (.getfield 16, 3) := by decide +kernel
theorem dX10_on_60 : decode cX10_on 60 = .ok (.goto 36, 3) := by decide +kernel
theorem dX10_on_63 : decode cX10_on 63 = .ok (.iload_n 2, 1) := by decide +kernel
theorem dX10_on_64 : decode cX10_on 64 = .ok (.iconst 1, 1) := by decide +kernel
theorem dX10_on_65 : decode cX10_on 65 = .ok (.if_icmp .ne 10, 3) := by decide +kernel
theorem dX10_on_68 : decode cX10_on 68 = .ok (.aload_n 0, 1) := by decide +kernel
theorem dX10_on_69 : decode cX10_on 69 = .ok (.invokevirtual 328, 3) := by decide +kernel
theorem dX10_on_72 : decode cX10_on 72 = .ok (.goto 24, 3) := by decide +kernel
theorem dX10_on_75 : decode cX10_on 75 = .ok (.iload_n 2, 1) := by decide +kernel
theorem dX10_on_76 : decode cX10_on 76 = .ok (.iconst 2, 1) := by decide +kernel
theorem dX10_on_77 : decode cX10_on 77 = .ok (.if_icmp .ne 10, 3) := by decide +kernel
theorem dX10_on_80 : decode cX10_on 80 = .ok (.aload_n 0, 1) := by decide +kernel
theorem dX10_on_81 : decode cX10_on 81 = .ok (.getfield 19, 3) := by decide +kernel
theorem dX10_on_84 : decode cX10_on 84 = .ok (.goto 12, 3) := by decide +kernel
theorem dX10_on_87 : decode cX10_on 87 = .ok (.aload_n 0, 1) := by decide +kernel
theorem dX10_on_88 : decode cX10_on 88 = .ok (.getfield 32, 3) := by decide +kernel
theorem dX10_on_91 : decode cX10_on 91 = .ok (.iload_n 2, 1) := by decide +kernel
theorem dX10_on_92 : decode cX10_on 92 = .ok (.bipush 10, 2) := by decide +kernel
theorem dX10_on_94 : decode cX10_on 94 = .ok (.isub, 1) := by decide +kernel
theorem dX10_on_95 : decode cX10_on 95 = .ok (.iaload, 1) := by decide +kernel
theorem dX10_on_96 : decode cX10_on 96 = .ok (.istore_n 3, 1) := by decide +kernel
theorem dX10_on_97 : decode cX10_on 97 = .ok (.aload_n 0, 1) := by decide +kernel
theorem dX10_on_98 : decode cX10_on 98 = .ok (.invokevirtual 372, 3) := by decide +kernel
theorem dX10_on_101 : decode cX10_on 101 = .ok (.iload_n 3, 1) := by decide +kernel
theorem dX10_on_102 : decode cX10_on 102 = .ok (.ireturn, 1) := by decide +kernel
def f_X10_on_J31 (X : x_X) (v6 : Nat) (v7 : Int32) (v8 : Int32) (μ9 : x_M) : Option (Int32 × x_M) :=
  (ck (x_kd X v6 = 10 + 1) (bd (f_X10_isDays X v6 v7 μ9) (fun (v10 : Int32) (μ11 : x_M) => (if v10 = 0 then (some ((-10002 : Int32), μ11)) else (ck (x_kd X v6 = 10 + 1) (bd (f_X10_save X v6 μ11) (fun (_ : Unit) (μ12 : x_M) => (ck (x_kd X v6 = 10 + 1) (bd (f_X10_goDays X v6 v7 μ12) (fun (_ : Unit) (μ13 : x_M) => (if v8 = 0 then (ck (x_kd X v6 = 10 + 1) (lt (μ13.1 v6 2) (fun (v23 : Int32) => (ck (x_kd X v6 = 10 + 1) (bd (f_X10_putBack X v6 μ13) (fun (_ : Unit) (μ24 : x_M) => (some (v23, μ24)))))))) else (if v8 = (1 : Int32) then (ck (x_kd X v6 = 10 + 1) (bd (f_X10_level X v6 μ13) (fun (v20 : Int32) (μ21 : x_M) => (ck (x_kd X v6 = 10 + 1) (bd (f_X10_putBack X v6 μ21) (fun (_ : Unit) (μ22 : x_M) => (some (v20, μ22)))))))) else (if v8 = (2 : Int32) then (ck (x_kd X v6 = 10 + 1) (lt (μ13.1 v6 3) (fun (v18 : Int32) => (ck (x_kd X v6 = 10 + 1) (bd (f_X10_putBack X v6 μ13) (fun (_ : Unit) (μ19 : x_M) => (some (v18, μ19)))))))) else (ck (x_kd X v6 = 10 + 1) (lt (μ13.2.1 v6 7) (fun (v14 : Nat) => (lt (v8 - (10 : Int32)) (fun (v15 : Int32) => (ck ((x_kd X v14 = 20 ∨ x_kd X v14 = 40) ∧ x_ix v15 (x_ln X v14)) (lt (μ13.1 v14 (v15).toNatClampNeg) (fun (v16 : Int32) => (ck (x_kd X v6 = 10 + 1) (bd (f_X10_putBack X v6 μ13) (fun (_ : Unit) (μ17 : x_M) => (some (v16, μ17))))))))))))))))))))))))))
set_option maxRecDepth 100000 in
theorem j_X10_on_J31 (hI : x_I X) (hC : x_C X x_Z0 p (x_rm 7) s m c cX10_on RX10 4 0 0 7) (hr : meth.sig.returnType = (some .int)) (hlk : meth.locks = false) (v6 : Nat) (v7 : Int32) (v8 : Int32) (μ9 : x_M) : SM X 4 7 rkI p l e s m args below meth c 31 [(0, vR v6), (1, vI v7), (2, vI v8)] [] μ9 (f_X10_on_J31 X v6 v7 v8 μ9) := by
  unfold f_X10_on_J31
  refine s_aload_n hC 0 dX10_on_31 rfl ?_
  refine s_iload_n hC 1 dX10_on_32 rfl ?_
  refine s_callV hC (x := v6) (avs := [vI v7]) (st := []) (nest := false) xc10 (m_X10_isDays hI v6 v7 μ9) dX10_on_33 qm_X10_363 qi_X10_isDays qs_X10_isDays qc_X10 qd_X10_isDays qh_X10_isDays (by decide) (fun _ => Nat.le_of_ble_eq_true rfl) (Nat.le_of_ble_eq_true rfl) (fun v10 μ11 => ?_)
  refine s_if_ne hC dX10_on_36 (tgt := 43) (by decide) ?_ ?_
  · refine s_aload_n hC 0 dX10_on_43 rfl ?_
    refine s_callV hC (x := v6) (avs := []) (st := []) (nest := false) xc10 (m_X10_save hI v6 μ11) dX10_on_44 qm_X10_366 qi_X10_save qs_X10_save qc_X10 qd_X10_save qh_X10_save (by decide) (fun _ => Nat.le_of_ble_eq_true rfl) (Nat.le_of_ble_eq_true rfl) (fun _ μ12 => ?_)
    refine s_aload_n hC 0 dX10_on_47 rfl ?_
    refine s_iload_n hC 1 dX10_on_48 rfl ?_
    refine s_callV hC (x := v6) (avs := [vI v7]) (st := []) (nest := false) xc10 (m_X10_goDays hI v6 v7 μ12) dX10_on_49 qm_X10_369 qi_X10_goDays qs_X10_goDays qc_X10 qd_X10_goDays qh_X10_goDays (by decide) (fun _ => Nat.le_of_ble_eq_true rfl) (Nat.le_of_ble_eq_true rfl) (fun _ μ13 => ?_)
    refine s_iload_n hC 2 dX10_on_52 rfl ?_
    refine s_if_ne hC dX10_on_53 (tgt := 63) (by decide) ?_ ?_
    · refine s_iload_n hC 2 dX10_on_63 rfl ?_
      refine s_iconst hC dX10_on_64 (v := 1) (by decide) ?_
      refine s_icmp_ne hC dX10_on_65 (tgt := 75) (by decide) ?_ ?_
      · refine s_iload_n hC 2 dX10_on_75 rfl ?_
        refine s_iconst hC dX10_on_76 (v := 2) (by decide) ?_
        refine s_icmp_ne hC dX10_on_77 (tgt := 87) (by decide) ?_ ?_
        · refine s_aload_n hC 0 dX10_on_87 rfl ?_
          refine s_getR hC xc10 (by decide) rfl qf_X10_32 dX10_on_88 ?_
          refine s_ltR (fun v14 => ?_)
          refine s_iload_n hC 2 dX10_on_91 rfl ?_
          refine s_bipush hC dX10_on_92 (v := 10) (by decide) ?_
          refine s_isub hC dX10_on_94 ?_
          refine s_ltI (fun v15 => ?_)
          refine s_iald hC dX10_on_95 ?_
          refine s_ltI (fun v16 => ?_)
          refine s_istore_n hC dX10_on_96 (by decide) (lv' := [(3, vI v16), (0, vR v6), (1, vI v7), (2, vI v8)]) rfl ?_
          refine s_aload_n hC 1 dX10_on_97 rfl ?_
          refine s_callV hC (x := v6) (avs := []) (st := []) (nest := false) xc10 (m_X10_putBack hI v6 μ13) dX10_on_98 qm_X10_372 qi_X10_putBack qs_X10_putBack qc_X10 qd_X10_putBack qh_X10_putBack (by decide) (fun _ => Nat.le_of_ble_eq_true rfl) (Nat.le_of_ble_eq_true rfl) (fun _ μ17 => ?_)
          refine s_iload_n hC 0 dX10_on_101 rfl ?_
          exact s_iret hC hr hlk dX10_on_102
        refine s_aload_n hC 0 dX10_on_80 rfl ?_
        refine s_getI hC xc10 (by decide) rfl qf_X10_19 dX10_on_81 ?_
        refine s_goto hC dX10_on_84 (tgt := 96) (by decide) ?_
        refine s_ltI (fun v18 => ?_)
        refine s_istore_n hC dX10_on_96 (by decide) (lv' := [(3, vI v18), (0, vR v6), (1, vI v7), (2, vI v8)]) rfl ?_
        refine s_aload_n hC 1 dX10_on_97 rfl ?_
        refine s_callV hC (x := v6) (avs := []) (st := []) (nest := false) xc10 (m_X10_putBack hI v6 μ13) dX10_on_98 qm_X10_372 qi_X10_putBack qs_X10_putBack qc_X10 qd_X10_putBack qh_X10_putBack (by decide) (fun _ => Nat.le_of_ble_eq_true rfl) (Nat.le_of_ble_eq_true rfl) (fun _ μ19 => ?_)
        refine s_iload_n hC 0 dX10_on_101 rfl ?_
        exact s_iret hC hr hlk dX10_on_102
      refine s_aload_n hC 0 dX10_on_68 rfl ?_
      refine s_callV hC (x := v6) (avs := []) (st := []) (nest := false) xc10 (m_X10_level hI v6 μ13) dX10_on_69 qm_X10_328 qi_X10_level qs_X10_level qc_X10 qd_X10_level qh_X10_level (by decide) (fun _ => Nat.le_of_ble_eq_true rfl) (Nat.le_of_ble_eq_true rfl) (fun v20 μ21 => ?_)
      refine s_goto hC dX10_on_72 (tgt := 96) (by decide) ?_
      refine s_istore_n hC dX10_on_96 (by decide) (lv' := [(3, vI v20), (0, vR v6), (1, vI v7), (2, vI v8)]) rfl ?_
      refine s_aload_n hC 1 dX10_on_97 rfl ?_
      refine s_callV hC (x := v6) (avs := []) (st := []) (nest := false) xc10 (m_X10_putBack hI v6 μ21) dX10_on_98 qm_X10_372 qi_X10_putBack qs_X10_putBack qc_X10 qd_X10_putBack qh_X10_putBack (by decide) (fun _ => Nat.le_of_ble_eq_true rfl) (Nat.le_of_ble_eq_true rfl) (fun _ μ22 => ?_)
      refine s_iload_n hC 0 dX10_on_101 rfl ?_
      exact s_iret hC hr hlk dX10_on_102
    refine s_aload_n hC 0 dX10_on_56 rfl ?_
    refine s_getI hC xc10 (by decide) rfl qf_X10_16 dX10_on_57 ?_
    refine s_goto hC dX10_on_60 (tgt := 96) (by decide) ?_
    refine s_ltI (fun v23 => ?_)
    refine s_istore_n hC dX10_on_96 (by decide) (lv' := [(3, vI v23), (0, vR v6), (1, vI v7), (2, vI v8)]) rfl ?_
    refine s_aload_n hC 1 dX10_on_97 rfl ?_
    refine s_callV hC (x := v6) (avs := []) (st := []) (nest := false) xc10 (m_X10_putBack hI v6 μ13) dX10_on_98 qm_X10_372 qi_X10_putBack qs_X10_putBack qc_X10 qd_X10_putBack qh_X10_putBack (by decide) (fun _ => Nat.le_of_ble_eq_true rfl) (Nat.le_of_ble_eq_true rfl) (fun _ μ24 => ?_)
    refine s_iload_n hC 0 dX10_on_101 rfl ?_
    exact s_iret hC hr hlk dX10_on_102
  refine s_sipush hC dX10_on_39 (v := -10002) (by decide) ?_
  exact s_iret hC hr hlk dX10_on_42
def f_X10_on (X : x_X) (v0 : Nat) (v1 : Int32) (v2 : Int32) (μ : x_M) : Option (Int32 × x_M) :=
  (ck (x_kd X v0 = 10 + 1) (bd (f_X10_in X v0 v2 (0 : Int32) (2 : Int32) μ) (fun (v4 : Int32) (μ5 : x_M) => (if v4 = 0 then (ck (x_kd X v0 = 10 + 1) (ck (x_kd X v0 = 10 + 1) (bd (f_X10_in X v0 v2 (10 : Int32) ((9 : Int32) + (μ5.1 v0 0)) μ5) (fun (v25 : Int32) (μ26 : x_M) => (if v25 = 0 then (some ((-10001 : Int32), μ26)) else (f_X10_on_J31 X v0 v1 v2 μ26)))))) else (f_X10_on_J31 X v0 v1 v2 μ5)))))
set_option maxRecDepth 100000 in
theorem m_X10_on (hI : x_I X) (v0 : Nat) (v1 : Int32) (v2 : Int32) (μ : x_M) : x_Met X x_Z0 l yX10_on cX10_on 4 (some .int) 7 [vR v0, vI v1, vI v2] μ rkI (f_X10_on X v0 v1 v2 μ) := by
  refine x_enter hI (by decide +kernel) (Nat.le_of_ble_eq_true rfl) (fun p e s m args below meth c hC hr hlk => ?_)
  unfold f_X10_on
  refine s_lv (lv' := [(0, vR v0), (1, vI v1), (2, vI v2)]) [0, 1, 2] rfl ?_
  refine s_aload_n hC 0 dX10_on_0 rfl ?_
  refine s_iload_n hC 2 dX10_on_1 rfl ?_
  refine s_iconst hC dX10_on_2 (v := 0) (by decide) ?_
  refine s_iconst hC dX10_on_3 (v := 2) (by decide) ?_
  refine s_callV hC (x := v0) (avs := [vI v2, vI (0 : Int32), vI (2 : Int32)]) (st := []) (nest := false) xc10 (m_X10_in hI v0 v2 (0 : Int32) (2 : Int32) μ) dX10_on_4 qm_X10_245 qi_X10_in qs_X10_in qc_X10 qd_X10_in qh_X10_in (by decide) (fun _ => Nat.le_of_ble_eq_true rfl) (Nat.le_of_ble_eq_true rfl) (fun v4 μ5 => ?_)
  refine s_if_ne hC dX10_on_7 (tgt := 31) (by decide) ?_ ?_
  · exact j_X10_on_J31 hI hC hr hlk _ _ _ _
  refine s_aload_n hC 0 dX10_on_10 rfl ?_
  refine s_iload_n hC 2 dX10_on_11 rfl ?_
  refine s_bipush hC dX10_on_12 (v := 10) (by decide) ?_
  refine s_bipush hC dX10_on_14 (v := 9) (by decide) ?_
  refine s_aload_n hC 0 dX10_on_16 rfl ?_
  refine s_getI hC xc10 (by decide) rfl qf_X10_7 dX10_on_17 ?_
  refine s_iadd hC dX10_on_20 ?_
  refine s_callV hC (x := v0) (avs := [vI v2, vI (10 : Int32), vI ((9 : Int32) + (μ5.1 v0 0))]) (st := []) (nest := false) xc10 (m_X10_in hI v0 v2 (10 : Int32) ((9 : Int32) + (μ5.1 v0 0)) μ5) dX10_on_21 qm_X10_245 qi_X10_in qs_X10_in qc_X10 qd_X10_in qh_X10_in (by decide) (fun _ => Nat.le_of_ble_eq_true rfl) (Nat.le_of_ble_eq_true rfl) (fun v25 μ26 => ?_)
  refine s_if_ne hC dX10_on_24 (tgt := 31) (by decide) ?_ ?_
  · exact j_X10_on_J31 hI hC hr hlk _ _ _ _
  refine s_sipush hC dX10_on_27 (v := -10001) (by decide) ?_
  exact s_iret hC hr hlk dX10_on_30
