variable {X Y : x_X} {h0 b b0 L : Nat} {xs : Nat → Int32} {l : Launch} {p : Program} {e : Env} {s : State} {m : MethodId} {below : List Frame} {meth : Method} {c : Code} {cs sl : Nat}
def f_L_law_L18 (X Y : x_X) (L : Nat) (xs : Nat → Int32) : Nat → Nat → Nat → Nat → Int32 → x_M2 → Option (Unit × x_M2)
  | 0, _, _, _, _, _ => none
  | n + 1, v4, v5, v6, v7, μ8 =>
    (ck (v4 = 9) (if ((nI L) - (6 : Int32)) < v7 then (some ((), μ8)) else (ck (v4 = 9 ∧ x_ix v7 L) (lt ((xs (v7).toNatClampNeg) &&& (63 : Int32)) (fun (v9 : Int32) => (x_swo [(0 : Int32), (1 : Int32), (2 : Int32), (3 : Int32), (4 : Int32), (5 : Int32), (6 : Int32), (7 : Int32), (8 : Int32), (9 : Int32), (10 : Int32), (11 : Int32), (12 : Int32), (13 : Int32), (14 : Int32), (15 : Int32), (16 : Int32), (17 : Int32), (18 : Int32), (19 : Int32), (20 : Int32), (21 : Int32), (22 : Int32), (23 : Int32), (24 : Int32), (25 : Int32), (26 : Int32), (27 : Int32), (28 : Int32), (29 : Int32), (30 : Int32), (31 : Int32), (32 : Int32), (33 : Int32), (34 : Int32), (35 : Int32), (36 : Int32), (37 : Int32), (38 : Int32), (39 : Int32), (40 : Int32), (41 : Int32)] [(ck (v4 = 9 ∧ x_ix (v7 + (1 : Int32)) L) (ck (v4 = 9 ∧ x_ix (v7 + (2 : Int32)) L) (ck (x_kd X v5 = 9 + 1) (bd (f_X9_area X v5 (xs ((v7 + (1 : Int32))).toNatClampNeg) (xs ((v7 + (2 : Int32))).toNatClampNeg) μ8.1) (fun (v10 : Int32) (w11 : x_M) => (lt ((w11, μ8.2) : x_M2) (fun (μ12 : x_M2) => (ck (v4 = 9 ∧ x_ix (v7 + (1 : Int32)) L) (ck (v4 = 9 ∧ x_ix (v7 + (2 : Int32)) L) (ck (x_kd Y v6 = 10 + 1) (bd (f_X10_area Y v6 (xs ((v7 + (1 : Int32))).toNatClampNeg) (xs ((v7 + (2 : Int32))).toNatClampNeg) μ12.2) (fun (v13 : Int32) (w14 : x_M) => (lt ((μ12.1, w14) : x_M2) (fun (μ15 : x_M2) => (if v10 = v13 then (f_L_law_L18 X Y L xs n v4 v5 v6 (v7 + (6 : Int32)) μ15) else none))))))))))))))), (ck (v4 = 9 ∧ x_ix (v7 + (1 : Int32)) L) (ck (x_kd X v5 = 9 + 1) (bd (f_X9_volume X v5 (xs ((v7 + (1 : Int32))).toNatClampNeg) μ8.1) (fun (v16 : Int32) (w17 : x_M) => (lt ((w17, μ8.2) : x_M2) (fun (μ18 : x_M2) => (ck (v4 = 9 ∧ x_ix (v7 + (1 : Int32)) L) (ck (x_kd Y v6 = 10 + 1) (bd (f_X10_volume Y v6 (xs ((v7 + (1 : Int32))).toNatClampNeg) μ18.2) (fun (v19 : Int32) (w20 : x_M) => (lt ((μ18.1, w20) : x_M2) (fun (μ21 : x_M2) => (if v16 = v19 then (f_L_law_L18 X Y L xs n v4 v5 v6 (v7 + (6 : Int32)) μ21) else none))))))))))))), (ck (v4 = 9 ∧ x_ix (v7 + (1 : Int32)) L) (ck (v4 = 9 ∧ x_ix (v7 + (2 : Int32)) L) (ck (v4 = 9 ∧ x_ix (v7 + (3 : Int32)) L) (ck (x_kd X v5 = 9 + 1) (bd (f_X9_account X v5 (xs ((v7 + (1 : Int32))).toNatClampNeg) (xs ((v7 + (2 : Int32))).toNatClampNeg) (xs ((v7 + (3 : Int32))).toNatClampNeg) μ8.1) (fun (v22 : Int32) (w23 : x_M) => (lt ((w23, μ8.2) : x_M2) (fun (μ24 : x_M2) => (ck (v4 = 9 ∧ x_ix (v7 + (1 : Int32)) L) (ck (v4 = 9 ∧ x_ix (v7 + (2 : Int32)) L) (ck (v4 = 9 ∧ x_ix (v7 + (3 : Int32)) L) (ck (x_kd Y v6 = 10 + 1) (bd (f_X10_account Y v6 (xs ((v7 + (1 : Int32))).toNatClampNeg) (xs ((v7 + (2 : Int32))).toNatClampNeg) (xs ((v7 + (3 : Int32))).toNatClampNeg) μ24.2) (fun (v25 : Int32) (w26 : x_M) => (lt ((μ24.1, w26) : x_M2) (fun (μ27 : x_M2) => (if v22 = v25 then (f_L_law_L18 X Y L xs n v4 v5 v6 (v7 + (6 : Int32)) μ27) else none))))))))))))))))), (ck (v4 = 9 ∧ x_ix (v7 + (1 : Int32)) L) (ck (v4 = 9 ∧ x_ix (v7 + (2 : Int32)) L) (ck (x_kd X v5 = 9 + 1) (bd (f_X9_of X v5 (xs ((v7 + (1 : Int32))).toNatClampNeg) (xs ((v7 + (2 : Int32))).toNatClampNeg) μ8.1) (fun (v28 : Int32) (w29 : x_M) => (lt ((w29, μ8.2) : x_M2) (fun (μ30 : x_M2) => (ck (v4 = 9 ∧ x_ix (v7 + (1 : Int32)) L) (ck (v4 = 9 ∧ x_ix (v7 + (2 : Int32)) L) (ck (x_kd Y v6 = 10 + 1) (bd (f_X10_of Y v6 (xs ((v7 + (1 : Int32))).toNatClampNeg) (xs ((v7 + (2 : Int32))).toNatClampNeg) μ30.2) (fun (v31 : Int32) (w32 : x_M) => (lt ((μ30.1, w32) : x_M2) (fun (μ33 : x_M2) => (if v28 = v31 then (f_L_law_L18 X Y L xs n v4 v5 v6 (v7 + (6 : Int32)) μ33) else none))))))))))))))), (ck (v4 = 9 ∧ x_ix (v7 + (1 : Int32)) L) (ck (v4 = 9 ∧ x_ix (v7 + (2 : Int32)) L) (ck (v4 = 9 ∧ x_ix (v7 + (3 : Int32)) L) (ck (x_kd X v5 = 9 + 1) (bd (f_X9_set X v5 (xs ((v7 + (1 : Int32))).toNatClampNeg) (xs ((v7 + (2 : Int32))).toNatClampNeg) (xs ((v7 + (3 : Int32))).toNatClampNeg) μ8.1) (fun (v34 : Int32) (w35 : x_M) => (lt ((w35, μ8.2) : x_M2) (fun (μ36 : x_M2) => (ck (v4 = 9 ∧ x_ix (v7 + (1 : Int32)) L) (ck (v4 = 9 ∧ x_ix (v7 + (2 : Int32)) L) (ck (v4 = 9 ∧ x_ix (v7 + (3 : Int32)) L) (ck (x_kd Y v6 = 10 + 1) (bd (f_X10_set Y v6 (xs ((v7 + (1 : Int32))).toNatClampNeg) (xs ((v7 + (2 : Int32))).toNatClampNeg) (xs ((v7 + (3 : Int32))).toNatClampNeg) μ36.2) (fun (v37 : Int32) (w38 : x_M) => (lt ((μ36.1, w38) : x_M2) (fun (μ39 : x_M2) => (if v34 = v37 then (f_L_law_L18 X Y L xs n v4 v5 v6 (v7 + (6 : Int32)) μ39) else none))))))))))))))))), (ck (v4 = 9 ∧ x_ix (v7 + (1 : Int32)) L) (ck (v4 = 9 ∧ x_ix (v7 + (2 : Int32)) L) (ck (v4 = 9 ∧ x_ix (v7 + (3 : Int32)) L) (ck (x_kd X v5 = 9 + 1) (bd (f_X9_row X v5 (xs ((v7 + (1 : Int32))).toNatClampNeg) (xs ((v7 + (2 : Int32))).toNatClampNeg) (xs ((v7 + (3 : Int32))).toNatClampNeg) μ8.1) (fun (v40 : Int32) (w41 : x_M) => (lt ((w41, μ8.2) : x_M2) (fun (μ42 : x_M2) => (ck (v4 = 9 ∧ x_ix (v7 + (1 : Int32)) L) (ck (v4 = 9 ∧ x_ix (v7 + (2 : Int32)) L) (ck (v4 = 9 ∧ x_ix (v7 + (3 : Int32)) L) (ck (x_kd Y v6 = 10 + 1) (bd (f_X10_row Y v6 (xs ((v7 + (1 : Int32))).toNatClampNeg) (xs ((v7 + (2 : Int32))).toNatClampNeg) (xs ((v7 + (3 : Int32))).toNatClampNeg) μ42.2) (fun (v43 : Int32) (w44 : x_M) => (lt ((μ42.1, w44) : x_M2) (fun (μ45 : x_M2) => (if v40 = v43 then (f_L_law_L18 X Y L xs n v4 v5 v6 (v7 + (6 : Int32)) μ45) else none))))))))))))))))), (ck (v4 = 9 ∧ x_ix (v7 + (1 : Int32)) L) (ck (x_kd X v5 = 9 + 1) (bd (f_X9_water X v5 (xs ((v7 + (1 : Int32))).toNatClampNeg) μ8.1) (fun (v46 : Int32) (w47 : x_M) => (lt ((w47, μ8.2) : x_M2) (fun (μ48 : x_M2) => (ck (v4 = 9 ∧ x_ix (v7 + (1 : Int32)) L) (ck (x_kd Y v6 = 10 + 1) (bd (f_X10_water Y v6 (xs ((v7 + (1 : Int32))).toNatClampNeg) μ48.2) (fun (v49 : Int32) (w50 : x_M) => (lt ((μ48.1, w50) : x_M2) (fun (μ51 : x_M2) => (if v46 = v49 then (f_L_law_L18 X Y L xs n v4 v5 v6 (v7 + (6 : Int32)) μ51) else none))))))))))))), (ck (v4 = 9 ∧ x_ix (v7 + (1 : Int32)) L) (ck (x_kd X v5 = 9 + 1) (bd (f_X9_feed X v5 (xs ((v7 + (1 : Int32))).toNatClampNeg) μ8.1) (fun (v52 : Int32) (w53 : x_M) => (lt ((w53, μ8.2) : x_M2) (fun (μ54 : x_M2) => (ck (v4 = 9 ∧ x_ix (v7 + (1 : Int32)) L) (ck (x_kd Y v6 = 10 + 1) (bd (f_X10_feed Y v6 (xs ((v7 + (1 : Int32))).toNatClampNeg) μ54.2) (fun (v55 : Int32) (w56 : x_M) => (lt ((μ54.1, w56) : x_M2) (fun (μ57 : x_M2) => (if v52 = v55 then (f_L_law_L18 X Y L xs n v4 v5 v6 (v7 + (6 : Int32)) μ57) else none))))))))))))), (ck (x_kd X v5 = 9 + 1) (bd (f_X9_law X v5 μ8.1) (fun (v58 : Int32) (w59 : x_M) => (lt ((w59, μ8.2) : x_M2) (fun (μ60 : x_M2) => (ck (x_kd Y v6 = 10 + 1) (bd (f_X10_law Y v6 μ60.2) (fun (v61 : Int32) (w62 : x_M) => (lt ((μ60.1, w62) : x_M2) (fun (μ63 : x_M2) => (if v58 = v61 then (f_L_law_L18 X Y L xs n v4 v5 v6 (v7 + (6 : Int32)) μ63) else none))))))))))), (ck (v4 = 9 ∧ x_ix (v7 + (1 : Int32)) L) (ck (x_kd X v5 = 9 + 1) (bd (f_X9_told X v5 (xs ((v7 + (1 : Int32))).toNatClampNeg) μ8.1) (fun (v64 : Int32) (w65 : x_M) => (lt ((w65, μ8.2) : x_M2) (fun (μ66 : x_M2) => (ck (v4 = 9 ∧ x_ix (v7 + (1 : Int32)) L) (ck (x_kd Y v6 = 10 + 1) (bd (f_X10_told Y v6 (xs ((v7 + (1 : Int32))).toNatClampNeg) μ66.2) (fun (v67 : Int32) (w68 : x_M) => (lt ((μ66.1, w68) : x_M2) (fun (μ69 : x_M2) => (if v64 = v67 then (f_L_law_L18 X Y L xs n v4 v5 v6 (v7 + (6 : Int32)) μ69) else none))))))))))))), (ck (x_kd X v5 = 9 + 1) (bd (f_X9_day X v5 μ8.1) (fun (v70 : Int32) (w71 : x_M) => (lt ((w71, μ8.2) : x_M2) (fun (μ72 : x_M2) => (ck (x_kd Y v6 = 10 + 1) (bd (f_X10_day Y v6 μ72.2) (fun (v73 : Int32) (w74 : x_M) => (lt ((μ72.1, w74) : x_M2) (fun (μ75 : x_M2) => (if v70 = v73 then (f_L_law_L18 X Y L xs n v4 v5 v6 (v7 + (6 : Int32)) μ75) else none))))))))))), (ck (v4 = 9 ∧ x_ix (v7 + (1 : Int32)) L) (ck (v4 = 9 ∧ x_ix (v7 + (2 : Int32)) L) (ck (x_kd X v5 = 9 + 1) (bd (f_X9_on X v5 (xs ((v7 + (1 : Int32))).toNatClampNeg) (xs ((v7 + (2 : Int32))).toNatClampNeg) μ8.1) (fun (v76 : Int32) (w77 : x_M) => (lt ((w77, μ8.2) : x_M2) (fun (μ78 : x_M2) => (ck (v4 = 9 ∧ x_ix (v7 + (1 : Int32)) L) (ck (v4 = 9 ∧ x_ix (v7 + (2 : Int32)) L) (ck (x_kd Y v6 = 10 + 1) (bd (f_X10_on Y v6 (xs ((v7 + (1 : Int32))).toNatClampNeg) (xs ((v7 + (2 : Int32))).toNatClampNeg) μ78.2) (fun (v79 : Int32) (w80 : x_M) => (lt ((μ78.1, w80) : x_M2) (fun (μ81 : x_M2) => (if v76 = v79 then (f_L_law_L18 X Y L xs n v4 v5 v6 (v7 + (6 : Int32)) μ81) else none))))))))))))))), (ck (x_kd X v5 = 9 + 1) (bd (f_X9_dry X v5 μ8.1) (fun (v82 : Int32) (w83 : x_M) => (lt ((w83, μ8.2) : x_M2) (fun (μ84 : x_M2) => (ck (x_kd Y v6 = 10 + 1) (bd (f_X10_dry Y v6 μ84.2) (fun (v85 : Int32) (w86 : x_M) => (lt ((μ84.1, w86) : x_M2) (fun (μ87 : x_M2) => (if v82 = v85 then (f_L_law_L18 X Y L xs n v4 v5 v6 (v7 + (6 : Int32)) μ87) else none))))))))))), (ck (v4 = 9 ∧ x_ix (v7 + (1 : Int32)) L) (ck (x_kd X v5 = 9 + 1) (bd (f_X9_lowest X v5 (xs ((v7 + (1 : Int32))).toNatClampNeg) μ8.1) (fun (v88 : Int32) (w89 : x_M) => (lt ((w89, μ8.2) : x_M2) (fun (μ90 : x_M2) => (ck (v4 = 9 ∧ x_ix (v7 + (1 : Int32)) L) (ck (x_kd Y v6 = 10 + 1) (bd (f_X10_lowest Y v6 (xs ((v7 + (1 : Int32))).toNatClampNeg) μ90.2) (fun (v91 : Int32) (w92 : x_M) => (lt ((μ90.1, w92) : x_M2) (fun (μ93 : x_M2) => (if v88 = v91 then (f_L_law_L18 X Y L xs n v4 v5 v6 (v7 + (6 : Int32)) μ93) else none))))))))))))), (ck (v4 = 9 ∧ x_ix (v7 + (1 : Int32)) L) (ck (x_kd X v5 = 9 + 1) (bd (f_X9_ruined X v5 (xs ((v7 + (1 : Int32))).toNatClampNeg) μ8.1) (fun (v94 : Int32) (w95 : x_M) => (lt ((w95, μ8.2) : x_M2) (fun (μ96 : x_M2) => (ck (v4 = 9 ∧ x_ix (v7 + (1 : Int32)) L) (ck (x_kd Y v6 = 10 + 1) (bd (f_X10_ruined Y v6 (xs ((v7 + (1 : Int32))).toNatClampNeg) μ96.2) (fun (v97 : Int32) (w98 : x_M) => (lt ((μ96.1, w98) : x_M2) (fun (μ99 : x_M2) => (if v94 = v97 then (f_L_law_L18 X Y L xs n v4 v5 v6 (v7 + (6 : Int32)) μ99) else none))))))))))))), (ck (v4 = 9 ∧ x_ix (v7 + (1 : Int32)) L) (ck (v4 = 9 ∧ x_ix (v7 + (2 : Int32)) L) (ck (x_kd X v5 = 9 + 1) (bd (f_X9_may X v5 (xs ((v7 + (1 : Int32))).toNatClampNeg) (xs ((v7 + (2 : Int32))).toNatClampNeg) μ8.1) (fun (v100 : Int32) (w101 : x_M) => (lt ((w101, μ8.2) : x_M2) (fun (μ102 : x_M2) => (ck (v4 = 9 ∧ x_ix (v7 + (1 : Int32)) L) (ck (v4 = 9 ∧ x_ix (v7 + (2 : Int32)) L) (ck (x_kd Y v6 = 10 + 1) (bd (f_X10_may Y v6 (xs ((v7 + (1 : Int32))).toNatClampNeg) (xs ((v7 + (2 : Int32))).toNatClampNeg) μ102.2) (fun (v103 : Int32) (w104 : x_M) => (lt ((μ102.1, w104) : x_M2) (fun (μ105 : x_M2) => (if v100 = v103 then (f_L_law_L18 X Y L xs n v4 v5 v6 (v7 + (6 : Int32)) μ105) else none))))))))))))))), (ck (v4 = 9 ∧ x_ix (v7 + (1 : Int32)) L) (ck (v4 = 9 ∧ x_ix (v7 + (2 : Int32)) L) (ck (x_kd X v5 = 9 + 1) (bd (f_X9_enough X v5 (xs ((v7 + (1 : Int32))).toNatClampNeg) (xs ((v7 + (2 : Int32))).toNatClampNeg) μ8.1) (fun (v106 : Int32) (w107 : x_M) => (lt ((w107, μ8.2) : x_M2) (fun (μ108 : x_M2) => (ck (v4 = 9 ∧ x_ix (v7 + (1 : Int32)) L) (ck (v4 = 9 ∧ x_ix (v7 + (2 : Int32)) L) (ck (x_kd Y v6 = 10 + 1) (bd (f_X10_enough Y v6 (xs ((v7 + (1 : Int32))).toNatClampNeg) (xs ((v7 + (2 : Int32))).toNatClampNeg) μ108.2) (fun (v109 : Int32) (w110 : x_M) => (lt ((μ108.1, w110) : x_M2) (fun (μ111 : x_M2) => (if v106 = v109 then (f_L_law_L18 X Y L xs n v4 v5 v6 (v7 + (6 : Int32)) μ111) else none))))))))))))))), (ck (x_kd X v5 = 9 + 1) (bd (f_X9_lifted X v5 μ8.1) (fun (v112 : Int32) (w113 : x_M) => (lt ((w113, μ8.2) : x_M2) (fun (μ114 : x_M2) => (ck (x_kd Y v6 = 10 + 1) (bd (f_X10_lifted Y v6 μ114.2) (fun (v115 : Int32) (w116 : x_M) => (lt ((μ114.1, w116) : x_M2) (fun (μ117 : x_M2) => (if v112 = v115 then (f_L_law_L18 X Y L xs n v4 v5 v6 (v7 + (6 : Int32)) μ117) else none))))))))))), (ck (v4 = 9 ∧ x_ix (v7 + (1 : Int32)) L) (ck (v4 = 9 ∧ x_ix (v7 + (2 : Int32)) L) (ck (x_kd X v5 = 9 + 1) (bd (f_X9_without X v5 (xs ((v7 + (1 : Int32))).toNatClampNeg) (xs ((v7 + (2 : Int32))).toNatClampNeg) μ8.1) (fun (v118 : Int32) (w119 : x_M) => (lt ((w119, μ8.2) : x_M2) (fun (μ120 : x_M2) => (ck (v4 = 9 ∧ x_ix (v7 + (1 : Int32)) L) (ck (v4 = 9 ∧ x_ix (v7 + (2 : Int32)) L) (ck (x_kd Y v6 = 10 + 1) (bd (f_X10_without Y v6 (xs ((v7 + (1 : Int32))).toNatClampNeg) (xs ((v7 + (2 : Int32))).toNatClampNeg) μ120.2) (fun (v121 : Int32) (w122 : x_M) => (lt ((μ120.1, w122) : x_M2) (fun (μ123 : x_M2) => (if v118 = v121 then (f_L_law_L18 X Y L xs n v4 v5 v6 (v7 + (6 : Int32)) μ123) else none))))))))))))))), (ck (v4 = 9 ∧ x_ix (v7 + (1 : Int32)) L) (ck (x_kd X v5 = 9 + 1) (bd (f_X9_wells X v5 (xs ((v7 + (1 : Int32))).toNatClampNeg) μ8.1) (fun (v124 : Int32) (w125 : x_M) => (lt ((w125, μ8.2) : x_M2) (fun (μ126 : x_M2) => (ck (v4 = 9 ∧ x_ix (v7 + (1 : Int32)) L) (ck (x_kd Y v6 = 10 + 1) (bd (f_X10_wells Y v6 (xs ((v7 + (1 : Int32))).toNatClampNeg) μ126.2) (fun (v127 : Int32) (w128 : x_M) => (lt ((μ126.1, w128) : x_M2) (fun (μ129 : x_M2) => (if v124 = v127 then (f_L_law_L18 X Y L xs n v4 v5 v6 (v7 + (6 : Int32)) μ129) else none))))))))))))), (ck (v4 = 9 ∧ x_ix (v7 + (1 : Int32)) L) (ck (v4 = 9 ∧ x_ix (v7 + (2 : Int32)) L) (ck (v4 = 9 ∧ x_ix (v7 + (3 : Int32)) L) (ck (x_kd X v5 = 9 + 1) (bd (f_X9_share X v5 (xs ((v7 + (1 : Int32))).toNatClampNeg) (xs ((v7 + (2 : Int32))).toNatClampNeg) (xs ((v7 + (3 : Int32))).toNatClampNeg) μ8.1) (fun (v130 : Int64) (w131 : x_M) => (lt ((w131, μ8.2) : x_M2) (fun (μ132 : x_M2) => (ck (v4 = 9 ∧ x_ix (v7 + (1 : Int32)) L) (ck (v4 = 9 ∧ x_ix (v7 + (2 : Int32)) L) (ck (v4 = 9 ∧ x_ix (v7 + (3 : Int32)) L) (ck (x_kd Y v6 = 10 + 1) (bd (f_X10_share Y v6 (xs ((v7 + (1 : Int32))).toNatClampNeg) (xs ((v7 + (2 : Int32))).toNatClampNeg) (xs ((v7 + (3 : Int32))).toNatClampNeg) μ132.2) (fun (v133 : Int64) (w134 : x_M) => (lt ((μ132.1, w134) : x_M2) (fun (μ135 : x_M2) => (if (lg_cmp v130 v133) = 0 then (f_L_law_L18 X Y L xs n v4 v5 v6 (v7 + (6 : Int32)) μ135) else none))))))))))))))))), (ck (v4 = 9 ∧ x_ix (v7 + (1 : Int32)) L) (ck (x_kd X v5 = 9 + 1) (bd (f_X9_richest X v5 (xs ((v7 + (1 : Int32))).toNatClampNeg) μ8.1) (fun (v136 : Int32) (w137 : x_M) => (lt ((w137, μ8.2) : x_M2) (fun (μ138 : x_M2) => (ck (v4 = 9 ∧ x_ix (v7 + (1 : Int32)) L) (ck (x_kd Y v6 = 10 + 1) (bd (f_X10_richest Y v6 (xs ((v7 + (1 : Int32))).toNatClampNeg) μ138.2) (fun (v139 : Int32) (w140 : x_M) => (lt ((μ138.1, w140) : x_M2) (fun (μ141 : x_M2) => (if v136 = v139 then (f_L_law_L18 X Y L xs n v4 v5 v6 (v7 + (6 : Int32)) μ141) else none))))))))))))), (ck (v4 = 9 ∧ x_ix (v7 + (1 : Int32)) L) (ck (v4 = 9 ∧ x_ix (v7 + (2 : Int32)) L) (ck (x_kd X v5 = 9 + 1) (bd (f_X9_see X v5 (xs ((v7 + (1 : Int32))).toNatClampNeg) (xs ((v7 + (2 : Int32))).toNatClampNeg) μ8.1) (fun (v142 : Int32) (w143 : x_M) => (lt ((w143, μ8.2) : x_M2) (fun (μ144 : x_M2) => (ck (v4 = 9 ∧ x_ix (v7 + (1 : Int32)) L) (ck (v4 = 9 ∧ x_ix (v7 + (2 : Int32)) L) (ck (x_kd Y v6 = 10 + 1) (bd (f_X10_see Y v6 (xs ((v7 + (1 : Int32))).toNatClampNeg) (xs ((v7 + (2 : Int32))).toNatClampNeg) μ144.2) (fun (v145 : Int32) (w146 : x_M) => (lt ((μ144.1, w146) : x_M2) (fun (μ147 : x_M2) => (if v142 = v145 then (f_L_law_L18 X Y L xs n v4 v5 v6 (v7 + (6 : Int32)) μ147) else none))))))))))))))), (ck (v4 = 9 ∧ x_ix (v7 + (1 : Int32)) L) (ck (v4 = 9 ∧ x_ix (v7 + (2 : Int32)) L) (ck (x_kd X v5 = 9 + 1) (bd (f_X9_hidden X v5 (xs ((v7 + (1 : Int32))).toNatClampNeg) (xs ((v7 + (2 : Int32))).toNatClampNeg) μ8.1) (fun (v148 : Int32) (w149 : x_M) => (lt ((w149, μ8.2) : x_M2) (fun (μ150 : x_M2) => (ck (v4 = 9 ∧ x_ix (v7 + (1 : Int32)) L) (ck (v4 = 9 ∧ x_ix (v7 + (2 : Int32)) L) (ck (x_kd Y v6 = 10 + 1) (bd (f_X10_hidden Y v6 (xs ((v7 + (1 : Int32))).toNatClampNeg) (xs ((v7 + (2 : Int32))).toNatClampNeg) μ150.2) (fun (v151 : Int32) (w152 : x_M) => (lt ((μ150.1, w152) : x_M2) (fun (μ153 : x_M2) => (if v148 = v151 then (f_L_law_L18 X Y L xs n v4 v5 v6 (v7 + (6 : Int32)) μ153) else none))))))))))))))), (ck (x_kd X v5 = 9 + 1) (bd (f_X9_whose X v5 μ8.1) (fun (v154 : Int32) (w155 : x_M) => (lt ((w155, μ8.2) : x_M2) (fun (μ156 : x_M2) => (ck (x_kd Y v6 = 10 + 1) (bd (f_X10_whose Y v6 μ156.2) (fun (v157 : Int32) (w158 : x_M) => (lt ((μ156.1, w158) : x_M2) (fun (μ159 : x_M2) => (if v154 = v157 then (f_L_law_L18 X Y L xs n v4 v5 v6 (v7 + (6 : Int32)) μ159) else none))))))))))), (ck (v4 = 9 ∧ x_ix (v7 + (1 : Int32)) L) (ck (v4 = 9 ∧ x_ix (v7 + (2 : Int32)) L) (ck (x_kd X v5 = 9 + 1) (bd (f_X9_odds X v5 (xs ((v7 + (1 : Int32))).toNatClampNeg) (xs ((v7 + (2 : Int32))).toNatClampNeg) μ8.1) (fun (v160 : Int64) (w161 : x_M) => (lt ((w161, μ8.2) : x_M2) (fun (μ162 : x_M2) => (ck (v4 = 9 ∧ x_ix (v7 + (1 : Int32)) L) (ck (v4 = 9 ∧ x_ix (v7 + (2 : Int32)) L) (ck (x_kd Y v6 = 10 + 1) (bd (f_X10_odds Y v6 (xs ((v7 + (1 : Int32))).toNatClampNeg) (xs ((v7 + (2 : Int32))).toNatClampNeg) μ162.2) (fun (v163 : Int64) (w164 : x_M) => (lt ((μ162.1, w164) : x_M2) (fun (μ165 : x_M2) => (if (lg_cmp v160 v163) = 0 then (f_L_law_L18 X Y L xs n v4 v5 v6 (v7 + (6 : Int32)) μ165) else none))))))))))))))), (ck (v4 = 9 ∧ x_ix (v7 + (1 : Int32)) L) (ck (v4 = 9 ∧ x_ix (v7 + (2 : Int32)) L) (ck (x_kd X v5 = 9 + 1) (bd (f_X9_mean X v5 (xs ((v7 + (1 : Int32))).toNatClampNeg) (xs ((v7 + (2 : Int32))).toNatClampNeg) μ8.1) (fun (v166 : Int64) (w167 : x_M) => (lt ((w167, μ8.2) : x_M2) (fun (μ168 : x_M2) => (ck (v4 = 9 ∧ x_ix (v7 + (1 : Int32)) L) (ck (v4 = 9 ∧ x_ix (v7 + (2 : Int32)) L) (ck (x_kd Y v6 = 10 + 1) (bd (f_X10_mean Y v6 (xs ((v7 + (1 : Int32))).toNatClampNeg) (xs ((v7 + (2 : Int32))).toNatClampNeg) μ168.2) (fun (v169 : Int64) (w170 : x_M) => (lt ((μ168.1, w170) : x_M2) (fun (μ171 : x_M2) => (if (lg_cmp v166 v169) = 0 then (f_L_law_L18 X Y L xs n v4 v5 v6 (v7 + (6 : Int32)) μ171) else none))))))))))))))), (ck (v4 = 9 ∧ x_ix (v7 + (1 : Int32)) L) (ck (v4 = 9 ∧ x_ix (v7 + (2 : Int32)) L) (ck (x_kd X v5 = 9 + 1) (bd (f_X9_plan X v5 (xs ((v7 + (1 : Int32))).toNatClampNeg) (xs ((v7 + (2 : Int32))).toNatClampNeg) μ8.1) (fun (v172 : Int32) (w173 : x_M) => (lt ((w173, μ8.2) : x_M2) (fun (μ174 : x_M2) => (ck (v4 = 9 ∧ x_ix (v7 + (1 : Int32)) L) (ck (v4 = 9 ∧ x_ix (v7 + (2 : Int32)) L) (ck (x_kd Y v6 = 10 + 1) (bd (f_X10_plan Y v6 (xs ((v7 + (1 : Int32))).toNatClampNeg) (xs ((v7 + (2 : Int32))).toNatClampNeg) μ174.2) (fun (v175 : Int32) (w176 : x_M) => (lt ((μ174.1, w176) : x_M2) (fun (μ177 : x_M2) => (if v172 = v175 then (f_L_law_L18 X Y L xs n v4 v5 v6 (v7 + (6 : Int32)) μ177) else none))))))))))))))), (ck (v4 = 9 ∧ x_ix (v7 + (1 : Int32)) L) (ck (x_kd X v5 = 9 + 1) (bd (f_X9_planned X v5 (xs ((v7 + (1 : Int32))).toNatClampNeg) μ8.1) (fun (v178 : Int32) (w179 : x_M) => (lt ((w179, μ8.2) : x_M2) (fun (μ180 : x_M2) => (ck (v4 = 9 ∧ x_ix (v7 + (1 : Int32)) L) (ck (x_kd Y v6 = 10 + 1) (bd (f_X10_planned Y v6 (xs ((v7 + (1 : Int32))).toNatClampNeg) μ180.2) (fun (v181 : Int32) (w182 : x_M) => (lt ((μ180.1, w182) : x_M2) (fun (μ183 : x_M2) => (if v178 = v181 then (f_L_law_L18 X Y L xs n v4 v5 v6 (v7 + (6 : Int32)) μ183) else none))))))))))))), (ck (v4 = 9 ∧ x_ix (v7 + (1 : Int32)) L) (ck (v4 = 9 ∧ x_ix (v7 + (2 : Int32)) L) (ck (x_kd X v5 = 9 + 1) (bd (f_X9_book X v5 (xs ((v7 + (1 : Int32))).toNatClampNeg) (xs ((v7 + (2 : Int32))).toNatClampNeg) μ8.1) (fun (v184 : Int32) (w185 : x_M) => (lt ((w185, μ8.2) : x_M2) (fun (μ186 : x_M2) => (ck (v4 = 9 ∧ x_ix (v7 + (1 : Int32)) L) (ck (v4 = 9 ∧ x_ix (v7 + (2 : Int32)) L) (ck (x_kd Y v6 = 10 + 1) (bd (f_X10_book Y v6 (xs ((v7 + (1 : Int32))).toNatClampNeg) (xs ((v7 + (2 : Int32))).toNatClampNeg) μ186.2) (fun (v187 : Int32) (w188 : x_M) => (lt ((μ186.1, w188) : x_M2) (fun (μ189 : x_M2) => (if v184 = v187 then (f_L_law_L18 X Y L xs n v4 v5 v6 (v7 + (6 : Int32)) μ189) else none))))))))))))))), (ck (x_kd X v5 = 9 + 1) (bd (f_X9_looked X v5 μ8.1) (fun (v190 : Int32) (w191 : x_M) => (lt ((w191, μ8.2) : x_M2) (fun (μ192 : x_M2) => (ck (x_kd Y v6 = 10 + 1) (bd (f_X10_looked Y v6 μ192.2) (fun (v193 : Int32) (w194 : x_M) => (lt ((μ192.1, w194) : x_M2) (fun (μ195 : x_M2) => (if v190 = v193 then (f_L_law_L18 X Y L xs n v4 v5 v6 (v7 + (6 : Int32)) μ195) else none))))))))))), (ck (v4 = 9 ∧ x_ix (v7 + (1 : Int32)) L) (ck (v4 = 9 ∧ x_ix (v7 + (2 : Int32)) L) (ck (x_kd X v5 = 9 + 1) (bd (f_X9_judge X v5 (xs ((v7 + (1 : Int32))).toNatClampNeg) (xs ((v7 + (2 : Int32))).toNatClampNeg) μ8.1) (fun (v196 : Int32) (w197 : x_M) => (lt ((w197, μ8.2) : x_M2) (fun (μ198 : x_M2) => (ck (v4 = 9 ∧ x_ix (v7 + (1 : Int32)) L) (ck (v4 = 9 ∧ x_ix (v7 + (2 : Int32)) L) (ck (x_kd Y v6 = 10 + 1) (bd (f_X10_judge Y v6 (xs ((v7 + (1 : Int32))).toNatClampNeg) (xs ((v7 + (2 : Int32))).toNatClampNeg) μ198.2) (fun (v199 : Int32) (w200 : x_M) => (lt ((μ198.1, w200) : x_M2) (fun (μ201 : x_M2) => (if v196 = v199 then (f_L_law_L18 X Y L xs n v4 v5 v6 (v7 + (6 : Int32)) μ201) else none))))))))))))))), (ck (x_kd X v5 = 9 + 1) (bd (f_X9_image X v5 μ8.1) (fun (v202 : Int32) (w203 : x_M) => (lt ((w203, μ8.2) : x_M2) (fun (μ204 : x_M2) => (ck (x_kd Y v6 = 10 + 1) (bd (f_X10_image Y v6 μ204.2) (fun (v205 : Int32) (w206 : x_M) => (lt ((μ204.1, w206) : x_M2) (fun (μ207 : x_M2) => (if v202 = v205 then (f_L_law_L18 X Y L xs n v4 v5 v6 (v7 + (6 : Int32)) μ207) else none))))))))))), (ck (x_kd X v5 = 9 + 1) (bd (f_X9_undo X v5 μ8.1) (fun (v208 : Int32) (w209 : x_M) => (lt ((w209, μ8.2) : x_M2) (fun (μ210 : x_M2) => (ck (x_kd Y v6 = 10 + 1) (bd (f_X10_undo Y v6 μ210.2) (fun (v211 : Int32) (w212 : x_M) => (lt ((μ210.1, w212) : x_M2) (fun (μ213 : x_M2) => (if v208 = v211 then (f_L_law_L18 X Y L xs n v4 v5 v6 (v7 + (6 : Int32)) μ213) else none))))))))))), (ck (v4 = 9 ∧ x_ix (v7 + (1 : Int32)) L) (ck (v4 = 9 ∧ x_ix (v7 + (2 : Int32)) L) (ck (v4 = 9 ∧ x_ix (v7 + (3 : Int32)) L) (ck (x_kd X v5 = 9 + 1) (bd (f_X9_act X v5 (xs ((v7 + (1 : Int32))).toNatClampNeg) (xs ((v7 + (2 : Int32))).toNatClampNeg) (xs ((v7 + (3 : Int32))).toNatClampNeg) μ8.1) (fun (v214 : Int32) (w215 : x_M) => (lt ((w215, μ8.2) : x_M2) (fun (μ216 : x_M2) => (ck (v4 = 9 ∧ x_ix (v7 + (1 : Int32)) L) (ck (v4 = 9 ∧ x_ix (v7 + (2 : Int32)) L) (ck (v4 = 9 ∧ x_ix (v7 + (3 : Int32)) L) (ck (x_kd Y v6 = 10 + 1) (bd (f_X10_act Y v6 (xs ((v7 + (1 : Int32))).toNatClampNeg) (xs ((v7 + (2 : Int32))).toNatClampNeg) (xs ((v7 + (3 : Int32))).toNatClampNeg) μ216.2) (fun (v217 : Int32) (w218 : x_M) => (lt ((μ216.1, w218) : x_M2) (fun (μ219 : x_M2) => (if v214 = v217 then (f_L_law_L18 X Y L xs n v4 v5 v6 (v7 + (6 : Int32)) μ219) else none))))))))))))))))), (ck (v4 = 9 ∧ x_ix (v7 + (1 : Int32)) L) (ck (x_kd X v5 = 9 + 1) (bd (f_X9_trace X v5 (xs ((v7 + (1 : Int32))).toNatClampNeg) μ8.1) (fun (v220 : Int32) (w221 : x_M) => (lt ((w221, μ8.2) : x_M2) (fun (μ222 : x_M2) => (ck (v4 = 9 ∧ x_ix (v7 + (1 : Int32)) L) (ck (x_kd Y v6 = 10 + 1) (bd (f_X10_trace Y v6 (xs ((v7 + (1 : Int32))).toNatClampNeg) μ222.2) (fun (v223 : Int32) (w224 : x_M) => (lt ((μ222.1, w224) : x_M2) (fun (μ225 : x_M2) => (if v220 = v223 then (f_L_law_L18 X Y L xs n v4 v5 v6 (v7 + (6 : Int32)) μ225) else none))))))))))))), (ck (v4 = 9 ∧ x_ix (v7 + (1 : Int32)) L) (ck (v4 = 9 ∧ x_ix (v7 + (2 : Int32)) L) (ck (x_kd X v5 = 9 + 1) (bd (f_X9_taken X v5 (xs ((v7 + (1 : Int32))).toNatClampNeg) (xs ((v7 + (2 : Int32))).toNatClampNeg) μ8.1) (fun (v226 : Int32) (w227 : x_M) => (lt ((w227, μ8.2) : x_M2) (fun (μ228 : x_M2) => (ck (v4 = 9 ∧ x_ix (v7 + (1 : Int32)) L) (ck (v4 = 9 ∧ x_ix (v7 + (2 : Int32)) L) (ck (x_kd Y v6 = 10 + 1) (bd (f_X10_taken Y v6 (xs ((v7 + (1 : Int32))).toNatClampNeg) (xs ((v7 + (2 : Int32))).toNatClampNeg) μ228.2) (fun (v229 : Int32) (w230 : x_M) => (lt ((μ228.1, w230) : x_M2) (fun (μ231 : x_M2) => (if v226 = v229 then (f_L_law_L18 X Y L xs n v4 v5 v6 (v7 + (6 : Int32)) μ231) else none))))))))))))))), (ck (v4 = 9 ∧ x_ix (v7 + (1 : Int32)) L) (ck (x_kd X v5 = 9 + 1) (bd (f_X9_count X v5 (xs ((v7 + (1 : Int32))).toNatClampNeg) μ8.1) (fun (v232 : Int32) (w233 : x_M) => (lt ((w233, μ8.2) : x_M2) (fun (μ234 : x_M2) => (ck (v4 = 9 ∧ x_ix (v7 + (1 : Int32)) L) (ck (x_kd Y v6 = 10 + 1) (bd (f_X10_count Y v6 (xs ((v7 + (1 : Int32))).toNatClampNeg) μ234.2) (fun (v235 : Int32) (w236 : x_M) => (lt ((μ234.1, w236) : x_M2) (fun (μ237 : x_M2) => (if v232 = v235 then (f_L_law_L18 X Y L xs n v4 v5 v6 (v7 + (6 : Int32)) μ237) else none))))))))))))), (ck (v4 = 9 ∧ x_ix (v7 + (1 : Int32)) L) (ck (v4 = 9 ∧ x_ix (v7 + (2 : Int32)) L) (ck (v4 = 9 ∧ x_ix (v7 + (3 : Int32)) L) (ck (x_kd X v5 = 9 + 1) (bd (f_X9_tape X v5 (xs ((v7 + (1 : Int32))).toNatClampNeg) (xs ((v7 + (2 : Int32))).toNatClampNeg) (xs ((v7 + (3 : Int32))).toNatClampNeg) μ8.1) (fun (v238 : Int32) (w239 : x_M) => (lt ((w239, μ8.2) : x_M2) (fun (μ240 : x_M2) => (ck (v4 = 9 ∧ x_ix (v7 + (1 : Int32)) L) (ck (v4 = 9 ∧ x_ix (v7 + (2 : Int32)) L) (ck (v4 = 9 ∧ x_ix (v7 + (3 : Int32)) L) (ck (x_kd Y v6 = 10 + 1) (bd (f_X10_tape Y v6 (xs ((v7 + (1 : Int32))).toNatClampNeg) (xs ((v7 + (2 : Int32))).toNatClampNeg) (xs ((v7 + (3 : Int32))).toNatClampNeg) μ240.2) (fun (v241 : Int32) (w242 : x_M) => (lt ((μ240.1, w242) : x_M2) (fun (μ243 : x_M2) => (if v238 = v241 then (f_L_law_L18 X Y L xs n v4 v5 v6 (v7 + (6 : Int32)) μ243) else none))))))))))))))))), (ck (v4 = 9 ∧ x_ix (v7 + (1 : Int32)) L) (ck (v4 = 9 ∧ x_ix (v7 + (2 : Int32)) L) (ck (v4 = 9 ∧ x_ix (v7 + (3 : Int32)) L) (ck (v4 = 9 ∧ x_ix (v7 + (4 : Int32)) L) (ck (x_kd X v5 = 9 + 1) (bd (f_X9_item X v5 (xs ((v7 + (1 : Int32))).toNatClampNeg) (xs ((v7 + (2 : Int32))).toNatClampNeg) (((((xs ((v7 + (3 : Int32))).toNatClampNeg)).toInt64) <<< (((32 : Int32)).toInt64 &&& 63)) ||| ((((xs ((v7 + (4 : Int32))).toNatClampNeg)).toInt64) &&& (4294967295 : Int64))) μ8.1) (fun (v244 : Int32) (w245 : x_M) => (lt ((w245, μ8.2) : x_M2) (fun (μ246 : x_M2) => (ck (v4 = 9 ∧ x_ix (v7 + (1 : Int32)) L) (ck (v4 = 9 ∧ x_ix (v7 + (2 : Int32)) L) (ck (v4 = 9 ∧ x_ix (v7 + (3 : Int32)) L) (ck (v4 = 9 ∧ x_ix (v7 + (4 : Int32)) L) (ck (x_kd Y v6 = 10 + 1) (bd (f_X10_item Y v6 (xs ((v7 + (1 : Int32))).toNatClampNeg) (xs ((v7 + (2 : Int32))).toNatClampNeg) (((((xs ((v7 + (3 : Int32))).toNatClampNeg)).toInt64) <<< (((32 : Int32)).toInt64 &&& 63)) ||| ((((xs ((v7 + (4 : Int32))).toNatClampNeg)).toInt64) &&& (4294967295 : Int64))) μ246.2) (fun (v247 : Int32) (w248 : x_M) => (lt ((μ246.1, w248) : x_M2) (fun (μ249 : x_M2) => (if v244 = v247 then (f_L_law_L18 X Y L xs n v4 v5 v6 (v7 + (6 : Int32)) μ249) else none))))))))))))))))))), (ck (v4 = 9 ∧ x_ix (v7 + (1 : Int32)) L) (ck (v4 = 9 ∧ x_ix (v7 + (2 : Int32)) L) (ck (x_kd X v5 = 9 + 1) (bd (f_X9_read X v5 (xs ((v7 + (1 : Int32))).toNatClampNeg) (xs ((v7 + (2 : Int32))).toNatClampNeg) μ8.1) (fun (v250 : Int64) (w251 : x_M) => (lt ((w251, μ8.2) : x_M2) (fun (μ252 : x_M2) => (ck (v4 = 9 ∧ x_ix (v7 + (1 : Int32)) L) (ck (v4 = 9 ∧ x_ix (v7 + (2 : Int32)) L) (ck (x_kd Y v6 = 10 + 1) (bd (f_X10_read Y v6 (xs ((v7 + (1 : Int32))).toNatClampNeg) (xs ((v7 + (2 : Int32))).toNatClampNeg) μ252.2) (fun (v253 : Int64) (w254 : x_M) => (lt ((μ252.1, w254) : x_M2) (fun (μ255 : x_M2) => (if (lg_cmp v250 v253) = 0 then (f_L_law_L18 X Y L xs n v4 v5 v6 (v7 + (6 : Int32)) μ255) else none))))))))))))))), (ck (v4 = 9 ∧ x_ix (v7 + (1 : Int32)) L) (ck (v4 = 9 ∧ x_ix (v7 + (2 : Int32)) L) (ck (v4 = 9 ∧ x_ix (v7 + (3 : Int32)) L) (ck (v4 = 9 ∧ x_ix (v7 + (4 : Int32)) L) (ck (v4 = 9 ∧ x_ix (v7 + (5 : Int32)) L) (ck (x_kd X v5 = 9 + 1) (bd (f_X9_shift X v5 (xs ((v7 + (1 : Int32))).toNatClampNeg) (xs ((v7 + (2 : Int32))).toNatClampNeg) (xs ((v7 + (3 : Int32))).toNatClampNeg) (xs ((v7 + (4 : Int32))).toNatClampNeg) (xs ((v7 + (5 : Int32))).toNatClampNeg) μ8.1) (fun (v256 : Int32) (w257 : x_M) => (lt ((w257, μ8.2) : x_M2) (fun (μ258 : x_M2) => (ck (v4 = 9 ∧ x_ix (v7 + (1 : Int32)) L) (ck (v4 = 9 ∧ x_ix (v7 + (2 : Int32)) L) (ck (v4 = 9 ∧ x_ix (v7 + (3 : Int32)) L) (ck (v4 = 9 ∧ x_ix (v7 + (4 : Int32)) L) (ck (v4 = 9 ∧ x_ix (v7 + (5 : Int32)) L) (ck (x_kd Y v6 = 10 + 1) (bd (f_X10_shift Y v6 (xs ((v7 + (1 : Int32))).toNatClampNeg) (xs ((v7 + (2 : Int32))).toNatClampNeg) (xs ((v7 + (3 : Int32))).toNatClampNeg) (xs ((v7 + (4 : Int32))).toNatClampNeg) (xs ((v7 + (5 : Int32))).toNatClampNeg) μ258.2) (fun (v259 : Int32) (w260 : x_M) => (lt ((μ258.1, w260) : x_M2) (fun (μ261 : x_M2) => (if v256 = v259 then (f_L_law_L18 X Y L xs n v4 v5 v6 (v7 + (6 : Int32)) μ261) else none)))))))))))))))))))))] (f_L_law_L18 X Y L xs n v4 v5 v6 (v7 + (6 : Int32)) μ8) v9))))))
set_option maxRecDepth 100000 in
theorem j_L_law_L18 (hI : x_I X ∧ x_I Y) (hC : x_CL X Y x_Z0 h0 b L xs p room_1 s m c code RL 4 cs sl 1000) (hr : meth.sig.returnType = ret) (hlk : meth.locks = false) (hcs : cs ≤ 600000 ∧ sl ≤ 7302250) : ∀ (n : Nat) (v4 : Nat) (v5 : Nat) (v6 : Nat) (v7 : Int32) (μ8 : x_M2), Sm X (x_PP X Y s) (x_rg h0) (fun (_ : Unit) (_ : x_M2) => lw_Z below #[Value.ref b0] s) p l e room_1 s m #[Value.ref b0] below meth c 4 cs sl 18 [(0, vR v4), (1, vR v5), (2, vR v6), (3, vI v7)] [] μ8 (f_L_law_L18 X Y L xs n v4 v5 v6 v7 μ8) := by
  intro n
  induction n with
  | zero => intro v4 v5 v6 v7 μ8; exact s_none
  | succ n ih =>
    intro v4 v5 v6 v7 μ8
    unfold f_L_law_L18
    refine s_iload_n hC.1 3 dL_law_18 rfl ?_
    refine s_aload_n hC.1 0 dL_law_19 rfl ?_
    refine l_len hC dL_law_20 ?_
    refine s_bipush hC.1 dL_law_21 (v := 6) (by decide) ?_
    refine s_isub hC.1 dL_law_23 ?_
    refine s_icmp_gt hC.1 dL_law_24 (tgt := 1472) (by decide) ?_ ?_
    · refine s_iconst hC.1 dL_law_1472 (v := 1) (by decide) ?_
      exact l_ret hC hr hlk hcs dL_law_1473
    refine s_aload_n hC.1 0 dL_law_27 rfl ?_
    refine s_iload_n hC.1 3 dL_law_28 rfl ?_
    refine l_ald hC dL_law_29 ?_
    refine s_bipush hC.1 dL_law_30 (v := 63) (by decide) ?_
    refine s_iand hC.1 dL_law_32 ?_
    refine s_ltI (fun v9 => ?_)
    refine s_table hC.1 dL_law_33 [((0 : Int32), 216), ((1 : Int32), 249), ((2 : Int32), 272), ((3 : Int32), 315), ((4 : Int32), 348), ((5 : Int32), 391), ((6 : Int32), 434), ((7 : Int32), 457), ((8 : Int32), 480), ((9 : Int32), 493), ((10 : Int32), 516), ((11 : Int32), 529), ((12 : Int32), 562), ((13 : Int32), 575), ((14 : Int32), 598), ((15 : Int32), 621), ((16 : Int32), 654), ((17 : Int32), 687), ((18 : Int32), 700), ((19 : Int32), 733), ((20 : Int32), 756), ((21 : Int32), 800), ((22 : Int32), 823), ((23 : Int32), 856), ((24 : Int32), 889), ((25 : Int32), 902), ((26 : Int32), 936), ((27 : Int32), 970), ((28 : Int32), 1003), ((29 : Int32), 1026), ((30 : Int32), 1059), ((31 : Int32), 1072), ((32 : Int32), 1105), ((33 : Int32), 1118), ((34 : Int32), 1131), ((35 : Int32), 1174), ((36 : Int32), 1197), ((37 : Int32), 1230), ((38 : Int32), 1253), ((39 : Int32), 1296), ((40 : Int32), 1369), ((41 : Int32), 1403)] 1466 (by decide +kernel) ⟨?_, ?_, ?_, ?_, ?_, ?_, ?_, ?_, ?_, ?_, ?_, ?_, ?_, ?_, ?_, ?_, ?_, ?_, ?_, ?_, ?_, ?_, ?_, ?_, ?_, ?_, ?_, ?_, ?_, ?_, ?_, ?_, ?_, ?_, ?_, ?_, ?_, ?_, ?_, ?_, ?_, ?_, trivial⟩ ?_
    · refine s_aload_n hC.1 1 dL_law_216 rfl ?_
      refine s_aload_n hC.1 0 dL_law_217 rfl ?_
      refine s_iload_n hC.1 3 dL_law_218 rfl ?_
      refine s_iconst hC.1 dL_law_219 (v := 1) (by decide) ?_
      refine s_iadd hC.1 dL_law_220 ?_
      refine l_ald hC dL_law_221 ?_
      refine s_aload_n hC.1 0 dL_law_222 rfl ?_
      refine s_iload_n hC.1 3 dL_law_223 rfl ?_
      refine s_iconst hC.1 dL_law_224 (v := 2) (by decide) ?_
      refine s_iadd hC.1 dL_law_225 ?_
      refine l_ald hC dL_law_226 ?_
      refine l_callC hC (x := v5) (avs := [vI (xs ((v7 + (1 : Int32))).toNatClampNeg), vI (xs ((v7 + (2 : Int32))).toNatClampNeg)]) (st := []) xc9 (m_X9_area hI.1 v5 (xs ((v7 + (1 : Int32))).toNatClampNeg) (xs ((v7 + (2 : Int32))).toNatClampNeg) μ8.1) dL_law_227 qm_L_13 qi_X9_area qs_X9_area qc_X9 qd_X9_area qh_X9_area (by decide) (fun _ => Nat.le_of_ble_eq_true rfl) (Nat.le_of_ble_eq_true rfl) (fun v10 w11 => ?_)
      refine s_ltM (fun μ12 => ?_)
      refine s_aload_n hC.1 2 dL_law_230 rfl ?_
      refine s_aload_n hC.1 0 dL_law_231 rfl ?_
      refine s_iload_n hC.1 3 dL_law_232 rfl ?_
      refine s_iconst hC.1 dL_law_233 (v := 1) (by decide) ?_
      refine s_iadd hC.1 dL_law_234 ?_
      refine l_ald hC dL_law_235 ?_
      refine s_aload_n hC.1 0 dL_law_236 rfl ?_
      refine s_iload_n hC.1 3 dL_law_237 rfl ?_
      refine s_iconst hC.1 dL_law_238 (v := 2) (by decide) ?_
      refine s_iadd hC.1 dL_law_239 ?_
      refine l_ald hC dL_law_240 ?_
      refine l_callR hC (x := v6) (avs := [vI (xs ((v7 + (1 : Int32))).toNatClampNeg), vI (xs ((v7 + (2 : Int32))).toNatClampNeg)]) (st := [vI v10]) xc10 (m_X10_area hI.2 v6 (xs ((v7 + (1 : Int32))).toNatClampNeg) (xs ((v7 + (2 : Int32))).toNatClampNeg) μ12.2) dL_law_241 qm_L_17 qi_X10_area qs_X10_area qc_X10 qd_X10_area qh_X10_area (by decide) (fun _ => Nat.le_of_ble_eq_true rfl) (Nat.le_of_ble_eq_true rfl) (fun v13 w14 => ?_)
      refine s_ltM (fun μ15 => ?_)
      refine s_icmp_eq hC.1 dL_law_244 (tgt := 1466) (by decide) ?_ ?_
      · refine s_iinc hC.1 3 dL_law_1466 rfl (w := 6) (by decide) (by decide) (lv' := [(3, vI (v7 + (6 : Int32))), (0, vR v4), (1, vR v5), (2, vR v6)]) rfl ?_
        refine s_goto hC.1 dL_law_1469 (tgt := 18) (by decide) ?_
        refine s_lv (lv' := [(0, vR v4), (1, vR v5), (2, vR v6), (3, vI (v7 + (6 : Int32)))]) [1, 2, 3, 0] rfl ?_
        exact ih _ _ _ _ _
      exact s_none
    · refine s_aload_n hC.1 1 dL_law_249 rfl ?_
      refine s_aload_n hC.1 0 dL_law_250 rfl ?_
      refine s_iload_n hC.1 3 dL_law_251 rfl ?_
      refine s_iconst hC.1 dL_law_252 (v := 1) (by decide) ?_
      refine s_iadd hC.1 dL_law_253 ?_
      refine l_ald hC dL_law_254 ?_
      refine l_callC hC (x := v5) (avs := [vI (xs ((v7 + (1 : Int32))).toNatClampNeg)]) (st := []) xc9 (m_X9_volume hI.1 v5 (xs ((v7 + (1 : Int32))).toNatClampNeg) μ8.1) dL_law_255 qm_L_18 qi_X9_volume qs_X9_volume qc_X9 qd_X9_volume qh_X9_volume (by decide) (fun _ => Nat.le_of_ble_eq_true rfl) (Nat.le_of_ble_eq_true rfl) (fun v16 w17 => ?_)
      refine s_ltM (fun μ18 => ?_)
      refine s_aload_n hC.1 2 dL_law_258 rfl ?_
      refine s_aload_n hC.1 0 dL_law_259 rfl ?_
      refine s_iload_n hC.1 3 dL_law_260 rfl ?_
      refine s_iconst hC.1 dL_law_261 (v := 1) (by decide) ?_
      refine s_iadd hC.1 dL_law_262 ?_
      refine l_ald hC dL_law_263 ?_
      refine l_callR hC (x := v6) (avs := [vI (xs ((v7 + (1 : Int32))).toNatClampNeg)]) (st := [vI v16]) xc10 (m_X10_volume hI.2 v6 (xs ((v7 + (1 : Int32))).toNatClampNeg) μ18.2) dL_law_264 qm_L_22 qi_X10_volume qs_X10_volume qc_X10 qd_X10_volume qh_X10_volume (by decide) (fun _ => Nat.le_of_ble_eq_true rfl) (Nat.le_of_ble_eq_true rfl) (fun v19 w20 => ?_)
      refine s_ltM (fun μ21 => ?_)
      refine s_icmp_eq hC.1 dL_law_267 (tgt := 1466) (by decide) ?_ ?_
      · refine s_iinc hC.1 3 dL_law_1466 rfl (w := 6) (by decide) (by decide) (lv' := [(3, vI (v7 + (6 : Int32))), (0, vR v4), (1, vR v5), (2, vR v6)]) rfl ?_
        refine s_goto hC.1 dL_law_1469 (tgt := 18) (by decide) ?_
        refine s_lv (lv' := [(0, vR v4), (1, vR v5), (2, vR v6), (3, vI (v7 + (6 : Int32)))]) [1, 2, 3, 0] rfl ?_
        exact ih _ _ _ _ _
      exact s_none
    · refine s_aload_n hC.1 1 dL_law_272 rfl ?_
      refine s_aload_n hC.1 0 dL_law_273 rfl ?_
      refine s_iload_n hC.1 3 dL_law_274 rfl ?_
      refine s_iconst hC.1 dL_law_275 (v := 1) (by decide) ?_
      refine s_iadd hC.1 dL_law_276 ?_
      refine l_ald hC dL_law_277 ?_
      refine s_aload_n hC.1 0 dL_law_278 rfl ?_
      refine s_iload_n hC.1 3 dL_law_279 rfl ?_
      refine s_iconst hC.1 dL_law_280 (v := 2) (by decide) ?_
      refine s_iadd hC.1 dL_law_281 ?_
      refine l_ald hC dL_law_282 ?_
      refine s_aload_n hC.1 0 dL_law_283 rfl ?_
      refine s_iload_n hC.1 3 dL_law_284 rfl ?_
      refine s_iconst hC.1 dL_law_285 (v := 3) (by decide) ?_
      refine s_iadd hC.1 dL_law_286 ?_
      refine l_ald hC dL_law_287 ?_
      refine l_callC hC (x := v5) (avs := [vI (xs ((v7 + (1 : Int32))).toNatClampNeg), vI (xs ((v7 + (2 : Int32))).toNatClampNeg), vI (xs ((v7 + (3 : Int32))).toNatClampNeg)]) (st := []) xc9 (m_X9_account hI.1 v5 (xs ((v7 + (1 : Int32))).toNatClampNeg) (xs ((v7 + (2 : Int32))).toNatClampNeg) (xs ((v7 + (3 : Int32))).toNatClampNeg) μ8.1) dL_law_288 qm_L_23 qi_X9_account qs_X9_account qc_X9 qd_X9_account qh_X9_account (by decide) (fun _ => Nat.le_of_ble_eq_true rfl) (Nat.le_of_ble_eq_true rfl) (fun v22 w23 => ?_)
      refine s_ltM (fun μ24 => ?_)
      refine s_aload_n hC.1 2 dL_law_291 rfl ?_
      refine s_aload_n hC.1 0 dL_law_292 rfl ?_
      refine s_iload_n hC.1 3 dL_law_293 rfl ?_
      refine s_iconst hC.1 dL_law_294 (v := 1) (by decide) ?_
      refine s_iadd hC.1 dL_law_295 ?_
      refine l_ald hC dL_law_296 ?_
      refine s_aload_n hC.1 0 dL_law_297 rfl ?_
      refine s_iload_n hC.1 3 dL_law_298 rfl ?_
      refine s_iconst hC.1 dL_law_299 (v := 2) (by decide) ?_
      refine s_iadd hC.1 dL_law_300 ?_
      refine l_ald hC dL_law_301 ?_
      refine s_aload_n hC.1 0 dL_law_302 rfl ?_
      refine s_iload_n hC.1 3 dL_law_303 rfl ?_
      refine s_iconst hC.1 dL_law_304 (v := 3) (by decide) ?_
      refine s_iadd hC.1 dL_law_305 ?_
      refine l_ald hC dL_law_306 ?_
      refine l_callR hC (x := v6) (avs := [vI (xs ((v7 + (1 : Int32))).toNatClampNeg), vI (xs ((v7 + (2 : Int32))).toNatClampNeg), vI (xs ((v7 + (3 : Int32))).toNatClampNeg)]) (st := [vI v22]) xc10 (m_X10_account hI.2 v6 (xs ((v7 + (1 : Int32))).toNatClampNeg) (xs ((v7 + (2 : Int32))).toNatClampNeg) (xs ((v7 + (3 : Int32))).toNatClampNeg) μ24.2) dL_law_307 qm_L_27 qi_X10_account qs_X10_account qc_X10 qd_X10_account qh_X10_account (by decide) (fun _ => Nat.le_of_ble_eq_true rfl) (Nat.le_of_ble_eq_true rfl) (fun v25 w26 => ?_)
      refine s_ltM (fun μ27 => ?_)
      refine s_icmp_eq hC.1 dL_law_310 (tgt := 1466) (by decide) ?_ ?_
      · refine s_iinc hC.1 3 dL_law_1466 rfl (w := 6) (by decide) (by decide) (lv' := [(3, vI (v7 + (6 : Int32))), (0, vR v4), (1, vR v5), (2, vR v6)]) rfl ?_
        refine s_goto hC.1 dL_law_1469 (tgt := 18) (by decide) ?_
        refine s_lv (lv' := [(0, vR v4), (1, vR v5), (2, vR v6), (3, vI (v7 + (6 : Int32)))]) [1, 2, 3, 0] rfl ?_
        exact ih _ _ _ _ _
      exact s_none
    · refine s_aload_n hC.1 1 dL_law_315 rfl ?_
      refine s_aload_n hC.1 0 dL_law_316 rfl ?_
      refine s_iload_n hC.1 3 dL_law_317 rfl ?_
      refine s_iconst hC.1 dL_law_318 (v := 1) (by decide) ?_
      refine s_iadd hC.1 dL_law_319 ?_
      refine l_ald hC dL_law_320 ?_
      refine s_aload_n hC.1 0 dL_law_321 rfl ?_
      refine s_iload_n hC.1 3 dL_law_322 rfl ?_
      refine s_iconst hC.1 dL_law_323 (v := 2) (by decide) ?_
      refine s_iadd hC.1 dL_law_324 ?_
      refine l_ald hC dL_law_325 ?_
      refine l_callC hC (x := v5) (avs := [vI (xs ((v7 + (1 : Int32))).toNatClampNeg), vI (xs ((v7 + (2 : Int32))).toNatClampNeg)]) (st := []) xc9 (m_X9_of hI.1 v5 (xs ((v7 + (1 : Int32))).toNatClampNeg) (xs ((v7 + (2 : Int32))).toNatClampNeg) μ8.1) dL_law_326 qm_L_28 qi_X9_of qs_X9_of qc_X9 qd_X9_of qh_X9_of (by decide) (fun _ => Nat.le_of_ble_eq_true rfl) (Nat.le_of_ble_eq_true rfl) (fun v28 w29 => ?_)
      refine s_ltM (fun μ30 => ?_)
      refine s_aload_n hC.1 2 dL_law_329 rfl ?_
      refine s_aload_n hC.1 0 dL_law_330 rfl ?_
      refine s_iload_n hC.1 3 dL_law_331 rfl ?_
      refine s_iconst hC.1 dL_law_332 (v := 1) (by decide) ?_
      refine s_iadd hC.1 dL_law_333 ?_
      refine l_ald hC dL_law_334 ?_
      refine s_aload_n hC.1 0 dL_law_335 rfl ?_
      refine s_iload_n hC.1 3 dL_law_336 rfl ?_
      refine s_iconst hC.1 dL_law_337 (v := 2) (by decide) ?_
      refine s_iadd hC.1 dL_law_338 ?_
      refine l_ald hC dL_law_339 ?_
      refine l_callR hC (x := v6) (avs := [vI (xs ((v7 + (1 : Int32))).toNatClampNeg), vI (xs ((v7 + (2 : Int32))).toNatClampNeg)]) (st := [vI v28]) xc10 (m_X10_of hI.2 v6 (xs ((v7 + (1 : Int32))).toNatClampNeg) (xs ((v7 + (2 : Int32))).toNatClampNeg) μ30.2) dL_law_340 qm_L_31 qi_X10_of qs_X10_of qc_X10 qd_X10_of qh_X10_of (by decide) (fun _ => Nat.le_of_ble_eq_true rfl) (Nat.le_of_ble_eq_true rfl) (fun v31 w32 => ?_)
      refine s_ltM (fun μ33 => ?_)
      refine s_icmp_eq hC.1 dL_law_343 (tgt := 1466) (by decide) ?_ ?_
      · refine s_iinc hC.1 3 dL_law_1466 rfl (w := 6) (by decide) (by decide) (lv' := [(3, vI (v7 + (6 : Int32))), (0, vR v4), (1, vR v5), (2, vR v6)]) rfl ?_
        refine s_goto hC.1 dL_law_1469 (tgt := 18) (by decide) ?_
        refine s_lv (lv' := [(0, vR v4), (1, vR v5), (2, vR v6), (3, vI (v7 + (6 : Int32)))]) [1, 2, 3, 0] rfl ?_
        exact ih _ _ _ _ _
      exact s_none
    · refine s_aload_n hC.1 1 dL_law_348 rfl ?_
      refine s_aload_n hC.1 0 dL_law_349 rfl ?_
      refine s_iload_n hC.1 3 dL_law_350 rfl ?_
      refine s_iconst hC.1 dL_law_351 (v := 1) (by decide) ?_
      refine s_iadd hC.1 dL_law_352 ?_
      refine l_ald hC dL_law_353 ?_
      refine s_aload_n hC.1 0 dL_law_354 rfl ?_
      refine s_iload_n hC.1 3 dL_law_355 rfl ?_
      refine s_iconst hC.1 dL_law_356 (v := 2) (by decide) ?_
      refine s_iadd hC.1 dL_law_357 ?_
      refine l_ald hC dL_law_358 ?_
      refine s_aload_n hC.1 0 dL_law_359 rfl ?_
      refine s_iload_n hC.1 3 dL_law_360 rfl ?_
      refine s_iconst hC.1 dL_law_361 (v := 3) (by decide) ?_
      refine s_iadd hC.1 dL_law_362 ?_
      refine l_ald hC dL_law_363 ?_
      refine l_callC hC (x := v5) (avs := [vI (xs ((v7 + (1 : Int32))).toNatClampNeg), vI (xs ((v7 + (2 : Int32))).toNatClampNeg), vI (xs ((v7 + (3 : Int32))).toNatClampNeg)]) (st := []) xc9 (m_X9_set hI.1 v5 (xs ((v7 + (1 : Int32))).toNatClampNeg) (xs ((v7 + (2 : Int32))).toNatClampNeg) (xs ((v7 + (3 : Int32))).toNatClampNeg) μ8.1) dL_law_364 qm_L_32 qi_X9_set qs_X9_set qc_X9 qd_X9_set qh_X9_set (by decide) (fun _ => Nat.le_of_ble_eq_true rfl) (Nat.le_of_ble_eq_true rfl) (fun v34 w35 => ?_)
      refine s_ltM (fun μ36 => ?_)
      refine s_aload_n hC.1 2 dL_law_367 rfl ?_
      refine s_aload_n hC.1 0 dL_law_368 rfl ?_
      refine s_iload_n hC.1 3 dL_law_369 rfl ?_
      refine s_iconst hC.1 dL_law_370 (v := 1) (by decide) ?_
      refine s_iadd hC.1 dL_law_371 ?_
      refine l_ald hC dL_law_372 ?_
      refine s_aload_n hC.1 0 dL_law_373 rfl ?_
      refine s_iload_n hC.1 3 dL_law_374 rfl ?_
      refine s_iconst hC.1 dL_law_375 (v := 2) (by decide) ?_
      refine s_iadd hC.1 dL_law_376 ?_
      refine l_ald hC dL_law_377 ?_
      refine s_aload_n hC.1 0 dL_law_378 rfl ?_
      refine s_iload_n hC.1 3 dL_law_379 rfl ?_
      refine s_iconst hC.1 dL_law_380 (v := 3) (by decide) ?_
      refine s_iadd hC.1 dL_law_381 ?_
      refine l_ald hC dL_law_382 ?_
      refine l_callR hC (x := v6) (avs := [vI (xs ((v7 + (1 : Int32))).toNatClampNeg), vI (xs ((v7 + (2 : Int32))).toNatClampNeg), vI (xs ((v7 + (3 : Int32))).toNatClampNeg)]) (st := [vI v34]) xc10 (m_X10_set hI.2 v6 (xs ((v7 + (1 : Int32))).toNatClampNeg) (xs ((v7 + (2 : Int32))).toNatClampNeg) (xs ((v7 + (3 : Int32))).toNatClampNeg) μ36.2) dL_law_383 qm_L_35 qi_X10_set qs_X10_set qc_X10 qd_X10_set qh_X10_set (by decide) (fun _ => Nat.le_of_ble_eq_true rfl) (Nat.le_of_ble_eq_true rfl) (fun v37 w38 => ?_)
      refine s_ltM (fun μ39 => ?_)
      refine s_icmp_eq hC.1 dL_law_386 (tgt := 1466) (by decide) ?_ ?_
      · refine s_iinc hC.1 3 dL_law_1466 rfl (w := 6) (by decide) (by decide) (lv' := [(3, vI (v7 + (6 : Int32))), (0, vR v4), (1, vR v5), (2, vR v6)]) rfl ?_
        refine s_goto hC.1 dL_law_1469 (tgt := 18) (by decide) ?_
        refine s_lv (lv' := [(0, vR v4), (1, vR v5), (2, vR v6), (3, vI (v7 + (6 : Int32)))]) [1, 2, 3, 0] rfl ?_
        exact ih _ _ _ _ _
      exact s_none
    · refine s_aload_n hC.1 1 dL_law_391 rfl ?_
      refine s_aload_n hC.1 0 dL_law_392 rfl ?_
      refine s_iload_n hC.1 3 dL_law_393 rfl ?_
      refine s_iconst hC.1 dL_law_394 (v := 1) (by decide) ?_
      refine s_iadd hC.1 dL_law_395 ?_
      refine l_ald hC dL_law_396 ?_
      refine s_aload_n hC.1 0 dL_law_397 rfl ?_
      refine s_iload_n hC.1 3 dL_law_398 rfl ?_
      refine s_iconst hC.1 dL_law_399 (v := 2) (by decide) ?_
      refine s_iadd hC.1 dL_law_400 ?_
      refine l_ald hC dL_law_401 ?_
      refine s_aload_n hC.1 0 dL_law_402 rfl ?_
      refine s_iload_n hC.1 3 dL_law_403 rfl ?_
      refine s_iconst hC.1 dL_law_404 (v := 3) (by decide) ?_
      refine s_iadd hC.1 dL_law_405 ?_
      refine l_ald hC dL_law_406 ?_
      refine l_callC hC (x := v5) (avs := [vI (xs ((v7 + (1 : Int32))).toNatClampNeg), vI (xs ((v7 + (2 : Int32))).toNatClampNeg), vI (xs ((v7 + (3 : Int32))).toNatClampNeg)]) (st := []) xc9 (m_X9_row hI.1 v5 (xs ((v7 + (1 : Int32))).toNatClampNeg) (xs ((v7 + (2 : Int32))).toNatClampNeg) (xs ((v7 + (3 : Int32))).toNatClampNeg) μ8.1) dL_law_407 qm_L_36 qi_X9_row qs_X9_row qc_X9 qd_X9_row qh_X9_row (by decide) (fun _ => Nat.le_of_ble_eq_true rfl) (Nat.le_of_ble_eq_true rfl) (fun v40 w41 => ?_)
      refine s_ltM (fun μ42 => ?_)
      refine s_aload_n hC.1 2 dL_law_410 rfl ?_
      refine s_aload_n hC.1 0 dL_law_411 rfl ?_
      refine s_iload_n hC.1 3 dL_law_412 rfl ?_
      refine s_iconst hC.1 dL_law_413 (v := 1) (by decide) ?_
      refine s_iadd hC.1 dL_law_414 ?_
      refine l_ald hC dL_law_415 ?_
      refine s_aload_n hC.1 0 dL_law_416 rfl ?_
      refine s_iload_n hC.1 3 dL_law_417 rfl ?_
      refine s_iconst hC.1 dL_law_418 (v := 2) (by decide) ?_
      refine s_iadd hC.1 dL_law_419 ?_
      refine l_ald hC dL_law_420 ?_
      refine s_aload_n hC.1 0 dL_law_421 rfl ?_
      refine s_iload_n hC.1 3 dL_law_422 rfl ?_
      refine s_iconst hC.1 dL_law_423 (v := 3) (by decide) ?_
      refine s_iadd hC.1 dL_law_424 ?_
      refine l_ald hC dL_law_425 ?_
      refine l_callR hC (x := v6) (avs := [vI (xs ((v7 + (1 : Int32))).toNatClampNeg), vI (xs ((v7 + (2 : Int32))).toNatClampNeg), vI (xs ((v7 + (3 : Int32))).toNatClampNeg)]) (st := [vI v40]) xc10 (m_X10_row hI.2 v6 (xs ((v7 + (1 : Int32))).toNatClampNeg) (xs ((v7 + (2 : Int32))).toNatClampNeg) (xs ((v7 + (3 : Int32))).toNatClampNeg) μ42.2) dL_law_426 qm_L_39 qi_X10_row qs_X10_row qc_X10 qd_X10_row qh_X10_row (by decide) (fun _ => Nat.le_of_ble_eq_true rfl) (Nat.le_of_ble_eq_true rfl) (fun v43 w44 => ?_)
      refine s_ltM (fun μ45 => ?_)
      refine s_icmp_eq hC.1 dL_law_429 (tgt := 1466) (by decide) ?_ ?_
      · refine s_iinc hC.1 3 dL_law_1466 rfl (w := 6) (by decide) (by decide) (lv' := [(3, vI (v7 + (6 : Int32))), (0, vR v4), (1, vR v5), (2, vR v6)]) rfl ?_
        refine s_goto hC.1 dL_law_1469 (tgt := 18) (by decide) ?_
        refine s_lv (lv' := [(0, vR v4), (1, vR v5), (2, vR v6), (3, vI (v7 + (6 : Int32)))]) [1, 2, 3, 0] rfl ?_
        exact ih _ _ _ _ _
      exact s_none
    · refine s_aload_n hC.1 1 dL_law_434 rfl ?_
      refine s_aload_n hC.1 0 dL_law_435 rfl ?_
      refine s_iload_n hC.1 3 dL_law_436 rfl ?_
      refine s_iconst hC.1 dL_law_437 (v := 1) (by decide) ?_
      refine s_iadd hC.1 dL_law_438 ?_
      refine l_ald hC dL_law_439 ?_
      refine l_callC hC (x := v5) (avs := [vI (xs ((v7 + (1 : Int32))).toNatClampNeg)]) (st := []) xc9 (m_X9_water hI.1 v5 (xs ((v7 + (1 : Int32))).toNatClampNeg) μ8.1) dL_law_440 qm_L_40 qi_X9_water qs_X9_water qc_X9 qd_X9_water qh_X9_water (by decide) (fun _ => Nat.le_of_ble_eq_true rfl) (Nat.le_of_ble_eq_true rfl) (fun v46 w47 => ?_)
      refine s_ltM (fun μ48 => ?_)
      refine s_aload_n hC.1 2 dL_law_443 rfl ?_
      refine s_aload_n hC.1 0 dL_law_444 rfl ?_
      refine s_iload_n hC.1 3 dL_law_445 rfl ?_
      refine s_iconst hC.1 dL_law_446 (v := 1) (by decide) ?_
      refine s_iadd hC.1 dL_law_447 ?_
      refine l_ald hC dL_law_448 ?_
      refine l_callR hC (x := v6) (avs := [vI (xs ((v7 + (1 : Int32))).toNatClampNeg)]) (st := [vI v46]) xc10 (m_X10_water hI.2 v6 (xs ((v7 + (1 : Int32))).toNatClampNeg) μ48.2) dL_law_449 qm_L_43 qi_X10_water qs_X10_water qc_X10 qd_X10_water qh_X10_water (by decide) (fun _ => Nat.le_of_ble_eq_true rfl) (Nat.le_of_ble_eq_true rfl) (fun v49 w50 => ?_)
      refine s_ltM (fun μ51 => ?_)
      refine s_icmp_eq hC.1 dL_law_452 (tgt := 1466) (by decide) ?_ ?_
      · refine s_iinc hC.1 3 dL_law_1466 rfl (w := 6) (by decide) (by decide) (lv' := [(3, vI (v7 + (6 : Int32))), (0, vR v4), (1, vR v5), (2, vR v6)]) rfl ?_
        refine s_goto hC.1 dL_law_1469 (tgt := 18) (by decide) ?_
        refine s_lv (lv' := [(0, vR v4), (1, vR v5), (2, vR v6), (3, vI (v7 + (6 : Int32)))]) [1, 2, 3, 0] rfl ?_
        exact ih _ _ _ _ _
      exact s_none
    · refine s_aload_n hC.1 1 dL_law_457 rfl ?_
      refine s_aload_n hC.1 0 dL_law_458 rfl ?_
      refine s_iload_n hC.1 3 dL_law_459 rfl ?_
      refine s_iconst hC.1 dL_law_460 (v := 1) (by decide) ?_
      refine s_iadd hC.1 dL_law_461 ?_
      refine l_ald hC dL_law_462 ?_
      refine l_callC hC (x := v5) (avs := [vI (xs ((v7 + (1 : Int32))).toNatClampNeg)]) (st := []) xc9 (m_X9_feed hI.1 v5 (xs ((v7 + (1 : Int32))).toNatClampNeg) μ8.1) dL_law_463 qm_L_44 qi_X9_feed qs_X9_feed qc_X9 qd_X9_feed qh_X9_feed (by decide) (fun _ => Nat.le_of_ble_eq_true rfl) (Nat.le_of_ble_eq_true rfl) (fun v52 w53 => ?_)
      refine s_ltM (fun μ54 => ?_)
      refine s_aload_n hC.1 2 dL_law_466 rfl ?_
      refine s_aload_n hC.1 0 dL_law_467 rfl ?_
      refine s_iload_n hC.1 3 dL_law_468 rfl ?_
      refine s_iconst hC.1 dL_law_469 (v := 1) (by decide) ?_
      refine s_iadd hC.1 dL_law_470 ?_
      refine l_ald hC dL_law_471 ?_
      refine l_callR hC (x := v6) (avs := [vI (xs ((v7 + (1 : Int32))).toNatClampNeg)]) (st := [vI v52]) xc10 (m_X10_feed hI.2 v6 (xs ((v7 + (1 : Int32))).toNatClampNeg) μ54.2) dL_law_472 qm_L_47 qi_X10_feed qs_X10_feed qc_X10 qd_X10_feed qh_X10_feed (by decide) (fun _ => Nat.le_of_ble_eq_true rfl) (Nat.le_of_ble_eq_true rfl) (fun v55 w56 => ?_)
      refine s_ltM (fun μ57 => ?_)
      refine s_icmp_eq hC.1 dL_law_475 (tgt := 1466) (by decide) ?_ ?_
      · refine s_iinc hC.1 3 dL_law_1466 rfl (w := 6) (by decide) (by decide) (lv' := [(3, vI (v7 + (6 : Int32))), (0, vR v4), (1, vR v5), (2, vR v6)]) rfl ?_
        refine s_goto hC.1 dL_law_1469 (tgt := 18) (by decide) ?_
        refine s_lv (lv' := [(0, vR v4), (1, vR v5), (2, vR v6), (3, vI (v7 + (6 : Int32)))]) [1, 2, 3, 0] rfl ?_
        exact ih _ _ _ _ _
      exact s_none
    · refine s_aload_n hC.1 1 dL_law_480 rfl ?_
      refine l_callC hC (x := v5) (avs := []) (st := []) xc9 (m_X9_law hI.1 v5 μ8.1) dL_law_481 qm_L_48 qi_X9_law qs_X9_law qc_X9 qd_X9_law qh_X9_law (by decide) (fun _ => Nat.le_of_ble_eq_true rfl) (Nat.le_of_ble_eq_true rfl) (fun v58 w59 => ?_)
      refine s_ltM (fun μ60 => ?_)
      refine s_aload_n hC.1 2 dL_law_484 rfl ?_
      refine l_callR hC (x := v6) (avs := []) (st := [vI v58]) xc10 (m_X10_law hI.2 v6 μ60.2) dL_law_485 qm_L_52 qi_X10_law qs_X10_law qc_X10 qd_X10_law qh_X10_law (by decide) (fun _ => Nat.le_of_ble_eq_true rfl) (Nat.le_of_ble_eq_true rfl) (fun v61 w62 => ?_)
      refine s_ltM (fun μ63 => ?_)
      refine s_icmp_eq hC.1 dL_law_488 (tgt := 1466) (by decide) ?_ ?_
      · refine s_iinc hC.1 3 dL_law_1466 rfl (w := 6) (by decide) (by decide) (lv' := [(3, vI (v7 + (6 : Int32))), (0, vR v4), (1, vR v5), (2, vR v6)]) rfl ?_
        refine s_goto hC.1 dL_law_1469 (tgt := 18) (by decide) ?_
        refine s_lv (lv' := [(0, vR v4), (1, vR v5), (2, vR v6), (3, vI (v7 + (6 : Int32)))]) [1, 2, 3, 0] rfl ?_
        exact ih _ _ _ _ _
      exact s_none
    · refine s_aload_n hC.1 1 dL_law_493 rfl ?_
      refine s_aload_n hC.1 0 dL_law_494 rfl ?_
      refine s_iload_n hC.1 3 dL_law_495 rfl ?_
      refine s_iconst hC.1 dL_law_496 (v := 1) (by decide) ?_
      refine s_iadd hC.1 dL_law_497 ?_
      refine l_ald hC dL_law_498 ?_
      refine l_callC hC (x := v5) (avs := [vI (xs ((v7 + (1 : Int32))).toNatClampNeg)]) (st := []) xc9 (m_X9_told hI.1 v5 (xs ((v7 + (1 : Int32))).toNatClampNeg) μ8.1) dL_law_499 qm_L_53 qi_X9_told qs_X9_told qc_X9 qd_X9_told qh_X9_told (by decide) (fun _ => Nat.le_of_ble_eq_true rfl) (Nat.le_of_ble_eq_true rfl) (fun v64 w65 => ?_)
      refine s_ltM (fun μ66 => ?_)
      refine s_aload_n hC.1 2 dL_law_502 rfl ?_
      refine s_aload_n hC.1 0 dL_law_503 rfl ?_
      refine s_iload_n hC.1 3 dL_law_504 rfl ?_
      refine s_iconst hC.1 dL_law_505 (v := 1) (by decide) ?_
      refine s_iadd hC.1 dL_law_506 ?_
      refine l_ald hC dL_law_507 ?_
      refine l_callR hC (x := v6) (avs := [vI (xs ((v7 + (1 : Int32))).toNatClampNeg)]) (st := [vI v64]) xc10 (m_X10_told hI.2 v6 (xs ((v7 + (1 : Int32))).toNatClampNeg) μ66.2) dL_law_508 qm_L_56 qi_X10_told qs_X10_told qc_X10 qd_X10_told qh_X10_told (by decide) (fun _ => Nat.le_of_ble_eq_true rfl) (Nat.le_of_ble_eq_true rfl) (fun v67 w68 => ?_)
      refine s_ltM (fun μ69 => ?_)
      refine s_icmp_eq hC.1 dL_law_511 (tgt := 1466) (by decide) ?_ ?_
      · refine s_iinc hC.1 3 dL_law_1466 rfl (w := 6) (by decide) (by decide) (lv' := [(3, vI (v7 + (6 : Int32))), (0, vR v4), (1, vR v5), (2, vR v6)]) rfl ?_
        refine s_goto hC.1 dL_law_1469 (tgt := 18) (by decide) ?_
        refine s_lv (lv' := [(0, vR v4), (1, vR v5), (2, vR v6), (3, vI (v7 + (6 : Int32)))]) [1, 2, 3, 0] rfl ?_
        exact ih _ _ _ _ _
      exact s_none
    · refine s_aload_n hC.1 1 dL_law_516 rfl ?_
      refine l_callC hC (x := v5) (avs := []) (st := []) xc9 (m_X9_day hI.1 v5 μ8.1) dL_law_517 qm_L_57 qi_X9_day qs_X9_day qc_X9 qd_X9_day qh_X9_day (by decide) (fun _ => Nat.le_of_ble_eq_true rfl) (Nat.le_of_ble_eq_true rfl) (fun v70 w71 => ?_)
      refine s_ltM (fun μ72 => ?_)
      refine s_aload_n hC.1 2 dL_law_520 rfl ?_
      refine l_callR hC (x := v6) (avs := []) (st := [vI v70]) xc10 (m_X10_day hI.2 v6 μ72.2) dL_law_521 qm_L_60 qi_X10_day qs_X10_day qc_X10 qd_X10_day qh_X10_day (by decide) (fun _ => Nat.le_of_ble_eq_true rfl) (Nat.le_of_ble_eq_true rfl) (fun v73 w74 => ?_)
      refine s_ltM (fun μ75 => ?_)
      refine s_icmp_eq hC.1 dL_law_524 (tgt := 1466) (by decide) ?_ ?_
      · refine s_iinc hC.1 3 dL_law_1466 rfl (w := 6) (by decide) (by decide) (lv' := [(3, vI (v7 + (6 : Int32))), (0, vR v4), (1, vR v5), (2, vR v6)]) rfl ?_
        refine s_goto hC.1 dL_law_1469 (tgt := 18) (by decide) ?_
        refine s_lv (lv' := [(0, vR v4), (1, vR v5), (2, vR v6), (3, vI (v7 + (6 : Int32)))]) [1, 2, 3, 0] rfl ?_
        exact ih _ _ _ _ _
      exact s_none
    · refine s_aload_n hC.1 1 dL_law_529 rfl ?_
      refine s_aload_n hC.1 0 dL_law_530 rfl ?_
      refine s_iload_n hC.1 3 dL_law_531 rfl ?_
      refine s_iconst hC.1 dL_law_532 (v := 1) (by decide) ?_
      refine s_iadd hC.1 dL_law_533 ?_
      refine l_ald hC dL_law_534 ?_
      refine s_aload_n hC.1 0 dL_law_535 rfl ?_
      refine s_iload_n hC.1 3 dL_law_536 rfl ?_
      refine s_iconst hC.1 dL_law_537 (v := 2) (by decide) ?_
      refine s_iadd hC.1 dL_law_538 ?_
      refine l_ald hC dL_law_539 ?_
      refine l_callC hC (x := v5) (avs := [vI (xs ((v7 + (1 : Int32))).toNatClampNeg), vI (xs ((v7 + (2 : Int32))).toNatClampNeg)]) (st := []) xc9 (m_X9_on hI.1 v5 (xs ((v7 + (1 : Int32))).toNatClampNeg) (xs ((v7 + (2 : Int32))).toNatClampNeg) μ8.1) dL_law_540 qm_L_61 qi_X9_on qs_X9_on qc_X9 qd_X9_on qh_X9_on (by decide) (fun _ => Nat.le_of_ble_eq_true rfl) (Nat.le_of_ble_eq_true rfl) (fun v76 w77 => ?_)
      refine s_ltM (fun μ78 => ?_)
      refine s_aload_n hC.1 2 dL_law_543 rfl ?_
      refine s_aload_n hC.1 0 dL_law_544 rfl ?_
      refine s_iload_n hC.1 3 dL_law_545 rfl ?_
      refine s_iconst hC.1 dL_law_546 (v := 1) (by decide) ?_
      refine s_iadd hC.1 dL_law_547 ?_
      refine l_ald hC dL_law_548 ?_
      refine s_aload_n hC.1 0 dL_law_549 rfl ?_
      refine s_iload_n hC.1 3 dL_law_550 rfl ?_
      refine s_iconst hC.1 dL_law_551 (v := 2) (by decide) ?_
      refine s_iadd hC.1 dL_law_552 ?_
      refine l_ald hC dL_law_553 ?_
      refine l_callR hC (x := v6) (avs := [vI (xs ((v7 + (1 : Int32))).toNatClampNeg), vI (xs ((v7 + (2 : Int32))).toNatClampNeg)]) (st := [vI v76]) xc10 (m_X10_on hI.2 v6 (xs ((v7 + (1 : Int32))).toNatClampNeg) (xs ((v7 + (2 : Int32))).toNatClampNeg) μ78.2) dL_law_554 qm_L_64 qi_X10_on qs_X10_on qc_X10 qd_X10_on qh_X10_on (by decide) (fun _ => Nat.le_of_ble_eq_true rfl) (Nat.le_of_ble_eq_true rfl) (fun v79 w80 => ?_)
      refine s_ltM (fun μ81 => ?_)
      refine s_icmp_eq hC.1 dL_law_557 (tgt := 1466) (by decide) ?_ ?_
      · refine s_iinc hC.1 3 dL_law_1466 rfl (w := 6) (by decide) (by decide) (lv' := [(3, vI (v7 + (6 : Int32))), (0, vR v4), (1, vR v5), (2, vR v6)]) rfl ?_
        refine s_goto hC.1 dL_law_1469 (tgt := 18) (by decide) ?_
        refine s_lv (lv' := [(0, vR v4), (1, vR v5), (2, vR v6), (3, vI (v7 + (6 : Int32)))]) [1, 2, 3, 0] rfl ?_
        exact ih _ _ _ _ _
      exact s_none
    · refine s_aload_n hC.1 1 dL_law_562 rfl ?_
      refine l_callC hC (x := v5) (avs := []) (st := []) xc9 (m_X9_dry hI.1 v5 μ8.1) dL_law_563 qm_L_65 qi_X9_dry qs_X9_dry qc_X9 qd_X9_dry qh_X9_dry (by decide) (fun _ => Nat.le_of_ble_eq_true rfl) (Nat.le_of_ble_eq_true rfl) (fun v82 w83 => ?_)
      refine s_ltM (fun μ84 => ?_)
      refine s_aload_n hC.1 2 dL_law_566 rfl ?_
      refine l_callR hC (x := v6) (avs := []) (st := [vI v82]) xc10 (m_X10_dry hI.2 v6 μ84.2) dL_law_567 qm_L_68 qi_X10_dry qs_X10_dry qc_X10 qd_X10_dry qh_X10_dry (by decide) (fun _ => Nat.le_of_ble_eq_true rfl) (Nat.le_of_ble_eq_true rfl) (fun v85 w86 => ?_)
      refine s_ltM (fun μ87 => ?_)
      refine s_icmp_eq hC.1 dL_law_570 (tgt := 1466) (by decide) ?_ ?_
      · refine s_iinc hC.1 3 dL_law_1466 rfl (w := 6) (by decide) (by decide) (lv' := [(3, vI (v7 + (6 : Int32))), (0, vR v4), (1, vR v5), (2, vR v6)]) rfl ?_
        refine s_goto hC.1 dL_law_1469 (tgt := 18) (by decide) ?_
        refine s_lv (lv' := [(0, vR v4), (1, vR v5), (2, vR v6), (3, vI (v7 + (6 : Int32)))]) [1, 2, 3, 0] rfl ?_
        exact ih _ _ _ _ _
      exact s_none
    · refine s_aload_n hC.1 1 dL_law_575 rfl ?_
      refine s_aload_n hC.1 0 dL_law_576 rfl ?_
      refine s_iload_n hC.1 3 dL_law_577 rfl ?_
      refine s_iconst hC.1 dL_law_578 (v := 1) (by decide) ?_
      refine s_iadd hC.1 dL_law_579 ?_
      refine l_ald hC dL_law_580 ?_
      refine l_callC hC (x := v5) (avs := [vI (xs ((v7 + (1 : Int32))).toNatClampNeg)]) (st := []) xc9 (m_X9_lowest hI.1 v5 (xs ((v7 + (1 : Int32))).toNatClampNeg) μ8.1) dL_law_581 qm_L_69 qi_X9_lowest qs_X9_lowest qc_X9 qd_X9_lowest qh_X9_lowest (by decide) (fun _ => Nat.le_of_ble_eq_true rfl) (Nat.le_of_ble_eq_true rfl) (fun v88 w89 => ?_)
      refine s_ltM (fun μ90 => ?_)
      refine s_aload_n hC.1 2 dL_law_584 rfl ?_
      refine s_aload_n hC.1 0 dL_law_585 rfl ?_
      refine s_iload_n hC.1 3 dL_law_586 rfl ?_
      refine s_iconst hC.1 dL_law_587 (v := 1) (by decide) ?_
      refine s_iadd hC.1 dL_law_588 ?_
      refine l_ald hC dL_law_589 ?_
      refine l_callR hC (x := v6) (avs := [vI (xs ((v7 + (1 : Int32))).toNatClampNeg)]) (st := [vI v88]) xc10 (m_X10_lowest hI.2 v6 (xs ((v7 + (1 : Int32))).toNatClampNeg) μ90.2) dL_law_590 qm_L_72 qi_X10_lowest qs_X10_lowest qc_X10 qd_X10_lowest qh_X10_lowest (by decide) (fun _ => Nat.le_of_ble_eq_true rfl) (Nat.le_of_ble_eq_true rfl) (fun v91 w92 => ?_)
      refine s_ltM (fun μ93 => ?_)
      refine s_icmp_eq hC.1 dL_law_593 (tgt := 1466) (by decide) ?_ ?_
      · refine s_iinc hC.1 3 dL_law_1466 rfl (w := 6) (by decide) (by decide) (lv' := [(3, vI (v7 + (6 : Int32))), (0, vR v4), (1, vR v5), (2, vR v6)]) rfl ?_
        refine s_goto hC.1 dL_law_1469 (tgt := 18) (by decide) ?_
        refine s_lv (lv' := [(0, vR v4), (1, vR v5), (2, vR v6), (3, vI (v7 + (6 : Int32)))]) [1, 2, 3, 0] rfl ?_
        exact ih _ _ _ _ _
      exact s_none
    · refine s_aload_n hC.1 1 dL_law_598 rfl ?_
      refine s_aload_n hC.1 0 dL_law_599 rfl ?_
      refine s_iload_n hC.1 3 dL_law_600 rfl ?_
      refine s_iconst hC.1 dL_law_601 (v := 1) (by decide) ?_
      refine s_iadd hC.1 dL_law_602 ?_
      refine l_ald hC dL_law_603 ?_
      refine l_callC hC (x := v5) (avs := [vI (xs ((v7 + (1 : Int32))).toNatClampNeg)]) (st := []) xc9 (m_X9_ruined hI.1 v5 (xs ((v7 + (1 : Int32))).toNatClampNeg) μ8.1) dL_law_604 qm_L_73 qi_X9_ruined qs_X9_ruined qc_X9 qd_X9_ruined qh_X9_ruined (by decide) (fun _ => Nat.le_of_ble_eq_true rfl) (Nat.le_of_ble_eq_true rfl) (fun v94 w95 => ?_)
      refine s_ltM (fun μ96 => ?_)
      refine s_aload_n hC.1 2 dL_law_607 rfl ?_
      refine s_aload_n hC.1 0 dL_law_608 rfl ?_
      refine s_iload_n hC.1 3 dL_law_609 rfl ?_
      refine s_iconst hC.1 dL_law_610 (v := 1) (by decide) ?_
      refine s_iadd hC.1 dL_law_611 ?_
      refine l_ald hC dL_law_612 ?_
      refine l_callR hC (x := v6) (avs := [vI (xs ((v7 + (1 : Int32))).toNatClampNeg)]) (st := [vI v94]) xc10 (m_X10_ruined hI.2 v6 (xs ((v7 + (1 : Int32))).toNatClampNeg) μ96.2) dL_law_613 qm_L_76 qi_X10_ruined qs_X10_ruined qc_X10 qd_X10_ruined qh_X10_ruined (by decide) (fun _ => Nat.le_of_ble_eq_true rfl) (Nat.le_of_ble_eq_true rfl) (fun v97 w98 => ?_)
      refine s_ltM (fun μ99 => ?_)
      refine s_icmp_eq hC.1 dL_law_616 (tgt := 1466) (by decide) ?_ ?_
      · refine s_iinc hC.1 3 dL_law_1466 rfl (w := 6) (by decide) (by decide) (lv' := [(3, vI (v7 + (6 : Int32))), (0, vR v4), (1, vR v5), (2, vR v6)]) rfl ?_
        refine s_goto hC.1 dL_law_1469 (tgt := 18) (by decide) ?_
        refine s_lv (lv' := [(0, vR v4), (1, vR v5), (2, vR v6), (3, vI (v7 + (6 : Int32)))]) [1, 2, 3, 0] rfl ?_
        exact ih _ _ _ _ _
      exact s_none
    · refine s_aload_n hC.1 1 dL_law_621 rfl ?_
      refine s_aload_n hC.1 0 dL_law_622 rfl ?_
      refine s_iload_n hC.1 3 dL_law_623 rfl ?_
      refine s_iconst hC.1 dL_law_624 (v := 1) (by decide) ?_
      refine s_iadd hC.1 dL_law_625 ?_
      refine l_ald hC dL_law_626 ?_
      refine s_aload_n hC.1 0 dL_law_627 rfl ?_
      refine s_iload_n hC.1 3 dL_law_628 rfl ?_
      refine s_iconst hC.1 dL_law_629 (v := 2) (by decide) ?_
      refine s_iadd hC.1 dL_law_630 ?_
      refine l_ald hC dL_law_631 ?_
      refine l_callC hC (x := v5) (avs := [vI (xs ((v7 + (1 : Int32))).toNatClampNeg), vI (xs ((v7 + (2 : Int32))).toNatClampNeg)]) (st := []) xc9 (m_X9_may hI.1 v5 (xs ((v7 + (1 : Int32))).toNatClampNeg) (xs ((v7 + (2 : Int32))).toNatClampNeg) μ8.1) dL_law_632 qm_L_77 qi_X9_may qs_X9_may qc_X9 qd_X9_may qh_X9_may (by decide) (fun _ => Nat.le_of_ble_eq_true rfl) (Nat.le_of_ble_eq_true rfl) (fun v100 w101 => ?_)
      refine s_ltM (fun μ102 => ?_)
      refine s_aload_n hC.1 2 dL_law_635 rfl ?_
      refine s_aload_n hC.1 0 dL_law_636 rfl ?_
      refine s_iload_n hC.1 3 dL_law_637 rfl ?_
      refine s_iconst hC.1 dL_law_638 (v := 1) (by decide) ?_
      refine s_iadd hC.1 dL_law_639 ?_
      refine l_ald hC dL_law_640 ?_
      refine s_aload_n hC.1 0 dL_law_641 rfl ?_
      refine s_iload_n hC.1 3 dL_law_642 rfl ?_
      refine s_iconst hC.1 dL_law_643 (v := 2) (by decide) ?_
      refine s_iadd hC.1 dL_law_644 ?_
      refine l_ald hC dL_law_645 ?_
      refine l_callR hC (x := v6) (avs := [vI (xs ((v7 + (1 : Int32))).toNatClampNeg), vI (xs ((v7 + (2 : Int32))).toNatClampNeg)]) (st := [vI v100]) xc10 (m_X10_may hI.2 v6 (xs ((v7 + (1 : Int32))).toNatClampNeg) (xs ((v7 + (2 : Int32))).toNatClampNeg) μ102.2) dL_law_646 qm_L_80 qi_X10_may qs_X10_may qc_X10 qd_X10_may qh_X10_may (by decide) (fun _ => Nat.le_of_ble_eq_true rfl) (Nat.le_of_ble_eq_true rfl) (fun v103 w104 => ?_)
      refine s_ltM (fun μ105 => ?_)
      refine s_icmp_eq hC.1 dL_law_649 (tgt := 1466) (by decide) ?_ ?_
      · refine s_iinc hC.1 3 dL_law_1466 rfl (w := 6) (by decide) (by decide) (lv' := [(3, vI (v7 + (6 : Int32))), (0, vR v4), (1, vR v5), (2, vR v6)]) rfl ?_
        refine s_goto hC.1 dL_law_1469 (tgt := 18) (by decide) ?_
        refine s_lv (lv' := [(0, vR v4), (1, vR v5), (2, vR v6), (3, vI (v7 + (6 : Int32)))]) [1, 2, 3, 0] rfl ?_
        exact ih _ _ _ _ _
      exact s_none
    · refine s_aload_n hC.1 1 dL_law_654 rfl ?_
      refine s_aload_n hC.1 0 dL_law_655 rfl ?_
      refine s_iload_n hC.1 3 dL_law_656 rfl ?_
      refine s_iconst hC.1 dL_law_657 (v := 1) (by decide) ?_
      refine s_iadd hC.1 dL_law_658 ?_
      refine l_ald hC dL_law_659 ?_
      refine s_aload_n hC.1 0 dL_law_660 rfl ?_
      refine s_iload_n hC.1 3 dL_law_661 rfl ?_
      refine s_iconst hC.1 dL_law_662 (v := 2) (by decide) ?_
      refine s_iadd hC.1 dL_law_663 ?_
      refine l_ald hC dL_law_664 ?_
      refine l_callC hC (x := v5) (avs := [vI (xs ((v7 + (1 : Int32))).toNatClampNeg), vI (xs ((v7 + (2 : Int32))).toNatClampNeg)]) (st := []) xc9 (m_X9_enough hI.1 v5 (xs ((v7 + (1 : Int32))).toNatClampNeg) (xs ((v7 + (2 : Int32))).toNatClampNeg) μ8.1) dL_law_665 qm_L_81 qi_X9_enough qs_X9_enough qc_X9 qd_X9_enough qh_X9_enough (by decide) (fun _ => Nat.le_of_ble_eq_true rfl) (Nat.le_of_ble_eq_true rfl) (fun v106 w107 => ?_)
      refine s_ltM (fun μ108 => ?_)
      refine s_aload_n hC.1 2 dL_law_668 rfl ?_
      refine s_aload_n hC.1 0 dL_law_669 rfl ?_
      refine s_iload_n hC.1 3 dL_law_670 rfl ?_
      refine s_iconst hC.1 dL_law_671 (v := 1) (by decide) ?_
      refine s_iadd hC.1 dL_law_672 ?_
      refine l_ald hC dL_law_673 ?_
      refine s_aload_n hC.1 0 dL_law_674 rfl ?_
      refine s_iload_n hC.1 3 dL_law_675 rfl ?_
      refine s_iconst hC.1 dL_law_676 (v := 2) (by decide) ?_
      refine s_iadd hC.1 dL_law_677 ?_
      refine l_ald hC dL_law_678 ?_
      refine l_callR hC (x := v6) (avs := [vI (xs ((v7 + (1 : Int32))).toNatClampNeg), vI (xs ((v7 + (2 : Int32))).toNatClampNeg)]) (st := [vI v106]) xc10 (m_X10_enough hI.2 v6 (xs ((v7 + (1 : Int32))).toNatClampNeg) (xs ((v7 + (2 : Int32))).toNatClampNeg) μ108.2) dL_law_679 qm_L_84 qi_X10_enough qs_X10_enough qc_X10 qd_X10_enough qh_X10_enough (by decide) (fun _ => Nat.le_of_ble_eq_true rfl) (Nat.le_of_ble_eq_true rfl) (fun v109 w110 => ?_)
      refine s_ltM (fun μ111 => ?_)
      refine s_icmp_eq hC.1 dL_law_682 (tgt := 1466) (by decide) ?_ ?_
      · refine s_iinc hC.1 3 dL_law_1466 rfl (w := 6) (by decide) (by decide) (lv' := [(3, vI (v7 + (6 : Int32))), (0, vR v4), (1, vR v5), (2, vR v6)]) rfl ?_
        refine s_goto hC.1 dL_law_1469 (tgt := 18) (by decide) ?_
        refine s_lv (lv' := [(0, vR v4), (1, vR v5), (2, vR v6), (3, vI (v7 + (6 : Int32)))]) [1, 2, 3, 0] rfl ?_
        exact ih _ _ _ _ _
      exact s_none
    · refine s_aload_n hC.1 1 dL_law_687 rfl ?_
      refine l_callC hC (x := v5) (avs := []) (st := []) xc9 (m_X9_lifted hI.1 v5 μ8.1) dL_law_688 qm_L_85 qi_X9_lifted qs_X9_lifted qc_X9 qd_X9_lifted qh_X9_lifted (by decide) (fun _ => Nat.le_of_ble_eq_true rfl) (Nat.le_of_ble_eq_true rfl) (fun v112 w113 => ?_)
      refine s_ltM (fun μ114 => ?_)
      refine s_aload_n hC.1 2 dL_law_691 rfl ?_
      refine l_callR hC (x := v6) (avs := []) (st := [vI v112]) xc10 (m_X10_lifted hI.2 v6 μ114.2) dL_law_692 qm_L_88 qi_X10_lifted qs_X10_lifted qc_X10 qd_X10_lifted qh_X10_lifted (by decide) (fun _ => Nat.le_of_ble_eq_true rfl) (Nat.le_of_ble_eq_true rfl) (fun v115 w116 => ?_)
      refine s_ltM (fun μ117 => ?_)
      refine s_icmp_eq hC.1 dL_law_695 (tgt := 1466) (by decide) ?_ ?_
      · refine s_iinc hC.1 3 dL_law_1466 rfl (w := 6) (by decide) (by decide) (lv' := [(3, vI (v7 + (6 : Int32))), (0, vR v4), (1, vR v5), (2, vR v6)]) rfl ?_
        refine s_goto hC.1 dL_law_1469 (tgt := 18) (by decide) ?_
        refine s_lv (lv' := [(0, vR v4), (1, vR v5), (2, vR v6), (3, vI (v7 + (6 : Int32)))]) [1, 2, 3, 0] rfl ?_
        exact ih _ _ _ _ _
      exact s_none
    · refine s_aload_n hC.1 1 dL_law_700 rfl ?_
      refine s_aload_n hC.1 0 dL_law_701 rfl ?_
      refine s_iload_n hC.1 3 dL_law_702 rfl ?_
      refine s_iconst hC.1 dL_law_703 (v := 1) (by decide) ?_
      refine s_iadd hC.1 dL_law_704 ?_
      refine l_ald hC dL_law_705 ?_
      refine s_aload_n hC.1 0 dL_law_706 rfl ?_
      refine s_iload_n hC.1 3 dL_law_707 rfl ?_
      refine s_iconst hC.1 dL_law_708 (v := 2) (by decide) ?_
      refine s_iadd hC.1 dL_law_709 ?_
      refine l_ald hC dL_law_710 ?_
      refine l_callC hC (x := v5) (avs := [vI (xs ((v7 + (1 : Int32))).toNatClampNeg), vI (xs ((v7 + (2 : Int32))).toNatClampNeg)]) (st := []) xc9 (m_X9_without hI.1 v5 (xs ((v7 + (1 : Int32))).toNatClampNeg) (xs ((v7 + (2 : Int32))).toNatClampNeg) μ8.1) dL_law_711 qm_L_89 qi_X9_without qs_X9_without qc_X9 qd_X9_without qh_X9_without (by decide) (fun _ => Nat.le_of_ble_eq_true rfl) (Nat.le_of_ble_eq_true rfl) (fun v118 w119 => ?_)
      refine s_ltM (fun μ120 => ?_)
      refine s_aload_n hC.1 2 dL_law_714 rfl ?_
      refine s_aload_n hC.1 0 dL_law_715 rfl ?_
      refine s_iload_n hC.1 3 dL_law_716 rfl ?_
      refine s_iconst hC.1 dL_law_717 (v := 1) (by decide) ?_
      refine s_iadd hC.1 dL_law_718 ?_
      refine l_ald hC dL_law_719 ?_
      refine s_aload_n hC.1 0 dL_law_720 rfl ?_
      refine s_iload_n hC.1 3 dL_law_721 rfl ?_
      refine s_iconst hC.1 dL_law_722 (v := 2) (by decide) ?_
      refine s_iadd hC.1 dL_law_723 ?_
      refine l_ald hC dL_law_724 ?_
      refine l_callR hC (x := v6) (avs := [vI (xs ((v7 + (1 : Int32))).toNatClampNeg), vI (xs ((v7 + (2 : Int32))).toNatClampNeg)]) (st := [vI v118]) xc10 (m_X10_without hI.2 v6 (xs ((v7 + (1 : Int32))).toNatClampNeg) (xs ((v7 + (2 : Int32))).toNatClampNeg) μ120.2) dL_law_725 qm_L_92 qi_X10_without qs_X10_without qc_X10 qd_X10_without qh_X10_without (by decide) (fun _ => Nat.le_of_ble_eq_true rfl) (Nat.le_of_ble_eq_true rfl) (fun v121 w122 => ?_)
      refine s_ltM (fun μ123 => ?_)
      refine s_icmp_eq hC.1 dL_law_728 (tgt := 1466) (by decide) ?_ ?_
      · refine s_iinc hC.1 3 dL_law_1466 rfl (w := 6) (by decide) (by decide) (lv' := [(3, vI (v7 + (6 : Int32))), (0, vR v4), (1, vR v5), (2, vR v6)]) rfl ?_
        refine s_goto hC.1 dL_law_1469 (tgt := 18) (by decide) ?_
        refine s_lv (lv' := [(0, vR v4), (1, vR v5), (2, vR v6), (3, vI (v7 + (6 : Int32)))]) [1, 2, 3, 0] rfl ?_
        exact ih _ _ _ _ _
      exact s_none
    · refine s_aload_n hC.1 1 dL_law_733 rfl ?_
      refine s_aload_n hC.1 0 dL_law_734 rfl ?_
      refine s_iload_n hC.1 3 dL_law_735 rfl ?_
      refine s_iconst hC.1 dL_law_736 (v := 1) (by decide) ?_
      refine s_iadd hC.1 dL_law_737 ?_
      refine l_ald hC dL_law_738 ?_
      refine l_callC hC (x := v5) (avs := [vI (xs ((v7 + (1 : Int32))).toNatClampNeg)]) (st := []) xc9 (m_X9_wells hI.1 v5 (xs ((v7 + (1 : Int32))).toNatClampNeg) μ8.1) dL_law_739 qm_L_93 qi_X9_wells qs_X9_wells qc_X9 qd_X9_wells qh_X9_wells (by decide) (fun _ => Nat.le_of_ble_eq_true rfl) (Nat.le_of_ble_eq_true rfl) (fun v124 w125 => ?_)
      refine s_ltM (fun μ126 => ?_)
      refine s_aload_n hC.1 2 dL_law_742 rfl ?_
      refine s_aload_n hC.1 0 dL_law_743 rfl ?_
      refine s_iload_n hC.1 3 dL_law_744 rfl ?_
      refine s_iconst hC.1 dL_law_745 (v := 1) (by decide) ?_
      refine s_iadd hC.1 dL_law_746 ?_
      refine l_ald hC dL_law_747 ?_
      refine l_callR hC (x := v6) (avs := [vI (xs ((v7 + (1 : Int32))).toNatClampNeg)]) (st := [vI v124]) xc10 (m_X10_wells hI.2 v6 (xs ((v7 + (1 : Int32))).toNatClampNeg) μ126.2) dL_law_748 qm_L_96 qi_X10_wells qs_X10_wells qc_X10 qd_X10_wells qh_X10_wells (by decide) (fun _ => Nat.le_of_ble_eq_true rfl) (Nat.le_of_ble_eq_true rfl) (fun v127 w128 => ?_)
      refine s_ltM (fun μ129 => ?_)
      refine s_icmp_eq hC.1 dL_law_751 (tgt := 1466) (by decide) ?_ ?_
      · refine s_iinc hC.1 3 dL_law_1466 rfl (w := 6) (by decide) (by decide) (lv' := [(3, vI (v7 + (6 : Int32))), (0, vR v4), (1, vR v5), (2, vR v6)]) rfl ?_
        refine s_goto hC.1 dL_law_1469 (tgt := 18) (by decide) ?_
        refine s_lv (lv' := [(0, vR v4), (1, vR v5), (2, vR v6), (3, vI (v7 + (6 : Int32)))]) [1, 2, 3, 0] rfl ?_
        exact ih _ _ _ _ _
      exact s_none
    · refine s_aload_n hC.1 1 dL_law_756 rfl ?_
      refine s_aload_n hC.1 0 dL_law_757 rfl ?_
      refine s_iload_n hC.1 3 dL_law_758 rfl ?_
      refine s_iconst hC.1 dL_law_759 (v := 1) (by decide) ?_
      refine s_iadd hC.1 dL_law_760 ?_
      refine l_ald hC dL_law_761 ?_
      refine s_aload_n hC.1 0 dL_law_762 rfl ?_
      refine s_iload_n hC.1 3 dL_law_763 rfl ?_
      refine s_iconst hC.1 dL_law_764 (v := 2) (by decide) ?_
      refine s_iadd hC.1 dL_law_765 ?_
      refine l_ald hC dL_law_766 ?_
      refine s_aload_n hC.1 0 dL_law_767 rfl ?_
      refine s_iload_n hC.1 3 dL_law_768 rfl ?_
      refine s_iconst hC.1 dL_law_769 (v := 3) (by decide) ?_
      refine s_iadd hC.1 dL_law_770 ?_
      refine l_ald hC dL_law_771 ?_
      refine l_callC hC (x := v5) (avs := [vI (xs ((v7 + (1 : Int32))).toNatClampNeg), vI (xs ((v7 + (2 : Int32))).toNatClampNeg), vI (xs ((v7 + (3 : Int32))).toNatClampNeg)]) (st := []) xc9 (m_X9_share hI.1 v5 (xs ((v7 + (1 : Int32))).toNatClampNeg) (xs ((v7 + (2 : Int32))).toNatClampNeg) (xs ((v7 + (3 : Int32))).toNatClampNeg) μ8.1) dL_law_772 qm_L_97 qi_X9_share qs_X9_share qc_X9 qd_X9_share qh_X9_share (by decide) (fun _ => Nat.le_of_ble_eq_true rfl) (Nat.le_of_ble_eq_true rfl) (fun v130 w131 => ?_)
      refine s_ltM (fun μ132 => ?_)
      refine s_aload_n hC.1 2 dL_law_775 rfl ?_
      refine s_aload_n hC.1 0 dL_law_776 rfl ?_
      refine s_iload_n hC.1 3 dL_law_777 rfl ?_
      refine s_iconst hC.1 dL_law_778 (v := 1) (by decide) ?_
      refine s_iadd hC.1 dL_law_779 ?_
      refine l_ald hC dL_law_780 ?_
      refine s_aload_n hC.1 0 dL_law_781 rfl ?_
      refine s_iload_n hC.1 3 dL_law_782 rfl ?_
      refine s_iconst hC.1 dL_law_783 (v := 2) (by decide) ?_
      refine s_iadd hC.1 dL_law_784 ?_
      refine l_ald hC dL_law_785 ?_
      refine s_aload_n hC.1 0 dL_law_786 rfl ?_
      refine s_iload_n hC.1 3 dL_law_787 rfl ?_
      refine s_iconst hC.1 dL_law_788 (v := 3) (by decide) ?_
      refine s_iadd hC.1 dL_law_789 ?_
      refine l_ald hC dL_law_790 ?_
      refine l_callR hC (x := v6) (avs := [vI (xs ((v7 + (1 : Int32))).toNatClampNeg), vI (xs ((v7 + (2 : Int32))).toNatClampNeg), vI (xs ((v7 + (3 : Int32))).toNatClampNeg)]) (st := [vJ v130]) xc10 (m_X10_share hI.2 v6 (xs ((v7 + (1 : Int32))).toNatClampNeg) (xs ((v7 + (2 : Int32))).toNatClampNeg) (xs ((v7 + (3 : Int32))).toNatClampNeg) μ132.2) dL_law_791 qm_L_101 qi_X10_share qs_X10_share qc_X10 qd_X10_share qh_X10_share (by decide) (fun _ => Nat.le_of_ble_eq_true rfl) (Nat.le_of_ble_eq_true rfl) (fun v133 w134 => ?_)
      refine s_ltM (fun μ135 => ?_)
      refine s_lcmp hC.1 dL_law_794 ?_
      refine s_if_eq hC.1 dL_law_795 (tgt := 1466) (by decide) ?_ ?_
      · refine s_iinc hC.1 3 dL_law_1466 rfl (w := 6) (by decide) (by decide) (lv' := [(3, vI (v7 + (6 : Int32))), (0, vR v4), (1, vR v5), (2, vR v6)]) rfl ?_
        refine s_goto hC.1 dL_law_1469 (tgt := 18) (by decide) ?_
        refine s_lv (lv' := [(0, vR v4), (1, vR v5), (2, vR v6), (3, vI (v7 + (6 : Int32)))]) [1, 2, 3, 0] rfl ?_
        exact ih _ _ _ _ _
      exact s_none
    · refine s_aload_n hC.1 1 dL_law_800 rfl ?_
      refine s_aload_n hC.1 0 dL_law_801 rfl ?_
      refine s_iload_n hC.1 3 dL_law_802 rfl ?_
      refine s_iconst hC.1 dL_law_803 (v := 1) (by decide) ?_
      refine s_iadd hC.1 dL_law_804 ?_
      refine l_ald hC dL_law_805 ?_
      refine l_callC hC (x := v5) (avs := [vI (xs ((v7 + (1 : Int32))).toNatClampNeg)]) (st := []) xc9 (m_X9_richest hI.1 v5 (xs ((v7 + (1 : Int32))).toNatClampNeg) μ8.1) dL_law_806 qm_L_102 qi_X9_richest qs_X9_richest qc_X9 qd_X9_richest qh_X9_richest (by decide) (fun _ => Nat.le_of_ble_eq_true rfl) (Nat.le_of_ble_eq_true rfl) (fun v136 w137 => ?_)
      refine s_ltM (fun μ138 => ?_)
      refine s_aload_n hC.1 2 dL_law_809 rfl ?_
      refine s_aload_n hC.1 0 dL_law_810 rfl ?_
      refine s_iload_n hC.1 3 dL_law_811 rfl ?_
      refine s_iconst hC.1 dL_law_812 (v := 1) (by decide) ?_
      refine s_iadd hC.1 dL_law_813 ?_
      refine l_ald hC dL_law_814 ?_
      refine l_callR hC (x := v6) (avs := [vI (xs ((v7 + (1 : Int32))).toNatClampNeg)]) (st := [vI v136]) xc10 (m_X10_richest hI.2 v6 (xs ((v7 + (1 : Int32))).toNatClampNeg) μ138.2) dL_law_815 qm_L_105 qi_X10_richest qs_X10_richest qc_X10 qd_X10_richest qh_X10_richest (by decide) (fun _ => Nat.le_of_ble_eq_true rfl) (Nat.le_of_ble_eq_true rfl) (fun v139 w140 => ?_)
      refine s_ltM (fun μ141 => ?_)
      refine s_icmp_eq hC.1 dL_law_818 (tgt := 1466) (by decide) ?_ ?_
      · refine s_iinc hC.1 3 dL_law_1466 rfl (w := 6) (by decide) (by decide) (lv' := [(3, vI (v7 + (6 : Int32))), (0, vR v4), (1, vR v5), (2, vR v6)]) rfl ?_
        refine s_goto hC.1 dL_law_1469 (tgt := 18) (by decide) ?_
        refine s_lv (lv' := [(0, vR v4), (1, vR v5), (2, vR v6), (3, vI (v7 + (6 : Int32)))]) [1, 2, 3, 0] rfl ?_
        exact ih _ _ _ _ _
      exact s_none
    · refine s_aload_n hC.1 1 dL_law_823 rfl ?_
      refine s_aload_n hC.1 0 dL_law_824 rfl ?_
      refine s_iload_n hC.1 3 dL_law_825 rfl ?_
      refine s_iconst hC.1 dL_law_826 (v := 1) (by decide) ?_
      refine s_iadd hC.1 dL_law_827 ?_
      refine l_ald hC dL_law_828 ?_
      refine s_aload_n hC.1 0 dL_law_829 rfl ?_
      refine s_iload_n hC.1 3 dL_law_830 rfl ?_
      refine s_iconst hC.1 dL_law_831 (v := 2) (by decide) ?_
      refine s_iadd hC.1 dL_law_832 ?_
      refine l_ald hC dL_law_833 ?_
      refine l_callC hC (x := v5) (avs := [vI (xs ((v7 + (1 : Int32))).toNatClampNeg), vI (xs ((v7 + (2 : Int32))).toNatClampNeg)]) (st := []) xc9 (m_X9_see hI.1 v5 (xs ((v7 + (1 : Int32))).toNatClampNeg) (xs ((v7 + (2 : Int32))).toNatClampNeg) μ8.1) dL_law_834 qm_L_106 qi_X9_see qs_X9_see qc_X9 qd_X9_see qh_X9_see (by decide) (fun _ => Nat.le_of_ble_eq_true rfl) (Nat.le_of_ble_eq_true rfl) (fun v142 w143 => ?_)
      refine s_ltM (fun μ144 => ?_)
      refine s_aload_n hC.1 2 dL_law_837 rfl ?_
      refine s_aload_n hC.1 0 dL_law_838 rfl ?_
      refine s_iload_n hC.1 3 dL_law_839 rfl ?_
      refine s_iconst hC.1 dL_law_840 (v := 1) (by decide) ?_
      refine s_iadd hC.1 dL_law_841 ?_
      refine l_ald hC dL_law_842 ?_
      refine s_aload_n hC.1 0 dL_law_843 rfl ?_
      refine s_iload_n hC.1 3 dL_law_844 rfl ?_
      refine s_iconst hC.1 dL_law_845 (v := 2) (by decide) ?_
      refine s_iadd hC.1 dL_law_846 ?_
      refine l_ald hC dL_law_847 ?_
      refine l_callR hC (x := v6) (avs := [vI (xs ((v7 + (1 : Int32))).toNatClampNeg), vI (xs ((v7 + (2 : Int32))).toNatClampNeg)]) (st := [vI v142]) xc10 (m_X10_see hI.2 v6 (xs ((v7 + (1 : Int32))).toNatClampNeg) (xs ((v7 + (2 : Int32))).toNatClampNeg) μ144.2) dL_law_848 qm_L_109 qi_X10_see qs_X10_see qc_X10 qd_X10_see qh_X10_see (by decide) (fun _ => Nat.le_of_ble_eq_true rfl) (Nat.le_of_ble_eq_true rfl) (fun v145 w146 => ?_)
      refine s_ltM (fun μ147 => ?_)
      refine s_icmp_eq hC.1 dL_law_851 (tgt := 1466) (by decide) ?_ ?_
      · refine s_iinc hC.1 3 dL_law_1466 rfl (w := 6) (by decide) (by decide) (lv' := [(3, vI (v7 + (6 : Int32))), (0, vR v4), (1, vR v5), (2, vR v6)]) rfl ?_
        refine s_goto hC.1 dL_law_1469 (tgt := 18) (by decide) ?_
        refine s_lv (lv' := [(0, vR v4), (1, vR v5), (2, vR v6), (3, vI (v7 + (6 : Int32)))]) [1, 2, 3, 0] rfl ?_
        exact ih _ _ _ _ _
      exact s_none
    · refine s_aload_n hC.1 1 dL_law_856 rfl ?_
      refine s_aload_n hC.1 0 dL_law_857 rfl ?_
      refine s_iload_n hC.1 3 dL_law_858 rfl ?_
      refine s_iconst hC.1 dL_law_859 (v := 1) (by decide) ?_
      refine s_iadd hC.1 dL_law_860 ?_
      refine l_ald hC dL_law_861 ?_
      refine s_aload_n hC.1 0 dL_law_862 rfl ?_
      refine s_iload_n hC.1 3 dL_law_863 rfl ?_
      refine s_iconst hC.1 dL_law_864 (v := 2) (by decide) ?_
      refine s_iadd hC.1 dL_law_865 ?_
      refine l_ald hC dL_law_866 ?_
      refine l_callC hC (x := v5) (avs := [vI (xs ((v7 + (1 : Int32))).toNatClampNeg), vI (xs ((v7 + (2 : Int32))).toNatClampNeg)]) (st := []) xc9 (m_X9_hidden hI.1 v5 (xs ((v7 + (1 : Int32))).toNatClampNeg) (xs ((v7 + (2 : Int32))).toNatClampNeg) μ8.1) dL_law_867 qm_L_110 qi_X9_hidden qs_X9_hidden qc_X9 qd_X9_hidden qh_X9_hidden (by decide) (fun _ => Nat.le_of_ble_eq_true rfl) (Nat.le_of_ble_eq_true rfl) (fun v148 w149 => ?_)
      refine s_ltM (fun μ150 => ?_)
      refine s_aload_n hC.1 2 dL_law_870 rfl ?_
      refine s_aload_n hC.1 0 dL_law_871 rfl ?_
      refine s_iload_n hC.1 3 dL_law_872 rfl ?_
      refine s_iconst hC.1 dL_law_873 (v := 1) (by decide) ?_
      refine s_iadd hC.1 dL_law_874 ?_
      refine l_ald hC dL_law_875 ?_
      refine s_aload_n hC.1 0 dL_law_876 rfl ?_
      refine s_iload_n hC.1 3 dL_law_877 rfl ?_
      refine s_iconst hC.1 dL_law_878 (v := 2) (by decide) ?_
      refine s_iadd hC.1 dL_law_879 ?_
      refine l_ald hC dL_law_880 ?_
      refine l_callR hC (x := v6) (avs := [vI (xs ((v7 + (1 : Int32))).toNatClampNeg), vI (xs ((v7 + (2 : Int32))).toNatClampNeg)]) (st := [vI v148]) xc10 (m_X10_hidden hI.2 v6 (xs ((v7 + (1 : Int32))).toNatClampNeg) (xs ((v7 + (2 : Int32))).toNatClampNeg) μ150.2) dL_law_881 qm_L_113 qi_X10_hidden qs_X10_hidden qc_X10 qd_X10_hidden qh_X10_hidden (by decide) (fun _ => Nat.le_of_ble_eq_true rfl) (Nat.le_of_ble_eq_true rfl) (fun v151 w152 => ?_)
      refine s_ltM (fun μ153 => ?_)
      refine s_icmp_eq hC.1 dL_law_884 (tgt := 1466) (by decide) ?_ ?_
      · refine s_iinc hC.1 3 dL_law_1466 rfl (w := 6) (by decide) (by decide) (lv' := [(3, vI (v7 + (6 : Int32))), (0, vR v4), (1, vR v5), (2, vR v6)]) rfl ?_
        refine s_goto hC.1 dL_law_1469 (tgt := 18) (by decide) ?_
        refine s_lv (lv' := [(0, vR v4), (1, vR v5), (2, vR v6), (3, vI (v7 + (6 : Int32)))]) [1, 2, 3, 0] rfl ?_
        exact ih _ _ _ _ _
      exact s_none
    · refine s_aload_n hC.1 1 dL_law_889 rfl ?_
      refine l_callC hC (x := v5) (avs := []) (st := []) xc9 (m_X9_whose hI.1 v5 μ8.1) dL_law_890 qm_L_114 qi_X9_whose qs_X9_whose qc_X9 qd_X9_whose qh_X9_whose (by decide) (fun _ => Nat.le_of_ble_eq_true rfl) (Nat.le_of_ble_eq_true rfl) (fun v154 w155 => ?_)
      refine s_ltM (fun μ156 => ?_)
      refine s_aload_n hC.1 2 dL_law_893 rfl ?_
      refine l_callR hC (x := v6) (avs := []) (st := [vI v154]) xc10 (m_X10_whose hI.2 v6 μ156.2) dL_law_894 qm_L_117 qi_X10_whose qs_X10_whose qc_X10 qd_X10_whose qh_X10_whose (by decide) (fun _ => Nat.le_of_ble_eq_true rfl) (Nat.le_of_ble_eq_true rfl) (fun v157 w158 => ?_)
      refine s_ltM (fun μ159 => ?_)
      refine s_icmp_eq hC.1 dL_law_897 (tgt := 1466) (by decide) ?_ ?_
      · refine s_iinc hC.1 3 dL_law_1466 rfl (w := 6) (by decide) (by decide) (lv' := [(3, vI (v7 + (6 : Int32))), (0, vR v4), (1, vR v5), (2, vR v6)]) rfl ?_
        refine s_goto hC.1 dL_law_1469 (tgt := 18) (by decide) ?_
        refine s_lv (lv' := [(0, vR v4), (1, vR v5), (2, vR v6), (3, vI (v7 + (6 : Int32)))]) [1, 2, 3, 0] rfl ?_
        exact ih _ _ _ _ _
      exact s_none
    · refine s_aload_n hC.1 1 dL_law_902 rfl ?_
      refine s_aload_n hC.1 0 dL_law_903 rfl ?_
      refine s_iload_n hC.1 3 dL_law_904 rfl ?_
      refine s_iconst hC.1 dL_law_905 (v := 1) (by decide) ?_
      refine s_iadd hC.1 dL_law_906 ?_
      refine l_ald hC dL_law_907 ?_
      refine s_aload_n hC.1 0 dL_law_908 rfl ?_
      refine s_iload_n hC.1 3 dL_law_909 rfl ?_
      refine s_iconst hC.1 dL_law_910 (v := 2) (by decide) ?_
      refine s_iadd hC.1 dL_law_911 ?_
      refine l_ald hC dL_law_912 ?_
      refine l_callC hC (x := v5) (avs := [vI (xs ((v7 + (1 : Int32))).toNatClampNeg), vI (xs ((v7 + (2 : Int32))).toNatClampNeg)]) (st := []) xc9 (m_X9_odds hI.1 v5 (xs ((v7 + (1 : Int32))).toNatClampNeg) (xs ((v7 + (2 : Int32))).toNatClampNeg) μ8.1) dL_law_913 qm_L_118 qi_X9_odds qs_X9_odds qc_X9 qd_X9_odds qh_X9_odds (by decide) (fun _ => Nat.le_of_ble_eq_true rfl) (Nat.le_of_ble_eq_true rfl) (fun v160 w161 => ?_)
      refine s_ltM (fun μ162 => ?_)
      refine s_aload_n hC.1 2 dL_law_916 rfl ?_
      refine s_aload_n hC.1 0 dL_law_917 rfl ?_
      refine s_iload_n hC.1 3 dL_law_918 rfl ?_
      refine s_iconst hC.1 dL_law_919 (v := 1) (by decide) ?_
      refine s_iadd hC.1 dL_law_920 ?_
      refine l_ald hC dL_law_921 ?_
      refine s_aload_n hC.1 0 dL_law_922 rfl ?_
      refine s_iload_n hC.1 3 dL_law_923 rfl ?_
      refine s_iconst hC.1 dL_law_924 (v := 2) (by decide) ?_
      refine s_iadd hC.1 dL_law_925 ?_
      refine l_ald hC dL_law_926 ?_
      refine l_callR hC (x := v6) (avs := [vI (xs ((v7 + (1 : Int32))).toNatClampNeg), vI (xs ((v7 + (2 : Int32))).toNatClampNeg)]) (st := [vJ v160]) xc10 (m_X10_odds hI.2 v6 (xs ((v7 + (1 : Int32))).toNatClampNeg) (xs ((v7 + (2 : Int32))).toNatClampNeg) μ162.2) dL_law_927 qm_L_122 qi_X10_odds qs_X10_odds qc_X10 qd_X10_odds qh_X10_odds (by decide) (fun _ => Nat.le_of_ble_eq_true rfl) (Nat.le_of_ble_eq_true rfl) (fun v163 w164 => ?_)
      refine s_ltM (fun μ165 => ?_)
      refine s_lcmp hC.1 dL_law_930 ?_
      refine s_if_eq hC.1 dL_law_931 (tgt := 1466) (by decide) ?_ ?_
      · refine s_iinc hC.1 3 dL_law_1466 rfl (w := 6) (by decide) (by decide) (lv' := [(3, vI (v7 + (6 : Int32))), (0, vR v4), (1, vR v5), (2, vR v6)]) rfl ?_
        refine s_goto hC.1 dL_law_1469 (tgt := 18) (by decide) ?_
        refine s_lv (lv' := [(0, vR v4), (1, vR v5), (2, vR v6), (3, vI (v7 + (6 : Int32)))]) [1, 2, 3, 0] rfl ?_
        exact ih _ _ _ _ _
      exact s_none
    · refine s_aload_n hC.1 1 dL_law_936 rfl ?_
      refine s_aload_n hC.1 0 dL_law_937 rfl ?_
      refine s_iload_n hC.1 3 dL_law_938 rfl ?_
      refine s_iconst hC.1 dL_law_939 (v := 1) (by decide) ?_
      refine s_iadd hC.1 dL_law_940 ?_
      refine l_ald hC dL_law_941 ?_
      refine s_aload_n hC.1 0 dL_law_942 rfl ?_
      refine s_iload_n hC.1 3 dL_law_943 rfl ?_
      refine s_iconst hC.1 dL_law_944 (v := 2) (by decide) ?_
      refine s_iadd hC.1 dL_law_945 ?_
      refine l_ald hC dL_law_946 ?_
      refine l_callC hC (x := v5) (avs := [vI (xs ((v7 + (1 : Int32))).toNatClampNeg), vI (xs ((v7 + (2 : Int32))).toNatClampNeg)]) (st := []) xc9 (m_X9_mean hI.1 v5 (xs ((v7 + (1 : Int32))).toNatClampNeg) (xs ((v7 + (2 : Int32))).toNatClampNeg) μ8.1) dL_law_947 qm_L_123 qi_X9_mean qs_X9_mean qc_X9 qd_X9_mean qh_X9_mean (by decide) (fun _ => Nat.le_of_ble_eq_true rfl) (Nat.le_of_ble_eq_true rfl) (fun v166 w167 => ?_)
      refine s_ltM (fun μ168 => ?_)
      refine s_aload_n hC.1 2 dL_law_950 rfl ?_
      refine s_aload_n hC.1 0 dL_law_951 rfl ?_
      refine s_iload_n hC.1 3 dL_law_952 rfl ?_
      refine s_iconst hC.1 dL_law_953 (v := 1) (by decide) ?_
      refine s_iadd hC.1 dL_law_954 ?_
      refine l_ald hC dL_law_955 ?_
      refine s_aload_n hC.1 0 dL_law_956 rfl ?_
      refine s_iload_n hC.1 3 dL_law_957 rfl ?_
      refine s_iconst hC.1 dL_law_958 (v := 2) (by decide) ?_
      refine s_iadd hC.1 dL_law_959 ?_
      refine l_ald hC dL_law_960 ?_
      refine l_callR hC (x := v6) (avs := [vI (xs ((v7 + (1 : Int32))).toNatClampNeg), vI (xs ((v7 + (2 : Int32))).toNatClampNeg)]) (st := [vJ v166]) xc10 (m_X10_mean hI.2 v6 (xs ((v7 + (1 : Int32))).toNatClampNeg) (xs ((v7 + (2 : Int32))).toNatClampNeg) μ168.2) dL_law_961 qm_L_126 qi_X10_mean qs_X10_mean qc_X10 qd_X10_mean qh_X10_mean (by decide) (fun _ => Nat.le_of_ble_eq_true rfl) (Nat.le_of_ble_eq_true rfl) (fun v169 w170 => ?_)
      refine s_ltM (fun μ171 => ?_)
      refine s_lcmp hC.1 dL_law_964 ?_
      refine s_if_eq hC.1 dL_law_965 (tgt := 1466) (by decide) ?_ ?_
      · refine s_iinc hC.1 3 dL_law_1466 rfl (w := 6) (by decide) (by decide) (lv' := [(3, vI (v7 + (6 : Int32))), (0, vR v4), (1, vR v5), (2, vR v6)]) rfl ?_
        refine s_goto hC.1 dL_law_1469 (tgt := 18) (by decide) ?_
        refine s_lv (lv' := [(0, vR v4), (1, vR v5), (2, vR v6), (3, vI (v7 + (6 : Int32)))]) [1, 2, 3, 0] rfl ?_
        exact ih _ _ _ _ _
      exact s_none
    · refine s_aload_n hC.1 1 dL_law_970 rfl ?_
      refine s_aload_n hC.1 0 dL_law_971 rfl ?_
      refine s_iload_n hC.1 3 dL_law_972 rfl ?_
      refine s_iconst hC.1 dL_law_973 (v := 1) (by decide) ?_
      refine s_iadd hC.1 dL_law_974 ?_
      refine l_ald hC dL_law_975 ?_
      refine s_aload_n hC.1 0 dL_law_976 rfl ?_
      refine s_iload_n hC.1 3 dL_law_977 rfl ?_
      refine s_iconst hC.1 dL_law_978 (v := 2) (by decide) ?_
      refine s_iadd hC.1 dL_law_979 ?_
      refine l_ald hC dL_law_980 ?_
      refine l_callC hC (x := v5) (avs := [vI (xs ((v7 + (1 : Int32))).toNatClampNeg), vI (xs ((v7 + (2 : Int32))).toNatClampNeg)]) (st := []) xc9 (m_X9_plan hI.1 v5 (xs ((v7 + (1 : Int32))).toNatClampNeg) (xs ((v7 + (2 : Int32))).toNatClampNeg) μ8.1) dL_law_981 qm_L_127 qi_X9_plan qs_X9_plan qc_X9 qd_X9_plan qh_X9_plan (by decide) (fun _ => Nat.le_of_ble_eq_true rfl) (Nat.le_of_ble_eq_true rfl) (fun v172 w173 => ?_)
      refine s_ltM (fun μ174 => ?_)
      refine s_aload_n hC.1 2 dL_law_984 rfl ?_
      refine s_aload_n hC.1 0 dL_law_985 rfl ?_
      refine s_iload_n hC.1 3 dL_law_986 rfl ?_
      refine s_iconst hC.1 dL_law_987 (v := 1) (by decide) ?_
      refine s_iadd hC.1 dL_law_988 ?_
      refine l_ald hC dL_law_989 ?_
      refine s_aload_n hC.1 0 dL_law_990 rfl ?_
      refine s_iload_n hC.1 3 dL_law_991 rfl ?_
      refine s_iconst hC.1 dL_law_992 (v := 2) (by decide) ?_
      refine s_iadd hC.1 dL_law_993 ?_
      refine l_ald hC dL_law_994 ?_
      refine l_callR hC (x := v6) (avs := [vI (xs ((v7 + (1 : Int32))).toNatClampNeg), vI (xs ((v7 + (2 : Int32))).toNatClampNeg)]) (st := [vI v172]) xc10 (m_X10_plan hI.2 v6 (xs ((v7 + (1 : Int32))).toNatClampNeg) (xs ((v7 + (2 : Int32))).toNatClampNeg) μ174.2) dL_law_995 qm_L_130 qi_X10_plan qs_X10_plan qc_X10 qd_X10_plan qh_X10_plan (by decide) (fun _ => Nat.le_of_ble_eq_true rfl) (Nat.le_of_ble_eq_true rfl) (fun v175 w176 => ?_)
      refine s_ltM (fun μ177 => ?_)
      refine s_icmp_eq hC.1 dL_law_998 (tgt := 1466) (by decide) ?_ ?_
      · refine s_iinc hC.1 3 dL_law_1466 rfl (w := 6) (by decide) (by decide) (lv' := [(3, vI (v7 + (6 : Int32))), (0, vR v4), (1, vR v5), (2, vR v6)]) rfl ?_
        refine s_goto hC.1 dL_law_1469 (tgt := 18) (by decide) ?_
        refine s_lv (lv' := [(0, vR v4), (1, vR v5), (2, vR v6), (3, vI (v7 + (6 : Int32)))]) [1, 2, 3, 0] rfl ?_
        exact ih _ _ _ _ _
      exact s_none
    · refine s_aload_n hC.1 1 dL_law_1003 rfl ?_
      refine s_aload_n hC.1 0 dL_law_1004 rfl ?_
      refine s_iload_n hC.1 3 dL_law_1005 rfl ?_
      refine s_iconst hC.1 dL_law_1006 (v := 1) (by decide) ?_
      refine s_iadd hC.1 dL_law_1007 ?_
      refine l_ald hC dL_law_1008 ?_
      refine l_callC hC (x := v5) (avs := [vI (xs ((v7 + (1 : Int32))).toNatClampNeg)]) (st := []) xc9 (m_X9_planned hI.1 v5 (xs ((v7 + (1 : Int32))).toNatClampNeg) μ8.1) dL_law_1009 qm_L_131 qi_X9_planned qs_X9_planned qc_X9 qd_X9_planned qh_X9_planned (by decide) (fun _ => Nat.le_of_ble_eq_true rfl) (Nat.le_of_ble_eq_true rfl) (fun v178 w179 => ?_)
      refine s_ltM (fun μ180 => ?_)
      refine s_aload_n hC.1 2 dL_law_1012 rfl ?_
      refine s_aload_n hC.1 0 dL_law_1013 rfl ?_
      refine s_iload_n hC.1 3 dL_law_1014 rfl ?_
      refine s_iconst hC.1 dL_law_1015 (v := 1) (by decide) ?_
      refine s_iadd hC.1 dL_law_1016 ?_
      refine l_ald hC dL_law_1017 ?_
      refine l_callR hC (x := v6) (avs := [vI (xs ((v7 + (1 : Int32))).toNatClampNeg)]) (st := [vI v178]) xc10 (m_X10_planned hI.2 v6 (xs ((v7 + (1 : Int32))).toNatClampNeg) μ180.2) dL_law_1018 qm_L_134 qi_X10_planned qs_X10_planned qc_X10 qd_X10_planned qh_X10_planned (by decide) (fun _ => Nat.le_of_ble_eq_true rfl) (Nat.le_of_ble_eq_true rfl) (fun v181 w182 => ?_)
      refine s_ltM (fun μ183 => ?_)
      refine s_icmp_eq hC.1 dL_law_1021 (tgt := 1466) (by decide) ?_ ?_
      · refine s_iinc hC.1 3 dL_law_1466 rfl (w := 6) (by decide) (by decide) (lv' := [(3, vI (v7 + (6 : Int32))), (0, vR v4), (1, vR v5), (2, vR v6)]) rfl ?_
        refine s_goto hC.1 dL_law_1469 (tgt := 18) (by decide) ?_
        refine s_lv (lv' := [(0, vR v4), (1, vR v5), (2, vR v6), (3, vI (v7 + (6 : Int32)))]) [1, 2, 3, 0] rfl ?_
        exact ih _ _ _ _ _
      exact s_none
    · refine s_aload_n hC.1 1 dL_law_1026 rfl ?_
      refine s_aload_n hC.1 0 dL_law_1027 rfl ?_
      refine s_iload_n hC.1 3 dL_law_1028 rfl ?_
      refine s_iconst hC.1 dL_law_1029 (v := 1) (by decide) ?_
      refine s_iadd hC.1 dL_law_1030 ?_
      refine l_ald hC dL_law_1031 ?_
      refine s_aload_n hC.1 0 dL_law_1032 rfl ?_
      refine s_iload_n hC.1 3 dL_law_1033 rfl ?_
      refine s_iconst hC.1 dL_law_1034 (v := 2) (by decide) ?_
      refine s_iadd hC.1 dL_law_1035 ?_
      refine l_ald hC dL_law_1036 ?_
      refine l_callC hC (x := v5) (avs := [vI (xs ((v7 + (1 : Int32))).toNatClampNeg), vI (xs ((v7 + (2 : Int32))).toNatClampNeg)]) (st := []) xc9 (m_X9_book hI.1 v5 (xs ((v7 + (1 : Int32))).toNatClampNeg) (xs ((v7 + (2 : Int32))).toNatClampNeg) μ8.1) dL_law_1037 qm_L_135 qi_X9_book qs_X9_book qc_X9 qd_X9_book qh_X9_book (by decide) (fun _ => Nat.le_of_ble_eq_true rfl) (Nat.le_of_ble_eq_true rfl) (fun v184 w185 => ?_)
      refine s_ltM (fun μ186 => ?_)
      refine s_aload_n hC.1 2 dL_law_1040 rfl ?_
      refine s_aload_n hC.1 0 dL_law_1041 rfl ?_
      refine s_iload_n hC.1 3 dL_law_1042 rfl ?_
      refine s_iconst hC.1 dL_law_1043 (v := 1) (by decide) ?_
      refine s_iadd hC.1 dL_law_1044 ?_
      refine l_ald hC dL_law_1045 ?_
      refine s_aload_n hC.1 0 dL_law_1046 rfl ?_
      refine s_iload_n hC.1 3 dL_law_1047 rfl ?_
      refine s_iconst hC.1 dL_law_1048 (v := 2) (by decide) ?_
      refine s_iadd hC.1 dL_law_1049 ?_
      refine l_ald hC dL_law_1050 ?_
      refine l_callR hC (x := v6) (avs := [vI (xs ((v7 + (1 : Int32))).toNatClampNeg), vI (xs ((v7 + (2 : Int32))).toNatClampNeg)]) (st := [vI v184]) xc10 (m_X10_book hI.2 v6 (xs ((v7 + (1 : Int32))).toNatClampNeg) (xs ((v7 + (2 : Int32))).toNatClampNeg) μ186.2) dL_law_1051 qm_L_138 qi_X10_book qs_X10_book qc_X10 qd_X10_book qh_X10_book (by decide) (fun _ => Nat.le_of_ble_eq_true rfl) (Nat.le_of_ble_eq_true rfl) (fun v187 w188 => ?_)
      refine s_ltM (fun μ189 => ?_)
      refine s_icmp_eq hC.1 dL_law_1054 (tgt := 1466) (by decide) ?_ ?_
      · refine s_iinc hC.1 3 dL_law_1466 rfl (w := 6) (by decide) (by decide) (lv' := [(3, vI (v7 + (6 : Int32))), (0, vR v4), (1, vR v5), (2, vR v6)]) rfl ?_
        refine s_goto hC.1 dL_law_1469 (tgt := 18) (by decide) ?_
        refine s_lv (lv' := [(0, vR v4), (1, vR v5), (2, vR v6), (3, vI (v7 + (6 : Int32)))]) [1, 2, 3, 0] rfl ?_
        exact ih _ _ _ _ _
      exact s_none
    · refine s_aload_n hC.1 1 dL_law_1059 rfl ?_
      refine l_callC hC (x := v5) (avs := []) (st := []) xc9 (m_X9_looked hI.1 v5 μ8.1) dL_law_1060 qm_L_139 qi_X9_looked qs_X9_looked qc_X9 qd_X9_looked qh_X9_looked (by decide) (fun _ => Nat.le_of_ble_eq_true rfl) (Nat.le_of_ble_eq_true rfl) (fun v190 w191 => ?_)
      refine s_ltM (fun μ192 => ?_)
      refine s_aload_n hC.1 2 dL_law_1063 rfl ?_
      refine l_callR hC (x := v6) (avs := []) (st := [vI v190]) xc10 (m_X10_looked hI.2 v6 μ192.2) dL_law_1064 qm_L_142 qi_X10_looked qs_X10_looked qc_X10 qd_X10_looked qh_X10_looked (by decide) (fun _ => Nat.le_of_ble_eq_true rfl) (Nat.le_of_ble_eq_true rfl) (fun v193 w194 => ?_)
      refine s_ltM (fun μ195 => ?_)
      refine s_icmp_eq hC.1 dL_law_1067 (tgt := 1466) (by decide) ?_ ?_
      · refine s_iinc hC.1 3 dL_law_1466 rfl (w := 6) (by decide) (by decide) (lv' := [(3, vI (v7 + (6 : Int32))), (0, vR v4), (1, vR v5), (2, vR v6)]) rfl ?_
        refine s_goto hC.1 dL_law_1469 (tgt := 18) (by decide) ?_
        refine s_lv (lv' := [(0, vR v4), (1, vR v5), (2, vR v6), (3, vI (v7 + (6 : Int32)))]) [1, 2, 3, 0] rfl ?_
        exact ih _ _ _ _ _
      exact s_none
    · refine s_aload_n hC.1 1 dL_law_1072 rfl ?_
      refine s_aload_n hC.1 0 dL_law_1073 rfl ?_
      refine s_iload_n hC.1 3 dL_law_1074 rfl ?_
      refine s_iconst hC.1 dL_law_1075 (v := 1) (by decide) ?_
      refine s_iadd hC.1 dL_law_1076 ?_
      refine l_ald hC dL_law_1077 ?_
      refine s_aload_n hC.1 0 dL_law_1078 rfl ?_
      refine s_iload_n hC.1 3 dL_law_1079 rfl ?_
      refine s_iconst hC.1 dL_law_1080 (v := 2) (by decide) ?_
      refine s_iadd hC.1 dL_law_1081 ?_
      refine l_ald hC dL_law_1082 ?_
      refine l_callC hC (x := v5) (avs := [vI (xs ((v7 + (1 : Int32))).toNatClampNeg), vI (xs ((v7 + (2 : Int32))).toNatClampNeg)]) (st := []) xc9 (m_X9_judge hI.1 v5 (xs ((v7 + (1 : Int32))).toNatClampNeg) (xs ((v7 + (2 : Int32))).toNatClampNeg) μ8.1) dL_law_1083 qm_L_143 qi_X9_judge qs_X9_judge qc_X9 qd_X9_judge qh_X9_judge (by decide) (fun _ => Nat.le_of_ble_eq_true rfl) (Nat.le_of_ble_eq_true rfl) (fun v196 w197 => ?_)
      refine s_ltM (fun μ198 => ?_)
      refine s_aload_n hC.1 2 dL_law_1086 rfl ?_
      refine s_aload_n hC.1 0 dL_law_1087 rfl ?_
      refine s_iload_n hC.1 3 dL_law_1088 rfl ?_
      refine s_iconst hC.1 dL_law_1089 (v := 1) (by decide) ?_
      refine s_iadd hC.1 dL_law_1090 ?_
      refine l_ald hC dL_law_1091 ?_
      refine s_aload_n hC.1 0 dL_law_1092 rfl ?_
      refine s_iload_n hC.1 3 dL_law_1093 rfl ?_
      refine s_iconst hC.1 dL_law_1094 (v := 2) (by decide) ?_
      refine s_iadd hC.1 dL_law_1095 ?_
      refine l_ald hC dL_law_1096 ?_
      refine l_callR hC (x := v6) (avs := [vI (xs ((v7 + (1 : Int32))).toNatClampNeg), vI (xs ((v7 + (2 : Int32))).toNatClampNeg)]) (st := [vI v196]) xc10 (m_X10_judge hI.2 v6 (xs ((v7 + (1 : Int32))).toNatClampNeg) (xs ((v7 + (2 : Int32))).toNatClampNeg) μ198.2) dL_law_1097 qm_L_146 qi_X10_judge qs_X10_judge qc_X10 qd_X10_judge qh_X10_judge (by decide) (fun _ => Nat.le_of_ble_eq_true rfl) (Nat.le_of_ble_eq_true rfl) (fun v199 w200 => ?_)
      refine s_ltM (fun μ201 => ?_)
      refine s_icmp_eq hC.1 dL_law_1100 (tgt := 1466) (by decide) ?_ ?_
      · refine s_iinc hC.1 3 dL_law_1466 rfl (w := 6) (by decide) (by decide) (lv' := [(3, vI (v7 + (6 : Int32))), (0, vR v4), (1, vR v5), (2, vR v6)]) rfl ?_
        refine s_goto hC.1 dL_law_1469 (tgt := 18) (by decide) ?_
        refine s_lv (lv' := [(0, vR v4), (1, vR v5), (2, vR v6), (3, vI (v7 + (6 : Int32)))]) [1, 2, 3, 0] rfl ?_
        exact ih _ _ _ _ _
      exact s_none
    · refine s_aload_n hC.1 1 dL_law_1105 rfl ?_
      refine l_callC hC (x := v5) (avs := []) (st := []) xc9 (m_X9_image hI.1 v5 μ8.1) dL_law_1106 qm_L_147 qi_X9_image qs_X9_image qc_X9 qd_X9_image qh_X9_image (by decide) (fun _ => Nat.le_of_ble_eq_true rfl) (Nat.le_of_ble_eq_true rfl) (fun v202 w203 => ?_)
      refine s_ltM (fun μ204 => ?_)
      refine s_aload_n hC.1 2 dL_law_1109 rfl ?_
      refine l_callR hC (x := v6) (avs := []) (st := [vI v202]) xc10 (m_X10_image hI.2 v6 μ204.2) dL_law_1110 qm_L_150 qi_X10_image qs_X10_image qc_X10 qd_X10_image qh_X10_image (by decide) (fun _ => Nat.le_of_ble_eq_true rfl) (Nat.le_of_ble_eq_true rfl) (fun v205 w206 => ?_)
      refine s_ltM (fun μ207 => ?_)
      refine s_icmp_eq hC.1 dL_law_1113 (tgt := 1466) (by decide) ?_ ?_
      · refine s_iinc hC.1 3 dL_law_1466 rfl (w := 6) (by decide) (by decide) (lv' := [(3, vI (v7 + (6 : Int32))), (0, vR v4), (1, vR v5), (2, vR v6)]) rfl ?_
        refine s_goto hC.1 dL_law_1469 (tgt := 18) (by decide) ?_
        refine s_lv (lv' := [(0, vR v4), (1, vR v5), (2, vR v6), (3, vI (v7 + (6 : Int32)))]) [1, 2, 3, 0] rfl ?_
        exact ih _ _ _ _ _
      exact s_none
    · refine s_aload_n hC.1 1 dL_law_1118 rfl ?_
      refine l_callC hC (x := v5) (avs := []) (st := []) xc9 (m_X9_undo hI.1 v5 μ8.1) dL_law_1119 qm_L_151 qi_X9_undo qs_X9_undo qc_X9 qd_X9_undo qh_X9_undo (by decide) (fun _ => Nat.le_of_ble_eq_true rfl) (Nat.le_of_ble_eq_true rfl) (fun v208 w209 => ?_)
      refine s_ltM (fun μ210 => ?_)
      refine s_aload_n hC.1 2 dL_law_1122 rfl ?_
      refine l_callR hC (x := v6) (avs := []) (st := [vI v208]) xc10 (m_X10_undo hI.2 v6 μ210.2) dL_law_1123 qm_L_154 qi_X10_undo qs_X10_undo qc_X10 qd_X10_undo qh_X10_undo (by decide) (fun _ => Nat.le_of_ble_eq_true rfl) (Nat.le_of_ble_eq_true rfl) (fun v211 w212 => ?_)
      refine s_ltM (fun μ213 => ?_)
      refine s_icmp_eq hC.1 dL_law_1126 (tgt := 1466) (by decide) ?_ ?_
      · refine s_iinc hC.1 3 dL_law_1466 rfl (w := 6) (by decide) (by decide) (lv' := [(3, vI (v7 + (6 : Int32))), (0, vR v4), (1, vR v5), (2, vR v6)]) rfl ?_
        refine s_goto hC.1 dL_law_1469 (tgt := 18) (by decide) ?_
        refine s_lv (lv' := [(0, vR v4), (1, vR v5), (2, vR v6), (3, vI (v7 + (6 : Int32)))]) [1, 2, 3, 0] rfl ?_
        exact ih _ _ _ _ _
      exact s_none
    · refine s_aload_n hC.1 1 dL_law_1131 rfl ?_
      refine s_aload_n hC.1 0 dL_law_1132 rfl ?_
      refine s_iload_n hC.1 3 dL_law_1133 rfl ?_
      refine s_iconst hC.1 dL_law_1134 (v := 1) (by decide) ?_
      refine s_iadd hC.1 dL_law_1135 ?_
      refine l_ald hC dL_law_1136 ?_
      refine s_aload_n hC.1 0 dL_law_1137 rfl ?_
      refine s_iload_n hC.1 3 dL_law_1138 rfl ?_
      refine s_iconst hC.1 dL_law_1139 (v := 2) (by decide) ?_
      refine s_iadd hC.1 dL_law_1140 ?_
      refine l_ald hC dL_law_1141 ?_
      refine s_aload_n hC.1 0 dL_law_1142 rfl ?_
      refine s_iload_n hC.1 3 dL_law_1143 rfl ?_
      refine s_iconst hC.1 dL_law_1144 (v := 3) (by decide) ?_
      refine s_iadd hC.1 dL_law_1145 ?_
      refine l_ald hC dL_law_1146 ?_
      refine l_callC hC (x := v5) (avs := [vI (xs ((v7 + (1 : Int32))).toNatClampNeg), vI (xs ((v7 + (2 : Int32))).toNatClampNeg), vI (xs ((v7 + (3 : Int32))).toNatClampNeg)]) (st := []) xc9 (m_X9_act hI.1 v5 (xs ((v7 + (1 : Int32))).toNatClampNeg) (xs ((v7 + (2 : Int32))).toNatClampNeg) (xs ((v7 + (3 : Int32))).toNatClampNeg) μ8.1) dL_law_1147 qm_L_155 qi_X9_act qs_X9_act qc_X9 qd_X9_act qh_X9_act (by decide) (fun _ => Nat.le_of_ble_eq_true rfl) (Nat.le_of_ble_eq_true rfl) (fun v214 w215 => ?_)
      refine s_ltM (fun μ216 => ?_)
      refine s_aload_n hC.1 2 dL_law_1150 rfl ?_
      refine s_aload_n hC.1 0 dL_law_1151 rfl ?_
      refine s_iload_n hC.1 3 dL_law_1152 rfl ?_
      refine s_iconst hC.1 dL_law_1153 (v := 1) (by decide) ?_
      refine s_iadd hC.1 dL_law_1154 ?_
      refine l_ald hC dL_law_1155 ?_
      refine s_aload_n hC.1 0 dL_law_1156 rfl ?_
      refine s_iload_n hC.1 3 dL_law_1157 rfl ?_
      refine s_iconst hC.1 dL_law_1158 (v := 2) (by decide) ?_
      refine s_iadd hC.1 dL_law_1159 ?_
      refine l_ald hC dL_law_1160 ?_
      refine s_aload_n hC.1 0 dL_law_1161 rfl ?_
      refine s_iload_n hC.1 3 dL_law_1162 rfl ?_
      refine s_iconst hC.1 dL_law_1163 (v := 3) (by decide) ?_
      refine s_iadd hC.1 dL_law_1164 ?_
      refine l_ald hC dL_law_1165 ?_
      refine l_callR hC (x := v6) (avs := [vI (xs ((v7 + (1 : Int32))).toNatClampNeg), vI (xs ((v7 + (2 : Int32))).toNatClampNeg), vI (xs ((v7 + (3 : Int32))).toNatClampNeg)]) (st := [vI v214]) xc10 (m_X10_act hI.2 v6 (xs ((v7 + (1 : Int32))).toNatClampNeg) (xs ((v7 + (2 : Int32))).toNatClampNeg) (xs ((v7 + (3 : Int32))).toNatClampNeg) μ216.2) dL_law_1166 qm_L_158 qi_X10_act qs_X10_act qc_X10 qd_X10_act qh_X10_act (by decide) (fun _ => Nat.le_of_ble_eq_true rfl) (Nat.le_of_ble_eq_true rfl) (fun v217 w218 => ?_)
      refine s_ltM (fun μ219 => ?_)
      refine s_icmp_eq hC.1 dL_law_1169 (tgt := 1466) (by decide) ?_ ?_
      · refine s_iinc hC.1 3 dL_law_1466 rfl (w := 6) (by decide) (by decide) (lv' := [(3, vI (v7 + (6 : Int32))), (0, vR v4), (1, vR v5), (2, vR v6)]) rfl ?_
        refine s_goto hC.1 dL_law_1469 (tgt := 18) (by decide) ?_
        refine s_lv (lv' := [(0, vR v4), (1, vR v5), (2, vR v6), (3, vI (v7 + (6 : Int32)))]) [1, 2, 3, 0] rfl ?_
        exact ih _ _ _ _ _
      exact s_none
    · refine s_aload_n hC.1 1 dL_law_1174 rfl ?_
      refine s_aload_n hC.1 0 dL_law_1175 rfl ?_
      refine s_iload_n hC.1 3 dL_law_1176 rfl ?_
      refine s_iconst hC.1 dL_law_1177 (v := 1) (by decide) ?_
      refine s_iadd hC.1 dL_law_1178 ?_
      refine l_ald hC dL_law_1179 ?_
      refine l_callC hC (x := v5) (avs := [vI (xs ((v7 + (1 : Int32))).toNatClampNeg)]) (st := []) xc9 (m_X9_trace hI.1 v5 (xs ((v7 + (1 : Int32))).toNatClampNeg) μ8.1) dL_law_1180 qm_L_159 qi_X9_trace qs_X9_trace qc_X9 qd_X9_trace qh_X9_trace (by decide) (fun _ => Nat.le_of_ble_eq_true rfl) (Nat.le_of_ble_eq_true rfl) (fun v220 w221 => ?_)
      refine s_ltM (fun μ222 => ?_)
      refine s_aload_n hC.1 2 dL_law_1183 rfl ?_
      refine s_aload_n hC.1 0 dL_law_1184 rfl ?_
      refine s_iload_n hC.1 3 dL_law_1185 rfl ?_
      refine s_iconst hC.1 dL_law_1186 (v := 1) (by decide) ?_
      refine s_iadd hC.1 dL_law_1187 ?_
      refine l_ald hC dL_law_1188 ?_
      refine l_callR hC (x := v6) (avs := [vI (xs ((v7 + (1 : Int32))).toNatClampNeg)]) (st := [vI v220]) xc10 (m_X10_trace hI.2 v6 (xs ((v7 + (1 : Int32))).toNatClampNeg) μ222.2) dL_law_1189 qm_L_162 qi_X10_trace qs_X10_trace qc_X10 qd_X10_trace qh_X10_trace (by decide) (fun _ => Nat.le_of_ble_eq_true rfl) (Nat.le_of_ble_eq_true rfl) (fun v223 w224 => ?_)
      refine s_ltM (fun μ225 => ?_)
      refine s_icmp_eq hC.1 dL_law_1192 (tgt := 1466) (by decide) ?_ ?_
      · refine s_iinc hC.1 3 dL_law_1466 rfl (w := 6) (by decide) (by decide) (lv' := [(3, vI (v7 + (6 : Int32))), (0, vR v4), (1, vR v5), (2, vR v6)]) rfl ?_
        refine s_goto hC.1 dL_law_1469 (tgt := 18) (by decide) ?_
        refine s_lv (lv' := [(0, vR v4), (1, vR v5), (2, vR v6), (3, vI (v7 + (6 : Int32)))]) [1, 2, 3, 0] rfl ?_
        exact ih _ _ _ _ _
      exact s_none
    · refine s_aload_n hC.1 1 dL_law_1197 rfl ?_
      refine s_aload_n hC.1 0 dL_law_1198 rfl ?_
      refine s_iload_n hC.1 3 dL_law_1199 rfl ?_
      refine s_iconst hC.1 dL_law_1200 (v := 1) (by decide) ?_
      refine s_iadd hC.1 dL_law_1201 ?_
      refine l_ald hC dL_law_1202 ?_
      refine s_aload_n hC.1 0 dL_law_1203 rfl ?_
      refine s_iload_n hC.1 3 dL_law_1204 rfl ?_
      refine s_iconst hC.1 dL_law_1205 (v := 2) (by decide) ?_
      refine s_iadd hC.1 dL_law_1206 ?_
      refine l_ald hC dL_law_1207 ?_
      refine l_callC hC (x := v5) (avs := [vI (xs ((v7 + (1 : Int32))).toNatClampNeg), vI (xs ((v7 + (2 : Int32))).toNatClampNeg)]) (st := []) xc9 (m_X9_taken hI.1 v5 (xs ((v7 + (1 : Int32))).toNatClampNeg) (xs ((v7 + (2 : Int32))).toNatClampNeg) μ8.1) dL_law_1208 qm_L_163 qi_X9_taken qs_X9_taken qc_X9 qd_X9_taken qh_X9_taken (by decide) (fun _ => Nat.le_of_ble_eq_true rfl) (Nat.le_of_ble_eq_true rfl) (fun v226 w227 => ?_)
      refine s_ltM (fun μ228 => ?_)
      refine s_aload_n hC.1 2 dL_law_1211 rfl ?_
      refine s_aload_n hC.1 0 dL_law_1212 rfl ?_
      refine s_iload_n hC.1 3 dL_law_1213 rfl ?_
      refine s_iconst hC.1 dL_law_1214 (v := 1) (by decide) ?_
      refine s_iadd hC.1 dL_law_1215 ?_
      refine l_ald hC dL_law_1216 ?_
      refine s_aload_n hC.1 0 dL_law_1217 rfl ?_
      refine s_iload_n hC.1 3 dL_law_1218 rfl ?_
      refine s_iconst hC.1 dL_law_1219 (v := 2) (by decide) ?_
      refine s_iadd hC.1 dL_law_1220 ?_
      refine l_ald hC dL_law_1221 ?_
      refine l_callR hC (x := v6) (avs := [vI (xs ((v7 + (1 : Int32))).toNatClampNeg), vI (xs ((v7 + (2 : Int32))).toNatClampNeg)]) (st := [vI v226]) xc10 (m_X10_taken hI.2 v6 (xs ((v7 + (1 : Int32))).toNatClampNeg) (xs ((v7 + (2 : Int32))).toNatClampNeg) μ228.2) dL_law_1222 qm_L_166 qi_X10_taken qs_X10_taken qc_X10 qd_X10_taken qh_X10_taken (by decide) (fun _ => Nat.le_of_ble_eq_true rfl) (Nat.le_of_ble_eq_true rfl) (fun v229 w230 => ?_)
      refine s_ltM (fun μ231 => ?_)
      refine s_icmp_eq hC.1 dL_law_1225 (tgt := 1466) (by decide) ?_ ?_
      · refine s_iinc hC.1 3 dL_law_1466 rfl (w := 6) (by decide) (by decide) (lv' := [(3, vI (v7 + (6 : Int32))), (0, vR v4), (1, vR v5), (2, vR v6)]) rfl ?_
        refine s_goto hC.1 dL_law_1469 (tgt := 18) (by decide) ?_
        refine s_lv (lv' := [(0, vR v4), (1, vR v5), (2, vR v6), (3, vI (v7 + (6 : Int32)))]) [1, 2, 3, 0] rfl ?_
        exact ih _ _ _ _ _
      exact s_none
    · refine s_aload_n hC.1 1 dL_law_1230 rfl ?_
      refine s_aload_n hC.1 0 dL_law_1231 rfl ?_
      refine s_iload_n hC.1 3 dL_law_1232 rfl ?_
      refine s_iconst hC.1 dL_law_1233 (v := 1) (by decide) ?_
      refine s_iadd hC.1 dL_law_1234 ?_
      refine l_ald hC dL_law_1235 ?_
      refine l_callC hC (x := v5) (avs := [vI (xs ((v7 + (1 : Int32))).toNatClampNeg)]) (st := []) xc9 (m_X9_count hI.1 v5 (xs ((v7 + (1 : Int32))).toNatClampNeg) μ8.1) dL_law_1236 qm_L_167 qi_X9_count qs_X9_count qc_X9 qd_X9_count qh_X9_count (by decide) (fun _ => Nat.le_of_ble_eq_true rfl) (Nat.le_of_ble_eq_true rfl) (fun v232 w233 => ?_)
      refine s_ltM (fun μ234 => ?_)
      refine s_aload_n hC.1 2 dL_law_1239 rfl ?_
      refine s_aload_n hC.1 0 dL_law_1240 rfl ?_
      refine s_iload_n hC.1 3 dL_law_1241 rfl ?_
      refine s_iconst hC.1 dL_law_1242 (v := 1) (by decide) ?_
      refine s_iadd hC.1 dL_law_1243 ?_
      refine l_ald hC dL_law_1244 ?_
      refine l_callR hC (x := v6) (avs := [vI (xs ((v7 + (1 : Int32))).toNatClampNeg)]) (st := [vI v232]) xc10 (m_X10_count hI.2 v6 (xs ((v7 + (1 : Int32))).toNatClampNeg) μ234.2) dL_law_1245 qm_L_170 qi_X10_count qs_X10_count qc_X10 qd_X10_count qh_X10_count (by decide) (fun _ => Nat.le_of_ble_eq_true rfl) (Nat.le_of_ble_eq_true rfl) (fun v235 w236 => ?_)
      refine s_ltM (fun μ237 => ?_)
      refine s_icmp_eq hC.1 dL_law_1248 (tgt := 1466) (by decide) ?_ ?_
      · refine s_iinc hC.1 3 dL_law_1466 rfl (w := 6) (by decide) (by decide) (lv' := [(3, vI (v7 + (6 : Int32))), (0, vR v4), (1, vR v5), (2, vR v6)]) rfl ?_
        refine s_goto hC.1 dL_law_1469 (tgt := 18) (by decide) ?_
        refine s_lv (lv' := [(0, vR v4), (1, vR v5), (2, vR v6), (3, vI (v7 + (6 : Int32)))]) [1, 2, 3, 0] rfl ?_
        exact ih _ _ _ _ _
      exact s_none
    · refine s_aload_n hC.1 1 dL_law_1253 rfl ?_
      refine s_aload_n hC.1 0 dL_law_1254 rfl ?_
      refine s_iload_n hC.1 3 dL_law_1255 rfl ?_
      refine s_iconst hC.1 dL_law_1256 (v := 1) (by decide) ?_
      refine s_iadd hC.1 dL_law_1257 ?_
      refine l_ald hC dL_law_1258 ?_
      refine s_aload_n hC.1 0 dL_law_1259 rfl ?_
      refine s_iload_n hC.1 3 dL_law_1260 rfl ?_
      refine s_iconst hC.1 dL_law_1261 (v := 2) (by decide) ?_
      refine s_iadd hC.1 dL_law_1262 ?_
      refine l_ald hC dL_law_1263 ?_
      refine s_aload_n hC.1 0 dL_law_1264 rfl ?_
      refine s_iload_n hC.1 3 dL_law_1265 rfl ?_
      refine s_iconst hC.1 dL_law_1266 (v := 3) (by decide) ?_
      refine s_iadd hC.1 dL_law_1267 ?_
      refine l_ald hC dL_law_1268 ?_
      refine l_callC hC (x := v5) (avs := [vI (xs ((v7 + (1 : Int32))).toNatClampNeg), vI (xs ((v7 + (2 : Int32))).toNatClampNeg), vI (xs ((v7 + (3 : Int32))).toNatClampNeg)]) (st := []) xc9 (m_X9_tape hI.1 v5 (xs ((v7 + (1 : Int32))).toNatClampNeg) (xs ((v7 + (2 : Int32))).toNatClampNeg) (xs ((v7 + (3 : Int32))).toNatClampNeg) μ8.1) dL_law_1269 qm_L_171 qi_X9_tape qs_X9_tape qc_X9 qd_X9_tape qh_X9_tape (by decide) (fun _ => Nat.le_of_ble_eq_true rfl) (Nat.le_of_ble_eq_true rfl) (fun v238 w239 => ?_)
      refine s_ltM (fun μ240 => ?_)
      refine s_aload_n hC.1 2 dL_law_1272 rfl ?_
      refine s_aload_n hC.1 0 dL_law_1273 rfl ?_
      refine s_iload_n hC.1 3 dL_law_1274 rfl ?_
      refine s_iconst hC.1 dL_law_1275 (v := 1) (by decide) ?_
      refine s_iadd hC.1 dL_law_1276 ?_
      refine l_ald hC dL_law_1277 ?_
      refine s_aload_n hC.1 0 dL_law_1278 rfl ?_
      refine s_iload_n hC.1 3 dL_law_1279 rfl ?_
      refine s_iconst hC.1 dL_law_1280 (v := 2) (by decide) ?_
      refine s_iadd hC.1 dL_law_1281 ?_
      refine l_ald hC dL_law_1282 ?_
      refine s_aload_n hC.1 0 dL_law_1283 rfl ?_
      refine s_iload_n hC.1 3 dL_law_1284 rfl ?_
      refine s_iconst hC.1 dL_law_1285 (v := 3) (by decide) ?_
      refine s_iadd hC.1 dL_law_1286 ?_
      refine l_ald hC dL_law_1287 ?_
      refine l_callR hC (x := v6) (avs := [vI (xs ((v7 + (1 : Int32))).toNatClampNeg), vI (xs ((v7 + (2 : Int32))).toNatClampNeg), vI (xs ((v7 + (3 : Int32))).toNatClampNeg)]) (st := [vI v238]) xc10 (m_X10_tape hI.2 v6 (xs ((v7 + (1 : Int32))).toNatClampNeg) (xs ((v7 + (2 : Int32))).toNatClampNeg) (xs ((v7 + (3 : Int32))).toNatClampNeg) μ240.2) dL_law_1288 qm_L_174 qi_X10_tape qs_X10_tape qc_X10 qd_X10_tape qh_X10_tape (by decide) (fun _ => Nat.le_of_ble_eq_true rfl) (Nat.le_of_ble_eq_true rfl) (fun v241 w242 => ?_)
      refine s_ltM (fun μ243 => ?_)
      refine s_icmp_eq hC.1 dL_law_1291 (tgt := 1466) (by decide) ?_ ?_
      · refine s_iinc hC.1 3 dL_law_1466 rfl (w := 6) (by decide) (by decide) (lv' := [(3, vI (v7 + (6 : Int32))), (0, vR v4), (1, vR v5), (2, vR v6)]) rfl ?_
        refine s_goto hC.1 dL_law_1469 (tgt := 18) (by decide) ?_
        refine s_lv (lv' := [(0, vR v4), (1, vR v5), (2, vR v6), (3, vI (v7 + (6 : Int32)))]) [1, 2, 3, 0] rfl ?_
        exact ih _ _ _ _ _
      exact s_none
    · refine s_aload_n hC.1 1 dL_law_1296 rfl ?_
      refine s_aload_n hC.1 0 dL_law_1297 rfl ?_
      refine s_iload_n hC.1 3 dL_law_1298 rfl ?_
      refine s_iconst hC.1 dL_law_1299 (v := 1) (by decide) ?_
      refine s_iadd hC.1 dL_law_1300 ?_
      refine l_ald hC dL_law_1301 ?_
      refine s_aload_n hC.1 0 dL_law_1302 rfl ?_
      refine s_iload_n hC.1 3 dL_law_1303 rfl ?_
      refine s_iconst hC.1 dL_law_1304 (v := 2) (by decide) ?_
      refine s_iadd hC.1 dL_law_1305 ?_
      refine l_ald hC dL_law_1306 ?_
      refine s_aload_n hC.1 0 dL_law_1307 rfl ?_
      refine s_iload_n hC.1 3 dL_law_1308 rfl ?_
      refine s_iconst hC.1 dL_law_1309 (v := 3) (by decide) ?_
      refine s_iadd hC.1 dL_law_1310 ?_
      refine l_ald hC dL_law_1311 ?_
      refine s_i2l hC.1 dL_law_1312 ?_
      refine s_bipush hC.1 dL_law_1313 (v := 32) (by decide) ?_
      refine s_lshl hC.1 dL_law_1315 ?_
      refine s_aload_n hC.1 0 dL_law_1316 rfl ?_
      refine s_iload_n hC.1 3 dL_law_1317 rfl ?_
      refine s_iconst hC.1 dL_law_1318 (v := 4) (by decide) ?_
      refine s_iadd hC.1 dL_law_1319 ?_
      refine l_ald hC dL_law_1320 ?_
      refine s_i2l hC.1 dL_law_1321 ?_
      refine s_ldc2 hC.1 dL_law_1322 qk_L_175 ?_
      refine s_land hC.1 dL_law_1325 ?_
      refine s_lor hC.1 dL_law_1326 ?_
      refine l_callC hC (x := v5) (avs := [vI (xs ((v7 + (1 : Int32))).toNatClampNeg), vI (xs ((v7 + (2 : Int32))).toNatClampNeg), vJ (((((xs ((v7 + (3 : Int32))).toNatClampNeg)).toInt64) <<< (((32 : Int32)).toInt64 &&& 63)) ||| ((((xs ((v7 + (4 : Int32))).toNatClampNeg)).toInt64) &&& (4294967295 : Int64)))]) (st := []) xc9 (m_X9_item hI.1 v5 (xs ((v7 + (1 : Int32))).toNatClampNeg) (xs ((v7 + (2 : Int32))).toNatClampNeg) (((((xs ((v7 + (3 : Int32))).toNatClampNeg)).toInt64) <<< (((32 : Int32)).toInt64 &&& 63)) ||| ((((xs ((v7 + (4 : Int32))).toNatClampNeg)).toInt64) &&& (4294967295 : Int64))) μ8.1) dL_law_1327 qm_L_177 qi_X9_item qs_X9_item qc_X9 qd_X9_item qh_X9_item (by decide) (fun _ => Nat.le_of_ble_eq_true rfl) (Nat.le_of_ble_eq_true rfl) (fun v244 w245 => ?_)
      refine s_ltM (fun μ246 => ?_)
      refine s_aload_n hC.1 2 dL_law_1330 rfl ?_
      refine s_aload_n hC.1 0 dL_law_1331 rfl ?_
      refine s_iload_n hC.1 3 dL_law_1332 rfl ?_
      refine s_iconst hC.1 dL_law_1333 (v := 1) (by decide) ?_
      refine s_iadd hC.1 dL_law_1334 ?_
      refine l_ald hC dL_law_1335 ?_
      refine s_aload_n hC.1 0 dL_law_1336 rfl ?_
      refine s_iload_n hC.1 3 dL_law_1337 rfl ?_
      refine s_iconst hC.1 dL_law_1338 (v := 2) (by decide) ?_
      refine s_iadd hC.1 dL_law_1339 ?_
      refine l_ald hC dL_law_1340 ?_
      refine s_aload_n hC.1 0 dL_law_1341 rfl ?_
      refine s_iload_n hC.1 3 dL_law_1342 rfl ?_
      refine s_iconst hC.1 dL_law_1343 (v := 3) (by decide) ?_
      refine s_iadd hC.1 dL_law_1344 ?_
      refine l_ald hC dL_law_1345 ?_
      refine s_i2l hC.1 dL_law_1346 ?_
      refine s_bipush hC.1 dL_law_1347 (v := 32) (by decide) ?_
      refine s_lshl hC.1 dL_law_1349 ?_
      refine s_aload_n hC.1 0 dL_law_1350 rfl ?_
      refine s_iload_n hC.1 3 dL_law_1351 rfl ?_
      refine s_iconst hC.1 dL_law_1352 (v := 4) (by decide) ?_
      refine s_iadd hC.1 dL_law_1353 ?_
      refine l_ald hC dL_law_1354 ?_
      refine s_i2l hC.1 dL_law_1355 ?_
      refine s_ldc2 hC.1 dL_law_1356 qk_L_175 ?_
      refine s_land hC.1 dL_law_1359 ?_
      refine s_lor hC.1 dL_law_1360 ?_
      refine l_callR hC (x := v6) (avs := [vI (xs ((v7 + (1 : Int32))).toNatClampNeg), vI (xs ((v7 + (2 : Int32))).toNatClampNeg), vJ (((((xs ((v7 + (3 : Int32))).toNatClampNeg)).toInt64) <<< (((32 : Int32)).toInt64 &&& 63)) ||| ((((xs ((v7 + (4 : Int32))).toNatClampNeg)).toInt64) &&& (4294967295 : Int64)))]) (st := [vI v244]) xc10 (m_X10_item hI.2 v6 (xs ((v7 + (1 : Int32))).toNatClampNeg) (xs ((v7 + (2 : Int32))).toNatClampNeg) (((((xs ((v7 + (3 : Int32))).toNatClampNeg)).toInt64) <<< (((32 : Int32)).toInt64 &&& 63)) ||| ((((xs ((v7 + (4 : Int32))).toNatClampNeg)).toInt64) &&& (4294967295 : Int64))) μ246.2) dL_law_1361 qm_L_181 qi_X10_item qs_X10_item qc_X10 qd_X10_item qh_X10_item (by decide) (fun _ => Nat.le_of_ble_eq_true rfl) (Nat.le_of_ble_eq_true rfl) (fun v247 w248 => ?_)
      refine s_ltM (fun μ249 => ?_)
      refine s_icmp_eq hC.1 dL_law_1364 (tgt := 1466) (by decide) ?_ ?_
      · refine s_iinc hC.1 3 dL_law_1466 rfl (w := 6) (by decide) (by decide) (lv' := [(3, vI (v7 + (6 : Int32))), (0, vR v4), (1, vR v5), (2, vR v6)]) rfl ?_
        refine s_goto hC.1 dL_law_1469 (tgt := 18) (by decide) ?_
        refine s_lv (lv' := [(0, vR v4), (1, vR v5), (2, vR v6), (3, vI (v7 + (6 : Int32)))]) [1, 2, 3, 0] rfl ?_
        exact ih _ _ _ _ _
      exact s_none
    · refine s_aload_n hC.1 1 dL_law_1369 rfl ?_
      refine s_aload_n hC.1 0 dL_law_1370 rfl ?_
      refine s_iload_n hC.1 3 dL_law_1371 rfl ?_
      refine s_iconst hC.1 dL_law_1372 (v := 1) (by decide) ?_
      refine s_iadd hC.1 dL_law_1373 ?_
      refine l_ald hC dL_law_1374 ?_
      refine s_aload_n hC.1 0 dL_law_1375 rfl ?_
      refine s_iload_n hC.1 3 dL_law_1376 rfl ?_
      refine s_iconst hC.1 dL_law_1377 (v := 2) (by decide) ?_
      refine s_iadd hC.1 dL_law_1378 ?_
      refine l_ald hC dL_law_1379 ?_
      refine l_callC hC (x := v5) (avs := [vI (xs ((v7 + (1 : Int32))).toNatClampNeg), vI (xs ((v7 + (2 : Int32))).toNatClampNeg)]) (st := []) xc9 (m_X9_read hI.1 v5 (xs ((v7 + (1 : Int32))).toNatClampNeg) (xs ((v7 + (2 : Int32))).toNatClampNeg) μ8.1) dL_law_1380 qm_L_182 qi_X9_read qs_X9_read qc_X9 qd_X9_read qh_X9_read (by decide) (fun _ => Nat.le_of_ble_eq_true rfl) (Nat.le_of_ble_eq_true rfl) (fun v250 w251 => ?_)
      refine s_ltM (fun μ252 => ?_)
      refine s_aload_n hC.1 2 dL_law_1383 rfl ?_
      refine s_aload_n hC.1 0 dL_law_1384 rfl ?_
      refine s_iload_n hC.1 3 dL_law_1385 rfl ?_
      refine s_iconst hC.1 dL_law_1386 (v := 1) (by decide) ?_
      refine s_iadd hC.1 dL_law_1387 ?_
      refine l_ald hC dL_law_1388 ?_
      refine s_aload_n hC.1 0 dL_law_1389 rfl ?_
      refine s_iload_n hC.1 3 dL_law_1390 rfl ?_
      refine s_iconst hC.1 dL_law_1391 (v := 2) (by decide) ?_
      refine s_iadd hC.1 dL_law_1392 ?_
      refine l_ald hC dL_law_1393 ?_
      refine l_callR hC (x := v6) (avs := [vI (xs ((v7 + (1 : Int32))).toNatClampNeg), vI (xs ((v7 + (2 : Int32))).toNatClampNeg)]) (st := [vJ v250]) xc10 (m_X10_read hI.2 v6 (xs ((v7 + (1 : Int32))).toNatClampNeg) (xs ((v7 + (2 : Int32))).toNatClampNeg) μ252.2) dL_law_1394 qm_L_185 qi_X10_read qs_X10_read qc_X10 qd_X10_read qh_X10_read (by decide) (fun _ => Nat.le_of_ble_eq_true rfl) (Nat.le_of_ble_eq_true rfl) (fun v253 w254 => ?_)
      refine s_ltM (fun μ255 => ?_)
      refine s_lcmp hC.1 dL_law_1397 ?_
      refine s_if_eq hC.1 dL_law_1398 (tgt := 1466) (by decide) ?_ ?_
      · refine s_iinc hC.1 3 dL_law_1466 rfl (w := 6) (by decide) (by decide) (lv' := [(3, vI (v7 + (6 : Int32))), (0, vR v4), (1, vR v5), (2, vR v6)]) rfl ?_
        refine s_goto hC.1 dL_law_1469 (tgt := 18) (by decide) ?_
        refine s_lv (lv' := [(0, vR v4), (1, vR v5), (2, vR v6), (3, vI (v7 + (6 : Int32)))]) [1, 2, 3, 0] rfl ?_
        exact ih _ _ _ _ _
      exact s_none
    · refine s_aload_n hC.1 1 dL_law_1403 rfl ?_
      refine s_aload_n hC.1 0 dL_law_1404 rfl ?_
      refine s_iload_n hC.1 3 dL_law_1405 rfl ?_
      refine s_iconst hC.1 dL_law_1406 (v := 1) (by decide) ?_
      refine s_iadd hC.1 dL_law_1407 ?_
      refine l_ald hC dL_law_1408 ?_
      refine s_aload_n hC.1 0 dL_law_1409 rfl ?_
      refine s_iload_n hC.1 3 dL_law_1410 rfl ?_
      refine s_iconst hC.1 dL_law_1411 (v := 2) (by decide) ?_
      refine s_iadd hC.1 dL_law_1412 ?_
      refine l_ald hC dL_law_1413 ?_
      refine s_aload_n hC.1 0 dL_law_1414 rfl ?_
      refine s_iload_n hC.1 3 dL_law_1415 rfl ?_
      refine s_iconst hC.1 dL_law_1416 (v := 3) (by decide) ?_
      refine s_iadd hC.1 dL_law_1417 ?_
      refine l_ald hC dL_law_1418 ?_
      refine s_aload_n hC.1 0 dL_law_1419 rfl ?_
      refine s_iload_n hC.1 3 dL_law_1420 rfl ?_
      refine s_iconst hC.1 dL_law_1421 (v := 4) (by decide) ?_
      refine s_iadd hC.1 dL_law_1422 ?_
      refine l_ald hC dL_law_1423 ?_
      refine s_aload_n hC.1 0 dL_law_1424 rfl ?_
      refine s_iload_n hC.1 3 dL_law_1425 rfl ?_
      refine s_iconst hC.1 dL_law_1426 (v := 5) (by decide) ?_
      refine s_iadd hC.1 dL_law_1427 ?_
      refine l_ald hC dL_law_1428 ?_
      refine l_callC hC (x := v5) (avs := [vI (xs ((v7 + (1 : Int32))).toNatClampNeg), vI (xs ((v7 + (2 : Int32))).toNatClampNeg), vI (xs ((v7 + (3 : Int32))).toNatClampNeg), vI (xs ((v7 + (4 : Int32))).toNatClampNeg), vI (xs ((v7 + (5 : Int32))).toNatClampNeg)]) (st := []) xc9 (m_X9_shift hI.1 v5 (xs ((v7 + (1 : Int32))).toNatClampNeg) (xs ((v7 + (2 : Int32))).toNatClampNeg) (xs ((v7 + (3 : Int32))).toNatClampNeg) (xs ((v7 + (4 : Int32))).toNatClampNeg) (xs ((v7 + (5 : Int32))).toNatClampNeg) μ8.1) dL_law_1429 qm_L_186 qi_X9_shift qs_X9_shift qc_X9 qd_X9_shift qh_X9_shift (by decide) (fun _ => Nat.le_of_ble_eq_true rfl) (Nat.le_of_ble_eq_true rfl) (fun v256 w257 => ?_)
      refine s_ltM (fun μ258 => ?_)
      refine s_aload_n hC.1 2 dL_law_1432 rfl ?_
      refine s_aload_n hC.1 0 dL_law_1433 rfl ?_
      refine s_iload_n hC.1 3 dL_law_1434 rfl ?_
      refine s_iconst hC.1 dL_law_1435 (v := 1) (by decide) ?_
      refine s_iadd hC.1 dL_law_1436 ?_
      refine l_ald hC dL_law_1437 ?_
      refine s_aload_n hC.1 0 dL_law_1438 rfl ?_
      refine s_iload_n hC.1 3 dL_law_1439 rfl ?_
      refine s_iconst hC.1 dL_law_1440 (v := 2) (by decide) ?_
      refine s_iadd hC.1 dL_law_1441 ?_
      refine l_ald hC dL_law_1442 ?_
      refine s_aload_n hC.1 0 dL_law_1443 rfl ?_
      refine s_iload_n hC.1 3 dL_law_1444 rfl ?_
      refine s_iconst hC.1 dL_law_1445 (v := 3) (by decide) ?_
      refine s_iadd hC.1 dL_law_1446 ?_
      refine l_ald hC dL_law_1447 ?_
      refine s_aload_n hC.1 0 dL_law_1448 rfl ?_
      refine s_iload_n hC.1 3 dL_law_1449 rfl ?_
      refine s_iconst hC.1 dL_law_1450 (v := 4) (by decide) ?_
      refine s_iadd hC.1 dL_law_1451 ?_
      refine l_ald hC dL_law_1452 ?_
      refine s_aload_n hC.1 0 dL_law_1453 rfl ?_
      refine s_iload_n hC.1 3 dL_law_1454 rfl ?_
      refine s_iconst hC.1 dL_law_1455 (v := 5) (by decide) ?_
      refine s_iadd hC.1 dL_law_1456 ?_
      refine l_ald hC dL_law_1457 ?_
      refine l_callR hC (x := v6) (avs := [vI (xs ((v7 + (1 : Int32))).toNatClampNeg), vI (xs ((v7 + (2 : Int32))).toNatClampNeg), vI (xs ((v7 + (3 : Int32))).toNatClampNeg), vI (xs ((v7 + (4 : Int32))).toNatClampNeg), vI (xs ((v7 + (5 : Int32))).toNatClampNeg)]) (st := [vI v256]) xc10 (m_X10_shift hI.2 v6 (xs ((v7 + (1 : Int32))).toNatClampNeg) (xs ((v7 + (2 : Int32))).toNatClampNeg) (xs ((v7 + (3 : Int32))).toNatClampNeg) (xs ((v7 + (4 : Int32))).toNatClampNeg) (xs ((v7 + (5 : Int32))).toNatClampNeg) μ258.2) dL_law_1458 qm_L_190 qi_X10_shift qs_X10_shift qc_X10 qd_X10_shift qh_X10_shift (by decide) (fun _ => Nat.le_of_ble_eq_true rfl) (Nat.le_of_ble_eq_true rfl) (fun v259 w260 => ?_)
      refine s_ltM (fun μ261 => ?_)
      refine s_icmp_eq hC.1 dL_law_1461 (tgt := 1466) (by decide) ?_ ?_
      · refine s_iinc hC.1 3 dL_law_1466 rfl (w := 6) (by decide) (by decide) (lv' := [(3, vI (v7 + (6 : Int32))), (0, vR v4), (1, vR v5), (2, vR v6)]) rfl ?_
        refine s_goto hC.1 dL_law_1469 (tgt := 18) (by decide) ?_
        refine s_lv (lv' := [(0, vR v4), (1, vR v5), (2, vR v6), (3, vI (v7 + (6 : Int32)))]) [1, 2, 3, 0] rfl ?_
        exact ih _ _ _ _ _
      exact s_none
    refine s_iinc hC.1 3 dL_law_1466 rfl (w := 6) (by decide) (by decide) (lv' := [(3, vI (v7 + (6 : Int32))), (0, vR v4), (1, vR v5), (2, vR v6)]) rfl ?_
    refine s_goto hC.1 dL_law_1469 (tgt := 18) (by decide) ?_
    refine s_lv (lv' := [(0, vR v4), (1, vR v5), (2, vR v6), (3, vI (v7 + (6 : Int32)))]) [1, 2, 3, 0] rfl ?_
    exact ih _ _ _ _ _
