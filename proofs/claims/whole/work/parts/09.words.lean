theorem qm_J1_88 : x_in (.methodLink RJ1 88 yJ1_canEncode_9a6ad) := ⟨List.mem_of_getElem? (i := 641) (by decide +kernel), Or.inl (by decide +kernel)⟩
theorem qd_J1_canEncode_9a6ad : x_in (.code yJ1_canEncode_9a6ad cJ1_canEncode_9a6ad 1 (some .boolean)) := ⟨List.mem_of_getElem? (i := 643) (by decide +kernel), Or.inl (by decide +kernel)⟩
theorem qc_J1 : x_in (.initialized RJ1) := ⟨List.mem_of_getElem? (i := 93) (by decide +kernel), Or.inl (by decide +kernel)⟩
theorem qt_J1_canEncode_9a6ad : x_in (.static yJ1_canEncode_9a6ad) := ⟨List.mem_of_getElem? (i := 642) (by decide +kernel), Or.inl (by decide +kernel)⟩
theorem qm_J1_92 : x_in (.methodLink RJ1 92 Lib.Math.max.name) := ⟨List.mem_of_getElem? (i := 644) (by decide +kernel), Or.inl (by decide +kernel)⟩
theorem qt_Math_max : x_in (.static Lib.Math.max.name) := ⟨List.mem_of_getElem? (i := 416) (by decide +kernel), Or.inl (by decide +kernel)⟩
theorem qc_Math : x_in (.initialized "java/lang/Math") := ⟨List.mem_of_getElem? (i := 84) (by decide +kernel), Or.inl (by decide +kernel)⟩
theorem qd_Math_max : x_in (.code Lib.Math.max.name Lib.Math.max.code 2 (some .int)) := ⟨List.mem_of_getElem? (i := 417) (by decide +kernel), Or.inl (by decide +kernel)⟩
theorem qm_J1_38 : x_in (.methodLink RJ1 38 Lib.Math.min.name) := ⟨List.mem_of_getElem? (i := 645) (by decide +kernel), Or.inl (by decide +kernel)⟩
theorem qt_Math_min : x_in (.static Lib.Math.min.name) := ⟨List.mem_of_getElem? (i := 132) (by decide +kernel), Or.inl (by decide +kernel)⟩
theorem qd_Math_min : x_in (.code Lib.Math.min.name Lib.Math.min.code 2 (some .int)) := ⟨List.mem_of_getElem? (i := 133) (by decide +kernel), Or.inl (by decide +kernel)⟩
theorem qm_J1_95 : x_in (.methodLink RJ1 95 yJ1_indexOfChar_4cfef) := ⟨List.mem_of_getElem? (i := 646) (by decide +kernel), Or.inl (by decide +kernel)⟩
theorem qd_J1_indexOfChar_4cfef : x_in (.code yJ1_indexOfChar_4cfef cJ1_indexOfChar_4cfef 6 (some .int)) := ⟨List.mem_of_getElem? (i := 648) (by decide +kernel), Or.inl (by decide +kernel)⟩
theorem qt_J1_indexOfChar_4cfef : x_in (.static yJ1_indexOfChar_4cfef) := ⟨List.mem_of_getElem? (i := 647) (by decide +kernel), Or.inl (by decide +kernel)⟩
theorem qg_J0_1053 : x_in (Cond.fieldLink RJ0 1053 "jdk/internal/util/Preconditions" "SIOOBE_FORMATTER" "Ljava/util/function/BiFunction;") := ⟨List.mem_of_getElem? (i := 570) (by decide +kernel), Or.inl (by decide +kernel)⟩
theorem qm_J0_1059 : x_in (.methodLink RJ0 1059 yJ3_checkIndex_8e157) := ⟨List.mem_of_getElem? (i := 572) (by decide +kernel), Or.inl (by decide +kernel)⟩
theorem qd_J3_checkIndex_8e157 : x_in (.code yJ3_checkIndex_8e157 cJ3_checkIndex_8e157 3 (some .int)) := ⟨List.mem_of_getElem? (i := 574) (by decide +kernel), Or.inl (by decide +kernel)⟩
theorem qc_J3 : x_in (.initialized RJ3) := ⟨List.mem_of_getElem? (i := 94) (by decide +kernel), Or.inl (by decide +kernel)⟩
theorem qt_J3_checkIndex_8e157 : x_in (.static yJ3_checkIndex_8e157) := ⟨List.mem_of_getElem? (i := 573) (by decide +kernel), Or.inl (by decide +kernel)⟩
theorem qm_J1_9 : x_in (.methodLink RJ1 9 yJ0_checkIndex_df160) := ⟨List.mem_of_getElem? (i := 567) (by decide +kernel), Or.inl (by decide +kernel)⟩
theorem qd_J0_checkIndex_df160 : x_in (.code yJ0_checkIndex_df160 cJ0_checkIndex_df160 2 none) := ⟨List.mem_of_getElem? (i := 569) (by decide +kernel), Or.inl (by decide +kernel)⟩
theorem qc_J0 : x_in (.initialized RJ0) := ⟨List.mem_of_getElem? (i := 92) (by decide +kernel), Or.inl (by decide +kernel)⟩
theorem qt_J0_checkIndex_df160 : x_in (.static yJ0_checkIndex_df160) := ⟨List.mem_of_getElem? (i := 568) (by decide +kernel), Or.inl (by decide +kernel)⟩
theorem qg_J0_38 : x_in (Cond.fieldLink RJ0 38 "java/lang/String" "COMPACT_STRINGS" "Z") := ⟨List.mem_of_getElem? (i := 553) (by decide +kernel), Or.inl (by decide +kernel)⟩
theorem qf_J0_15 : x_in (.fieldLink RJ0 15 "java/lang/String" "coder" "B") := ⟨List.mem_of_getElem? (i := 1734) (by decide +kernel), Or.inl (by decide +kernel)⟩
theorem qf_J0_9 : x_in (.fieldLink RJ0 9 "java/lang/String" "value" "[B") := ⟨List.mem_of_getElem? (i := 1733) (by decide +kernel), Or.inl (by decide +kernel)⟩
theorem qm_J0_335 : x_in (.methodLink RJ0 335 yJ0_coder_7d493) := ⟨List.mem_of_getElem? (i := 549) (by decide +kernel), Or.inl (by decide +kernel)⟩
theorem qd_J0_coder_7d493 : x_in (.code yJ0_coder_7d493 cJ0_coder_7d493 1 (some .byte)) := ⟨List.mem_of_getElem? (i := 552) (by decide +kernel), Or.inl (by decide +kernel)⟩
theorem qi_J0_coder_7d493 : x_in (.instanceMethod yJ0_coder_7d493) := ⟨List.mem_of_getElem? (i := 550) (by decide +kernel), Or.inl (by decide +kernel)⟩
theorem qs_J0_coder_7d493 : x_in (.selects RJ0 yJ0_coder_7d493 yJ0_coder_7d493) := ⟨List.mem_of_getElem? (i := 551) (by decide +kernel), Or.inl (by decide +kernel)⟩
theorem qm_J0_492 : x_in (.methodLink RJ0 492 yJ0_isLatin1_aae02) := ⟨List.mem_of_getElem? (i := 560) (by decide +kernel), Or.inl (by decide +kernel)⟩
theorem qd_J0_isLatin1_aae02 : x_in (.code yJ0_isLatin1_aae02 cJ0_isLatin1_aae02 1 (some .boolean)) := ⟨List.mem_of_getElem? (i := 563) (by decide +kernel), Or.inl (by decide +kernel)⟩
theorem qi_J0_isLatin1_aae02 : x_in (.instanceMethod yJ0_isLatin1_aae02) := ⟨List.mem_of_getElem? (i := 561) (by decide +kernel), Or.inl (by decide +kernel)⟩
theorem qs_J0_isLatin1_aae02 : x_in (.selects RJ0 yJ0_isLatin1_aae02 yJ0_isLatin1_aae02) := ⟨List.mem_of_getElem? (i := 562) (by decide +kernel), Or.inl (by decide +kernel)⟩
theorem qm_J0_505 : x_in (.methodLink RJ0 505 yJ0_length_8abf5) := ⟨List.mem_of_getElem? (i := 637) (by decide +kernel), Or.inl (by decide +kernel)⟩
theorem qd_J0_length_8abf5 : x_in (.code yJ0_length_8abf5 cJ0_length_8abf5 1 (some .int)) := ⟨List.mem_of_getElem? (i := 548) (by decide +kernel), Or.inl (by decide +kernel)⟩
theorem qi_J0_length_8abf5 : x_in (.instanceMethod yJ0_length_8abf5) := ⟨List.mem_of_getElem? (i := 546) (by decide +kernel), Or.inl (by decide +kernel)⟩
theorem qs_J0_length_8abf5 : x_in (.selects RJ0 yJ0_length_8abf5 yJ0_length_8abf5) := ⟨List.mem_of_getElem? (i := 547) (by decide +kernel), Or.inl (by decide +kernel)⟩
theorem qm_J0_637 : x_in (.methodLink RJ0 637 yJ1_indexOf_4cfef) := ⟨List.mem_of_getElem? (i := 638) (by decide +kernel), Or.inl (by decide +kernel)⟩
theorem qd_J1_indexOf_4cfef : x_in (.code yJ1_indexOf_4cfef cJ1_indexOf_4cfef 4 (some .int)) := ⟨List.mem_of_getElem? (i := 640) (by decide +kernel), Or.inl (by decide +kernel)⟩
theorem qt_J1_indexOf_4cfef : x_in (.static yJ1_indexOf_4cfef) := ⟨List.mem_of_getElem? (i := 639) (by decide +kernel), Or.inl (by decide +kernel)⟩
theorem qm_J0_495 : x_in (.methodLink RJ0 495 yJ1_charAt_3b067) := ⟨List.mem_of_getElem? (i := 564) (by decide +kernel), Or.inl (by decide +kernel)⟩
theorem qd_J1_charAt_3b067 : x_in (.code yJ1_charAt_3b067 cJ1_charAt_3b067 2 (some .char)) := ⟨List.mem_of_getElem? (i := 566) (by decide +kernel), Or.inl (by decide +kernel)⟩
theorem qt_J1_charAt_3b067 : x_in (.static yJ1_charAt_3b067) := ⟨List.mem_of_getElem? (i := 565) (by decide +kernel), Or.inl (by decide +kernel)⟩
theorem qm_J0_633 : x_in (.methodLink RJ0 633 yJ0_indexOf_7cf53) := ⟨List.mem_of_getElem? (i := 633) (by decide +kernel), Or.inl (by decide +kernel)⟩
theorem qd_J0_indexOf_7cf53 : x_in (.code yJ0_indexOf_7cf53 cJ0_indexOf_7cf53 3 (some .int)) := ⟨List.mem_of_getElem? (i := 636) (by decide +kernel), Or.inl (by decide +kernel)⟩
theorem qi_J0_indexOf_7cf53 : x_in (.instanceMethod yJ0_indexOf_7cf53) := ⟨List.mem_of_getElem? (i := 634) (by decide +kernel), Or.inl (by decide +kernel)⟩
theorem qs_J0_indexOf_7cf53 : x_in (.selects RJ0 yJ0_indexOf_7cf53 yJ0_indexOf_7cf53) := ⟨List.mem_of_getElem? (i := 635) (by decide +kernel), Or.inl (by decide +kernel)⟩
theorem qf_X3_9 : x_in (x_fl false RX3 9 RX3 TX3 0) := ⟨List.mem_of_getElem? (i := 118) (by decide +kernel), Or.inl (by decide +kernel)⟩
theorem qm_X3_19 : x_in (.methodLink RX3 19 Lib.Math.min.name) := ⟨List.mem_of_getElem? (i := 414) (by decide +kernel), Or.inl (by decide +kernel)⟩
theorem qm_X3_25 : x_in (.methodLink RX3 25 Lib.Math.max.name) := ⟨List.mem_of_getElem? (i := 415) (by decide +kernel), Or.inl (by decide +kernel)⟩
theorem qm_X3_15 : x_in (.methodLinkNest RX3 15 yX9_at "LakeBooks") := ⟨List.mem_of_getElem? (i := 403) (by decide +kernel), Or.inr (by decide +kernel)⟩
theorem qd_X9_at : x_in (.code yX9_at cX9_at 2 (some .int)) := ⟨List.mem_of_getElem? (i := 405) (by decide +kernel), Or.inl (by decide +kernel)⟩
theorem qc_X9 : x_in (.initialized RX9) := ⟨List.mem_of_getElem? (i := 80) (by decide +kernel), Or.inl (by decide +kernel)⟩
theorem qt_X9_at : x_in (.static yX9_at) := ⟨List.mem_of_getElem? (i := 404) (by decide +kernel), Or.inl (by decide +kernel)⟩
theorem qf_X6_28 : x_in (x_fl false RX6 28 RX6 TX6 3) := ⟨List.mem_of_getElem? (i := 137) (by decide +kernel), Or.inl (by decide +kernel)⟩
theorem qf_X6_9 : x_in (x_fl false RX6 9 RX6 TX6 0) := ⟨List.mem_of_getElem? (i := 134) (by decide +kernel), Or.inl (by decide +kernel)⟩
theorem qm_X6_31 : x_in (.methodLinkNest RX6 31 yX9_at "LakeBooks") := ⟨List.mem_of_getElem? (i := 759) (by decide +kernel), Or.inr (by decide +kernel)⟩
theorem qf_X6_15 : x_in (x_fl false RX6 15 RX6 TX6 1) := ⟨List.mem_of_getElem? (i := 135) (by decide +kernel), Or.inl (by decide +kernel)⟩
theorem qf_X6_24 : x_in (x_fl false RX6 24 RX6 TX6 2) := ⟨List.mem_of_getElem? (i := 136) (by decide +kernel), Or.inl (by decide +kernel)⟩
theorem qm_X6_35 : x_in (.methodLinkNest RX6 35 yX9_within "LakeBooks") := ⟨List.mem_of_getElem? (i := 892) (by decide +kernel), Or.inr (by decide +kernel)⟩
theorem qd_X9_within : x_in (.code yX9_within cX9_within 3 (some .boolean)) := ⟨List.mem_of_getElem? (i := 398) (by decide +kernel), Or.inl (by decide +kernel)⟩
theorem qt_X9_within : x_in (.static yX9_within) := ⟨List.mem_of_getElem? (i := 397) (by decide +kernel), Or.inl (by decide +kernel)⟩
theorem qf_X8_15 : x_in (x_fl false RX8 15 RX8 TX8 1) := ⟨List.mem_of_getElem? (i := 352) (by decide +kernel), Or.inl (by decide +kernel)⟩
theorem qm_X8_19 : x_in (.methodLink RX8 19 Lib.Math.min.name) := ⟨List.mem_of_getElem? (i := 1068) (by decide +kernel), Or.inl (by decide +kernel)⟩
theorem qm_X8_25 : x_in (.methodLink RX8 25 Lib.Math.max.name) := ⟨List.mem_of_getElem? (i := 1069) (by decide +kernel), Or.inl (by decide +kernel)⟩
theorem qf_X8_28 : x_in (x_fl false RX8 28 RX8 TX8 2) := ⟨List.mem_of_getElem? (i := 354) (by decide +kernel), Or.inl (by decide +kernel)⟩
theorem qf_X8_9 : x_in (x_fl false RX8 9 RX8 TX8 0) := ⟨List.mem_of_getElem? (i := 351) (by decide +kernel), Or.inl (by decide +kernel)⟩
theorem qk_X8_35 : x_in (.constantLong RX8 35 (-9223372036854775808)) := ⟨List.mem_of_getElem? (i := 989) (by decide +kernel), Or.inl (by decide +kernel)⟩
theorem qm_X8_37 : x_in (.methodLink RX8 37 arraycopyName) := ⟨List.mem_of_getElem? (i := 1094) (by decide +kernel), Or.inl (by decide +kernel)⟩
theorem qn_arraycopy : x_in (.native arraycopyName) := ⟨List.mem_of_getElem? (i := 1096) (by decide +kernel), Or.inl (by decide +kernel)⟩
theorem qt_arraycopy : x_in (.static arraycopyName) := ⟨List.mem_of_getElem? (i := 1095) (by decide +kernel), Or.inl (by decide +kernel)⟩
theorem qc_System : x_in (.initialized "java/lang/System") := ⟨List.mem_of_getElem? (i := 97) (by decide +kernel), Or.inl (by decide +kernel)⟩
theorem qm_X8_31 : x_in (.methodLink RX8 31 yX8_cut) := ⟨List.mem_of_getElem? (i := 1078) (by decide +kernel), Or.inl (by decide +kernel)⟩
theorem qd_X8_cut : x_in (.code yX8_cut cX8_cut 3 (some .long)) := ⟨List.mem_of_getElem? (i := 1081) (by decide +kernel), Or.inl (by decide +kernel)⟩
theorem qc_X8 : x_in (.initialized RX8) := ⟨List.mem_of_getElem? (i := 90) (by decide +kernel), Or.inl (by decide +kernel)⟩
theorem qi_X8_cut : x_in (.instanceMethod yX8_cut) := ⟨List.mem_of_getElem? (i := 1080) (by decide +kernel), Or.inl (by decide +kernel)⟩
theorem qs_X8_cut : x_in (.selects RX8 yX8_cut yX8_cut) := ⟨List.mem_of_getElem? (i := 22) (by decide +kernel), Or.inl (by decide +kernel)⟩
theorem qf_X0_19 : x_in (x_fl false RX0 19 RX0 TX0 2) := ⟨List.mem_of_getElem? (i := 203) (by decide +kernel), Or.inl (by decide +kernel)⟩
theorem qf_X0_23 : x_in (x_fl false RX0 23 RX0 TX0 3) := ⟨List.mem_of_getElem? (i := 206) (by decide +kernel), Or.inl (by decide +kernel)⟩
theorem qf_X0_26 : x_in (x_fl false RX0 26 RX0 TX0 4) := ⟨List.mem_of_getElem? (i := 210) (by decide +kernel), Or.inl (by decide +kernel)⟩
theorem qf_X0_29 : x_in (x_fl false RX0 29 RX0 TX0 6) := ⟨List.mem_of_getElem? (i := 217) (by decide +kernel), Or.inl (by decide +kernel)⟩
theorem qf_X0_32 : x_in (x_fl false RX0 32 RX0 TX0 5) := ⟨List.mem_of_getElem? (i := 213) (by decide +kernel), Or.inl (by decide +kernel)⟩
theorem qf_X0_35 : x_in (x_fl false RX0 35 RX0 TX0 7) := ⟨List.mem_of_getElem? (i := 220) (by decide +kernel), Or.inl (by decide +kernel)⟩
theorem qf_X0_9 : x_in (x_fl false RX0 9 RX0 TX0 1) := ⟨List.mem_of_getElem? (i := 202) (by decide +kernel), Or.inl (by decide +kernel)⟩
theorem qm_X0_51 : x_in (.methodLink RX0 51 Lib.Math.min.name) := ⟨List.mem_of_getElem? (i := 734) (by decide +kernel), Or.inl (by decide +kernel)⟩
theorem qm_X0_42 : x_in (.methodLink RX0 42 Lib.Math.max.name) := ⟨List.mem_of_getElem? (i := 459) (by decide +kernel), Or.inl (by decide +kernel)⟩
theorem qm_X0_38 : x_in (.methodLinkNest RX0 38 yX9_at "LakeBooks") := ⟨List.mem_of_getElem? (i := 463) (by decide +kernel), Or.inr (by decide +kernel)⟩
theorem qm_X0_48 : x_in (.methodLink RX0 48 yJ9_floorMod_7cf53) := ⟨List.mem_of_getElem? (i := 460) (by decide +kernel), Or.inl (by decide +kernel)⟩
theorem qd_J9_floorMod_7cf53 : x_in (.code yJ9_floorMod_7cf53 cJ9_floorMod_7cf53 3 (some .int)) := ⟨List.mem_of_getElem? (i := 462) (by decide +kernel), Or.inl (by decide +kernel)⟩
theorem qc_J9 : x_in (.initialized RJ9) := ⟨List.mem_of_getElem? (i := 84) (by decide +kernel), Or.inl (by decide +kernel)⟩
theorem qt_J9_floorMod_7cf53 : x_in (.static yJ9_floorMod_7cf53) := ⟨List.mem_of_getElem? (i := 461) (by decide +kernel), Or.inl (by decide +kernel)⟩
theorem qf_X1_15 : x_in (x_fl false RX1 15 RX1 TX1 1) := ⟨List.mem_of_getElem? (i := 339) (by decide +kernel), Or.inl (by decide +kernel)⟩
theorem qf_X1_9 : x_in (x_fl false RX1 9 RX1 TX1 0) := ⟨List.mem_of_getElem? (i := 338) (by decide +kernel), Or.inl (by decide +kernel)⟩
theorem qg_X1_56 : x_in (Cond.fieldLink RX1 56 "LakeBooks$Acts" "BODIES" "[I") := ⟨List.mem_of_getElem? (i := 1017) (by decide +kernel), Or.inl (by decide +kernel)⟩
theorem qm_X1_59 : x_in (.methodLinkNest RX1 59 yX9_at "LakeBooks") := ⟨List.mem_of_getElem? (i := 1019) (by decide +kernel), Or.inr (by decide +kernel)⟩
theorem qg_X9_316 : x_in (Cond.fieldLink RX9 316 "LakeBooks" "ABOVE" "[I") := ⟨List.mem_of_getElem? (i := 1023) (by decide +kernel), Or.inl (by decide +kernel)⟩
theorem qg_X1_32 : x_in (Cond.fieldLinkNest RX1 32 "LakeBooks" "ABOVE" "[I" "LakeBooks") := ⟨List.mem_of_getElem? (i := 1012) (by decide +kernel), Or.inr (by decide +kernel)⟩
theorem qm_X1_35 : x_in (.methodLink RX1 35 yX1_bodyOf) := ⟨List.mem_of_getElem? (i := 1014) (by decide +kernel), Or.inl (by decide +kernel)⟩
theorem qd_X1_bodyOf : x_in (.code yX1_bodyOf cX1_bodyOf 2 (some .int)) := ⟨List.mem_of_getElem? (i := 1016) (by decide +kernel), Or.inl (by decide +kernel)⟩
theorem qc_X1 : x_in (.initialized RX1) := ⟨List.mem_of_getElem? (i := 89) (by decide +kernel), Or.inl (by decide +kernel)⟩
theorem qt_X1_bodyOf : x_in (.static yX1_bodyOf) := ⟨List.mem_of_getElem? (i := 1015) (by decide +kernel), Or.inl (by decide +kernel)⟩
theorem qm_X1_39 : x_in (.methodLinkNest RX1 39 yX9_kindAbove "LakeBooks") := ⟨List.mem_of_getElem? (i := 1020) (by decide +kernel), Or.inr (by decide +kernel)⟩
theorem qd_X9_kindAbove : x_in (.code yX9_kindAbove cX9_kindAbove 1 (some .int)) := ⟨List.mem_of_getElem? (i := 1022) (by decide +kernel), Or.inl (by decide +kernel)⟩
theorem qt_X9_kindAbove : x_in (.static yX9_kindAbove) := ⟨List.mem_of_getElem? (i := 1021) (by decide +kernel), Or.inl (by decide +kernel)⟩
theorem qm_X1_43 : x_in (.methodLink RX1 43 yX1_note) := ⟨List.mem_of_getElem? (i := 1024) (by decide +kernel), Or.inl (by decide +kernel)⟩
theorem qd_X1_note : x_in (.code yX1_note cX1_note 2 none) := ⟨List.mem_of_getElem? (i := 1027) (by decide +kernel), Or.inl (by decide +kernel)⟩
theorem qi_X1_note : x_in (.instanceMethod yX1_note) := ⟨List.mem_of_getElem? (i := 1026) (by decide +kernel), Or.inl (by decide +kernel)⟩
theorem qs_X1_note : x_in (.selects RX1 yX1_note yX1_note) := ⟨List.mem_of_getElem? (i := 20) (by decide +kernel), Or.inl (by decide +kernel)⟩
theorem qm_X1_47 : x_in (.methodLink RX1 47 yX1_runBody) := ⟨List.mem_of_getElem? (i := 1028) (by decide +kernel), Or.inl (by decide +kernel)⟩
theorem qd_X1_runBody : x_in (.code yX1_runBody cX1_runBody 7 (some .int)) := ⟨List.mem_of_getElem? (i := 1031) (by decide +kernel), Or.inl (by decide +kernel)⟩
theorem qi_X1_runBody : x_in (.instanceMethod yX1_runBody) := ⟨List.mem_of_getElem? (i := 1030) (by decide +kernel), Or.inl (by decide +kernel)⟩
theorem qs_X1_runBody : x_in (.selects RX1 yX1_runBody yX1_runBody) := ⟨List.mem_of_getElem? (i := 21) (by decide +kernel), Or.inl (by decide +kernel)⟩
theorem qf_X1_23 : x_in (x_fl true RX1 23 RX0 TX0 3) := ⟨List.mem_of_getElem? (i := 207) (by decide +kernel), Or.inr (by decide +kernel)⟩
theorem qf_X1_50 : x_in (x_fl true RX1 50 RX0 TX0 0) := ⟨List.mem_of_getElem? (i := 200) (by decide +kernel), Or.inr (by decide +kernel)⟩
theorem qm_X1_28 : x_in (.methodLink RX1 28 yX1_run) := ⟨List.mem_of_getElem? (i := 1008) (by decide +kernel), Or.inl (by decide +kernel)⟩
theorem qd_X1_run : x_in (.code yX1_run cX1_run 8 (some .int)) := ⟨List.mem_of_getElem? (i := 1011) (by decide +kernel), Or.inl (by decide +kernel)⟩
theorem qi_X1_run : x_in (.instanceMethod yX1_run) := ⟨List.mem_of_getElem? (i := 1010) (by decide +kernel), Or.inl (by decide +kernel)⟩
theorem qs_X1_run : x_in (.selects RX1 yX1_run yX1_run) := ⟨List.mem_of_getElem? (i := 19) (by decide +kernel), Or.inl (by decide +kernel)⟩
theorem qf_X1_53 : x_in (x_fl true RX1 53 RX0 TX0 4) := ⟨List.mem_of_getElem? (i := 212) (by decide +kernel), Or.inr (by decide +kernel)⟩
theorem qm_X1_19 : x_in (.methodLinkNest RX1 19 yX9_within "LakeBooks") := ⟨List.mem_of_getElem? (i := 1007) (by decide +kernel), Or.inr (by decide +kernel)⟩
theorem qf_X4_30 : x_in (x_fl false RX4 30 RX4 TX4 5) := ⟨List.mem_of_getElem? (i := 162) (by decide +kernel), Or.inl (by decide +kernel)⟩
theorem qf_X4_34 : x_in (x_fl false RX4 34 RX4 TX4 6) := ⟨List.mem_of_getElem? (i := 163) (by decide +kernel), Or.inl (by decide +kernel)⟩
theorem qf_X4_37 : x_in (x_fl false RX4 37 RX4 TX4 7) := ⟨List.mem_of_getElem? (i := 164) (by decide +kernel), Or.inl (by decide +kernel)⟩
theorem qf_X4_40 : x_in (x_fl false RX4 40 RX4 TX4 8) := ⟨List.mem_of_getElem? (i := 167) (by decide +kernel), Or.inl (by decide +kernel)⟩
theorem qf_X4_43 : x_in (x_fl false RX4 43 RX4 TX4 9) := ⟨List.mem_of_getElem? (i := 170) (by decide +kernel), Or.inl (by decide +kernel)⟩
theorem qf_X4_24 : x_in (x_fl false RX4 24 RX4 TX4 4) := ⟨List.mem_of_getElem? (i := 161) (by decide +kernel), Or.inl (by decide +kernel)⟩
theorem qm_X4_46 : x_in (.methodLink RX4 46 Lib.Math.min.name) := ⟨List.mem_of_getElem? (i := 476) (by decide +kernel), Or.inl (by decide +kernel)⟩
theorem qf_X4_64 : x_in (x_fl true RX4 64 RX0 TX0 0) := ⟨List.mem_of_getElem? (i := 201) (by decide +kernel), Or.inr (by decide +kernel)⟩
theorem qf_X4_69 : x_in (x_fl true RX4 69 RX0 TX0 3) := ⟨List.mem_of_getElem? (i := 209) (by decide +kernel), Or.inr (by decide +kernel)⟩
theorem qf_X4_72 : x_in (x_fl true RX4 72 RX0 TX0 5) := ⟨List.mem_of_getElem? (i := 216) (by decide +kernel), Or.inr (by decide +kernel)⟩
theorem qm_X4_75 : x_in (.methodLink RX4 75 Lib.Math.max.name) := ⟨List.mem_of_getElem? (i := 481) (by decide +kernel), Or.inl (by decide +kernel)⟩
theorem qf_X4_21 : x_in (x_fl false RX4 21 RX4 TX4 3) := ⟨List.mem_of_getElem? (i := 160) (by decide +kernel), Or.inl (by decide +kernel)⟩
theorem qm_X4_80 : x_in (.methodLinkNest RX4 80 yX9_at "LakeBooks") := ⟨List.mem_of_getElem? (i := 483) (by decide +kernel), Or.inr (by decide +kernel)⟩
theorem qk_X4_78 : x_in (.constantLong RX4 78 (-2)) := ⟨List.mem_of_getElem? (i := 482) (by decide +kernel), Or.inl (by decide +kernel)⟩
theorem qm_X4_52 : x_in (.methodLinkNest RX4 52 yX9_within "LakeBooks") := ⟨List.mem_of_getElem? (i := 619) (by decide +kernel), Or.inr (by decide +kernel)⟩
theorem qf_X4_9 : x_in (x_fl false RX4 9 RX4 TX4 0) := ⟨List.mem_of_getElem? (i := 157) (by decide +kernel), Or.inl (by decide +kernel)⟩
theorem qf_X4_15 : x_in (x_fl false RX4 15 RX4 TX4 1) := ⟨List.mem_of_getElem? (i := 158) (by decide +kernel), Or.inl (by decide +kernel)⟩
theorem qf_X4_18 : x_in (x_fl false RX4 18 RX4 TX4 2) := ⟨List.mem_of_getElem? (i := 159) (by decide +kernel), Or.inl (by decide +kernel)⟩
theorem qm_X4_56 : x_in (.methodLink RX4 56 yX4_tellValues) := ⟨List.mem_of_getElem? (i := 472) (by decide +kernel), Or.inl (by decide +kernel)⟩
theorem qd_X4_tellValues : x_in (.code yX4_tellValues cX4_tellValues 5 none) := ⟨List.mem_of_getElem? (i := 475) (by decide +kernel), Or.inl (by decide +kernel)⟩
theorem qc_X4 : x_in (.initialized RX4) := ⟨List.mem_of_getElem? (i := 85) (by decide +kernel), Or.inl (by decide +kernel)⟩
theorem qi_X4_tellValues : x_in (.instanceMethod yX4_tellValues) := ⟨List.mem_of_getElem? (i := 474) (by decide +kernel), Or.inl (by decide +kernel)⟩
theorem qs_X4_tellValues : x_in (.selects RX4 yX4_tellValues yX4_tellValues) := ⟨List.mem_of_getElem? (i := 0) (by decide +kernel), Or.inl (by decide +kernel)⟩
theorem qm_X4_60 : x_in (.methodLink RX4 60 yX4_holds) := ⟨List.mem_of_getElem? (i := 477) (by decide +kernel), Or.inl (by decide +kernel)⟩
theorem qd_X4_holds : x_in (.code yX4_holds cX4_holds 11 (some .boolean)) := ⟨List.mem_of_getElem? (i := 480) (by decide +kernel), Or.inl (by decide +kernel)⟩
theorem qi_X4_holds : x_in (.instanceMethod yX4_holds) := ⟨List.mem_of_getElem? (i := 479) (by decide +kernel), Or.inl (by decide +kernel)⟩
theorem qs_X4_holds : x_in (.selects RX4 yX4_holds yX4_holds) := ⟨List.mem_of_getElem? (i := 1) (by decide +kernel), Or.inl (by decide +kernel)⟩
theorem qf_X5_15 : x_in (x_fl false RX5 15 RX5 TX5 1) := ⟨List.mem_of_getElem? (i := 319) (by decide +kernel), Or.inl (by decide +kernel)⟩
theorem qf_X5_23 : x_in (x_fl false RX5 23 RX5 TX5 2) := ⟨List.mem_of_getElem? (i := 320) (by decide +kernel), Or.inl (by decide +kernel)⟩
theorem qf_X5_9 : x_in (x_fl false RX5 9 RX5 TX5 0) := ⟨List.mem_of_getElem? (i := 318) (by decide +kernel), Or.inl (by decide +kernel)⟩
theorem qm_X5_19 : x_in (.methodLinkNest RX5 19 yX9_within "LakeBooks") := ⟨List.mem_of_getElem? (i := 515) (by decide +kernel), Or.inr (by decide +kernel)⟩
theorem qm_X5_81 : x_in (.methodLinkNest RX5 81 yX9_at "LakeBooks") := ⟨List.mem_of_getElem? (i := 555) (by decide +kernel), Or.inr (by decide +kernel)⟩
theorem qm_X5_75 : x_in (.methodLink RX5 75 Lib.Math.max.name) := ⟨List.mem_of_getElem? (i := 594) (by decide +kernel), Or.inl (by decide +kernel)⟩
theorem qm_X5_71 : x_in (.methodLink RX5 71 yJ0_length_8abf5) := ⟨List.mem_of_getElem? (i := 545) (by decide +kernel), Or.inl (by decide +kernel)⟩
theorem qm_X5_85 : x_in (.methodLink RX5 85 yJ0_charAt_5068e) := ⟨List.mem_of_getElem? (i := 556) (by decide +kernel), Or.inl (by decide +kernel)⟩
theorem qd_J0_charAt_5068e : x_in (.code yJ0_charAt_5068e cJ0_charAt_5068e 2 (some .char)) := ⟨List.mem_of_getElem? (i := 559) (by decide +kernel), Or.inl (by decide +kernel)⟩
theorem qi_J0_charAt_5068e : x_in (.instanceMethod yJ0_charAt_5068e) := ⟨List.mem_of_getElem? (i := 557) (by decide +kernel), Or.inl (by decide +kernel)⟩
theorem qs_J0_charAt_5068e : x_in (.selects RJ0 yJ0_charAt_5068e yJ0_charAt_5068e) := ⟨List.mem_of_getElem? (i := 558) (by decide +kernel), Or.inl (by decide +kernel)⟩
theorem qm_X5_110 : x_in (.methodLink RX5 110 yJ0_indexOf_0f7a4) := ⟨List.mem_of_getElem? (i := 629) (by decide +kernel), Or.inl (by decide +kernel)⟩
theorem qd_J0_indexOf_0f7a4 : x_in (.code yJ0_indexOf_0f7a4 cJ0_indexOf_0f7a4 2 (some .int)) := ⟨List.mem_of_getElem? (i := 632) (by decide +kernel), Or.inl (by decide +kernel)⟩
theorem qi_J0_indexOf_0f7a4 : x_in (.instanceMethod yJ0_indexOf_0f7a4) := ⟨List.mem_of_getElem? (i := 630) (by decide +kernel), Or.inl (by decide +kernel)⟩
theorem qs_J0_indexOf_0f7a4 : x_in (.selects RJ0 yJ0_indexOf_0f7a4 yJ0_indexOf_0f7a4) := ⟨List.mem_of_getElem? (i := 631) (by decide +kernel), Or.inl (by decide +kernel)⟩
theorem qm_X5_63 : x_in (.methodLink RX5 63 yX5_wordOf) := ⟨List.mem_of_getElem? (i := 533) (by decide +kernel), Or.inl (by decide +kernel)⟩
theorem qd_X5_wordOf : x_in (.code yX5_wordOf cX5_wordOf 1 (some (.object "java/lang/String"))) := ⟨List.mem_of_getElem? (i := 535) (by decide +kernel), Or.inl (by decide +kernel)⟩
theorem qc_X5 : x_in (.initialized RX5) := ⟨List.mem_of_getElem? (i := 88) (by decide +kernel), Or.inl (by decide +kernel)⟩
theorem qt_X5_wordOf : x_in (.static yX5_wordOf) := ⟨List.mem_of_getElem? (i := 534) (by decide +kernel), Or.inl (by decide +kernel)⟩
theorem qm_X5_67 : x_in (.methodLink RX5 67 yX5_sameSigns) := ⟨List.mem_of_getElem? (i := 541) (by decide +kernel), Or.inl (by decide +kernel)⟩
theorem qd_X5_sameSigns : x_in (.code yX5_sameSigns cX5_sameSigns 3 (some .int)) := ⟨List.mem_of_getElem? (i := 544) (by decide +kernel), Or.inl (by decide +kernel)⟩
theorem qi_X5_sameSigns : x_in (.instanceMethod yX5_sameSigns) := ⟨List.mem_of_getElem? (i := 543) (by decide +kernel), Or.inl (by decide +kernel)⟩
theorem qs_X5_sameSigns : x_in (.selects RX5 yX5_sameSigns yX5_sameSigns) := ⟨List.mem_of_getElem? (i := 4) (by decide +kernel), Or.inl (by decide +kernel)⟩
theorem qm_X5_105 : x_in (.methodLink RX5 105 yX5_takeOneOf) := ⟨List.mem_of_getElem? (i := 625) (by decide +kernel), Or.inl (by decide +kernel)⟩
theorem qd_X5_takeOneOf : x_in (.code yX5_takeOneOf cX5_takeOneOf 3 (some .int)) := ⟨List.mem_of_getElem? (i := 628) (by decide +kernel), Or.inl (by decide +kernel)⟩
theorem qi_X5_takeOneOf : x_in (.instanceMethod yX5_takeOneOf) := ⟨List.mem_of_getElem? (i := 627) (by decide +kernel), Or.inl (by decide +kernel)⟩
theorem qs_X5_takeOneOf : x_in (.selects RX5 yX5_takeOneOf yX5_takeOneOf) := ⟨List.mem_of_getElem? (i := 10) (by decide +kernel), Or.inl (by decide +kernel)⟩
theorem qm_X5_92 : x_in (.methodLink RX5 92 yX4_put) := ⟨List.mem_of_getElem? (i := 615) (by decide +kernel), Or.inl (by decide +kernel)⟩
theorem qd_X4_put : x_in (.code yX4_put cX4_put 2 none) := ⟨List.mem_of_getElem? (i := 618) (by decide +kernel), Or.inl (by decide +kernel)⟩
theorem qi_X4_put : x_in (.instanceMethod yX4_put) := ⟨List.mem_of_getElem? (i := 616) (by decide +kernel), Or.inl (by decide +kernel)⟩
theorem qs_X4_put : x_in (.selects RX4 yX4_put yX4_put) := ⟨List.mem_of_getElem? (i := 617) (by decide +kernel), Or.inl (by decide +kernel)⟩
theorem qm_X5_39 : x_in (.methodLink RX5 39 yX5_takeNumber) := ⟨List.mem_of_getElem? (i := 595) (by decide +kernel), Or.inl (by decide +kernel)⟩
theorem qd_X5_takeNumber : x_in (.code yX5_takeNumber cX5_takeNumber 4 (some .int)) := ⟨List.mem_of_getElem? (i := 598) (by decide +kernel), Or.inl (by decide +kernel)⟩
theorem qi_X5_takeNumber : x_in (.instanceMethod yX5_takeNumber) := ⟨List.mem_of_getElem? (i := 597) (by decide +kernel), Or.inl (by decide +kernel)⟩
theorem qs_X5_takeNumber : x_in (.selects RX5 yX5_takeNumber yX5_takeNumber) := ⟨List.mem_of_getElem? (i := 5) (by decide +kernel), Or.inl (by decide +kernel)⟩
theorem qm_X5_89 : x_in (.methodLink RX5 89 yX5_takeBoth) := ⟨List.mem_of_getElem? (i := 607) (by decide +kernel), Or.inl (by decide +kernel)⟩
theorem qd_X5_takeBoth : x_in (.code yX5_takeBoth cX5_takeBoth 4 (some .boolean)) := ⟨List.mem_of_getElem? (i := 610) (by decide +kernel), Or.inl (by decide +kernel)⟩
theorem qi_X5_takeBoth : x_in (.instanceMethod yX5_takeBoth) := ⟨List.mem_of_getElem? (i := 609) (by decide +kernel), Or.inl (by decide +kernel)⟩
theorem qs_X5_takeBoth : x_in (.selects RX5 yX5_takeBoth yX5_takeBoth) := ⟨List.mem_of_getElem? (i := 7) (by decide +kernel), Or.inl (by decide +kernel)⟩
theorem qm_X5_31 : x_in (.methodLink RX5 31 yX5_take) := ⟨List.mem_of_getElem? (i := 525) (by decide +kernel), Or.inl (by decide +kernel)⟩
theorem qd_X5_take : x_in (.code yX5_take cX5_take 2 (some .boolean)) := ⟨List.mem_of_getElem? (i := 528) (by decide +kernel), Or.inl (by decide +kernel)⟩
theorem qi_X5_take : x_in (.instanceMethod yX5_take) := ⟨List.mem_of_getElem? (i := 527) (by decide +kernel), Or.inl (by decide +kernel)⟩
theorem qs_X5_take : x_in (.selects RX5 yX5_take yX5_take) := ⟨List.mem_of_getElem? (i := 2) (by decide +kernel), Or.inl (by decide +kernel)⟩
theorem qm_X5_96 : x_in (.methodLink RX5 96 yX5_takeFactor) := ⟨List.mem_of_getElem? (i := 611) (by decide +kernel), Or.inl (by decide +kernel)⟩
theorem qd_X5_takeFactor : x_in (.code yX5_takeFactor cX5_takeFactor 3 (some .boolean)) := ⟨List.mem_of_getElem? (i := 614) (by decide +kernel), Or.inl (by decide +kernel)⟩
theorem qi_X5_takeFactor : x_in (.instanceMethod yX5_takeFactor) := ⟨List.mem_of_getElem? (i := 613) (by decide +kernel), Or.inl (by decide +kernel)⟩
theorem qs_X5_takeFactor : x_in (.selects RX5 yX5_takeFactor yX5_takeFactor) := ⟨List.mem_of_getElem? (i := 8) (by decide +kernel), Or.inl (by decide +kernel)⟩
theorem qm_X5_99 : x_in (.methodLink RX5 99 yX5_takeTest) := ⟨List.mem_of_getElem? (i := 620) (by decide +kernel), Or.inl (by decide +kernel)⟩
theorem qd_X5_takeTest : x_in (.code yX5_takeTest cX5_takeTest 5 (some .boolean)) := ⟨List.mem_of_getElem? (i := 623) (by decide +kernel), Or.inl (by decide +kernel)⟩
theorem qi_X5_takeTest : x_in (.instanceMethod yX5_takeTest) := ⟨List.mem_of_getElem? (i := 622) (by decide +kernel), Or.inl (by decide +kernel)⟩
theorem qs_X5_takeTest : x_in (.selects RX5 yX5_takeTest yX5_takeTest) := ⟨List.mem_of_getElem? (i := 9) (by decide +kernel), Or.inl (by decide +kernel)⟩
theorem qm_X5_46 : x_in (.methodLink RX5 46 yX5_takeEither) := ⟨List.mem_of_getElem? (i := 603) (by decide +kernel), Or.inl (by decide +kernel)⟩
theorem qd_X5_takeEither : x_in (.code yX5_takeEither cX5_takeEither 4 (some .boolean)) := ⟨List.mem_of_getElem? (i := 606) (by decide +kernel), Or.inl (by decide +kernel)⟩
theorem qi_X5_takeEither : x_in (.instanceMethod yX5_takeEither) := ⟨List.mem_of_getElem? (i := 605) (by decide +kernel), Or.inl (by decide +kernel)⟩
theorem qs_X5_takeEither : x_in (.selects RX5 yX5_takeEither yX5_takeEither) := ⟨List.mem_of_getElem? (i := 6) (by decide +kernel), Or.inl (by decide +kernel)⟩
theorem qm_X5_26 : x_in (.methodLink RX5 26 yX4_clear) := ⟨List.mem_of_getElem? (i := 524) (by decide +kernel), Or.inl (by decide +kernel)⟩
theorem qd_X4_clear : x_in (.code yX4_clear cX4_clear 1 none) := ⟨List.mem_of_getElem? (i := 156) (by decide +kernel), Or.inl (by decide +kernel)⟩
theorem qi_X4_clear : x_in (.instanceMethod yX4_clear) := ⟨List.mem_of_getElem? (i := 154) (by decide +kernel), Or.inl (by decide +kernel)⟩
theorem qs_X4_clear : x_in (.selects RX4 yX4_clear yX4_clear) := ⟨List.mem_of_getElem? (i := 155) (by decide +kernel), Or.inl (by decide +kernel)⟩
theorem qm_X5_35 : x_in (.methodLink RX5 35 yX5_takeWord) := ⟨List.mem_of_getElem? (i := 529) (by decide +kernel), Or.inl (by decide +kernel)⟩
theorem qd_X5_takeWord : x_in (.code yX5_takeWord cX5_takeWord 5 (some .int)) := ⟨List.mem_of_getElem? (i := 532) (by decide +kernel), Or.inl (by decide +kernel)⟩
theorem qi_X5_takeWord : x_in (.instanceMethod yX5_takeWord) := ⟨List.mem_of_getElem? (i := 531) (by decide +kernel), Or.inl (by decide +kernel)⟩
theorem qs_X5_takeWord : x_in (.selects RX5 yX5_takeWord yX5_takeWord) := ⟨List.mem_of_getElem? (i := 3) (by decide +kernel), Or.inl (by decide +kernel)⟩
theorem qm_X5_42 : x_in (.methodLink RX5 42 yX4_tell) := ⟨List.mem_of_getElem? (i := 599) (by decide +kernel), Or.inl (by decide +kernel)⟩
theorem qd_X4_tell : x_in (.code yX4_tell cX4_tell 3 none) := ⟨List.mem_of_getElem? (i := 602) (by decide +kernel), Or.inl (by decide +kernel)⟩
theorem qi_X4_tell : x_in (.instanceMethod yX4_tell) := ⟨List.mem_of_getElem? (i := 600) (by decide +kernel), Or.inl (by decide +kernel)⟩
theorem qs_X4_tell : x_in (.selects RX4 yX4_tell yX4_tell) := ⟨List.mem_of_getElem? (i := 601) (by decide +kernel), Or.inl (by decide +kernel)⟩
theorem qm_X5_50 : x_in (.methodLink RX5 50 yX4_close) := ⟨List.mem_of_getElem? (i := 685) (by decide +kernel), Or.inl (by decide +kernel)⟩
theorem qd_X4_close : x_in (.code yX4_close cX4_close 3 none) := ⟨List.mem_of_getElem? (i := 688) (by decide +kernel), Or.inl (by decide +kernel)⟩
theorem qi_X4_close : x_in (.instanceMethod yX4_close) := ⟨List.mem_of_getElem? (i := 686) (by decide +kernel), Or.inl (by decide +kernel)⟩
theorem qs_X4_close : x_in (.selects RX4 yX4_close yX4_close) := ⟨List.mem_of_getElem? (i := 687) (by decide +kernel), Or.inl (by decide +kernel)⟩
theorem qf_X7_46 : x_in (x_fl false RX7 46 RX7 TX7 7) := ⟨List.mem_of_getElem? (i := 263) (by decide +kernel), Or.inl (by decide +kernel)⟩
theorem qm_X7_130 : x_in (.methodLink RX7 130 Lib.Math.max.name) := ⟨List.mem_of_getElem? (i := 723) (by decide +kernel), Or.inl (by decide +kernel)⟩
theorem qf_X7_116 : x_in (x_fl true RX7 116 RX0 TX0 8) := ⟨List.mem_of_getElem? (i := 223) (by decide +kernel), Or.inr (by decide +kernel)⟩
theorem qf_X7_69 : x_in (x_fl true RX7 69 RX0 TX0 5) := ⟨List.mem_of_getElem? (i := 214) (by decide +kernel), Or.inr (by decide +kernel)⟩
theorem qk_X7_145 : x_in (.constant RX7 145 (99999)) := ⟨List.mem_of_getElem? (i := 728) (by decide +kernel), Or.inl (by decide +kernel)⟩
theorem qf_X7_146 : x_in (x_fl false RX7 146 RX7 TX7 8) := ⟨List.mem_of_getElem? (i := 267) (by decide +kernel), Or.inl (by decide +kernel)⟩
theorem qm_X7_149 : x_in (.methodLink RX7 149 Lib.Math.min.name) := ⟨List.mem_of_getElem? (i := 729) (by decide +kernel), Or.inl (by decide +kernel)⟩
theorem qf_X7_54 : x_in (x_fl false RX7 54 RX7 TX7 6) := ⟨List.mem_of_getElem? (i := 260) (by decide +kernel), Or.inl (by decide +kernel)⟩
theorem qf_X7_20 : x_in (x_fl false RX7 20 RX7 TX7 1) := ⟨List.mem_of_getElem? (i := 249) (by decide +kernel), Or.inl (by decide +kernel)⟩
theorem qf_X7_103 : x_in (x_fl true RX7 103 RX0 TX0 9) := ⟨List.mem_of_getElem? (i := 224) (by decide +kernel), Or.inr (by decide +kernel)⟩
theorem qf_X7_12 : x_in (x_fl false RX7 12 RX7 TX7 0) := ⟨List.mem_of_getElem? (i := 247) (by decide +kernel), Or.inl (by decide +kernel)⟩
theorem qm_X7_76 : x_in (.methodLink RX7 76 yX3_levelOf) := ⟨List.mem_of_getElem? (i := 451) (by decide +kernel), Or.inl (by decide +kernel)⟩
theorem qd_X3_levelOf : x_in (.code yX3_levelOf cX3_levelOf 8 (some .int)) := ⟨List.mem_of_getElem? (i := 454) (by decide +kernel), Or.inl (by decide +kernel)⟩
theorem qc_X3 : x_in (.initialized RX3) := ⟨List.mem_of_getElem? (i := 82) (by decide +kernel), Or.inl (by decide +kernel)⟩
theorem qi_X3_levelOf : x_in (.instanceMethod yX3_levelOf) := ⟨List.mem_of_getElem? (i := 452) (by decide +kernel), Or.inl (by decide +kernel)⟩
theorem qs_X3_levelOf : x_in (.selects RX3 yX3_levelOf yX3_levelOf) := ⟨List.mem_of_getElem? (i := 453) (by decide +kernel), Or.inl (by decide +kernel)⟩
theorem qm_X7_72 : x_in (.methodLink RX7 72 yX0_lifts) := ⟨List.mem_of_getElem? (i := 450) (by decide +kernel), Or.inl (by decide +kernel)⟩
theorem qd_X0_lifts : x_in (.code yX0_lifts cX0_lifts 1 (some .int)) := ⟨List.mem_of_getElem? (i := 445) (by decide +kernel), Or.inl (by decide +kernel)⟩
theorem qc_X0 : x_in (.initialized RX0) := ⟨List.mem_of_getElem? (i := 86) (by decide +kernel), Or.inl (by decide +kernel)⟩
theorem qi_X0_lifts : x_in (.instanceMethod yX0_lifts) := ⟨List.mem_of_getElem? (i := 443) (by decide +kernel), Or.inl (by decide +kernel)⟩
theorem qs_X0_lifts : x_in (.selects RX0 yX0_lifts yX0_lifts) := ⟨List.mem_of_getElem? (i := 444) (by decide +kernel), Or.inl (by decide +kernel)⟩
theorem qm_X7_65 : x_in (.methodLink RX7 65 yX7_find) := ⟨List.mem_of_getElem? (i := 765) (by decide +kernel), Or.inl (by decide +kernel)⟩
theorem qd_X7_find : x_in (.code yX7_find cX7_find 2 (some (.object "LakeBooks$Account"))) := ⟨List.mem_of_getElem? (i := 441) (by decide +kernel), Or.inl (by decide +kernel)⟩
theorem qc_X7 : x_in (.initialized RX7) := ⟨List.mem_of_getElem? (i := 81) (by decide +kernel), Or.inl (by decide +kernel)⟩
theorem qi_X7_find : x_in (.instanceMethod yX7_find) := ⟨List.mem_of_getElem? (i := 439) (by decide +kernel), Or.inl (by decide +kernel)⟩
theorem qs_X7_find : x_in (.selects RX7 yX7_find yX7_find) := ⟨List.mem_of_getElem? (i := 440) (by decide +kernel), Or.inl (by decide +kernel)⟩
theorem qm_X7_57 : x_in (.methodLinkNest RX7 57 yX9_within "LakeBooks") := ⟨List.mem_of_getElem? (i := 429) (by decide +kernel), Or.inr (by decide +kernel)⟩
theorem qm_X7_61 : x_in (.methodLink RX7 61 yX0_open) := ⟨List.mem_of_getElem? (i := 430) (by decide +kernel), Or.inl (by decide +kernel)⟩
theorem qd_X0_open : x_in (.code yX0_open cX0_open 5 none) := ⟨List.mem_of_getElem? (i := 433) (by decide +kernel), Or.inl (by decide +kernel)⟩
theorem qi_X0_open : x_in (.instanceMethod yX0_open) := ⟨List.mem_of_getElem? (i := 431) (by decide +kernel), Or.inl (by decide +kernel)⟩
theorem qs_X0_open : x_in (.selects RX0 yX0_open yX0_open) := ⟨List.mem_of_getElem? (i := 432) (by decide +kernel), Or.inl (by decide +kernel)⟩
theorem qm_X7_152 : x_in (.methodLink RX7 152 yX3_copyFrom) := ⟨List.mem_of_getElem? (i := 747) (by decide +kernel), Or.inl (by decide +kernel)⟩
theorem qd_X3_copyFrom : x_in (.code yX3_copyFrom cX3_copyFrom 3 none) := ⟨List.mem_of_getElem? (i := 750) (by decide +kernel), Or.inl (by decide +kernel)⟩
theorem qi_X3_copyFrom : x_in (.instanceMethod yX3_copyFrom) := ⟨List.mem_of_getElem? (i := 748) (by decide +kernel), Or.inl (by decide +kernel)⟩
theorem qs_X3_copyFrom : x_in (.selects RX3 yX3_copyFrom yX3_copyFrom) := ⟨List.mem_of_getElem? (i := 749) (by decide +kernel), Or.inl (by decide +kernel)⟩
theorem qm_X7_156 : x_in (.methodLink RX7 156 yX0_copyFrom) := ⟨List.mem_of_getElem? (i := 751) (by decide +kernel), Or.inl (by decide +kernel)⟩
theorem qd_X0_copyFrom : x_in (.code yX0_copyFrom cX0_copyFrom 3 none) := ⟨List.mem_of_getElem? (i := 754) (by decide +kernel), Or.inl (by decide +kernel)⟩
theorem qi_X0_copyFrom : x_in (.instanceMethod yX0_copyFrom) := ⟨List.mem_of_getElem? (i := 752) (by decide +kernel), Or.inl (by decide +kernel)⟩
theorem qs_X0_copyFrom : x_in (.selects RX0 yX0_copyFrom yX0_copyFrom) := ⟨List.mem_of_getElem? (i := 753) (by decide +kernel), Or.inl (by decide +kernel)⟩
theorem qf_X7_29 : x_in (x_fl false RX7 29 RX7 TX7 2) := ⟨List.mem_of_getElem? (i := 250) (by decide +kernel), Or.inl (by decide +kernel)⟩
theorem qm_X7_159 : x_in (.methodLink RX7 159 yX6_copyFrom) := ⟨List.mem_of_getElem? (i := 755) (by decide +kernel), Or.inl (by decide +kernel)⟩
theorem qd_X6_copyFrom : x_in (.code yX6_copyFrom cX6_copyFrom 3 none) := ⟨List.mem_of_getElem? (i := 758) (by decide +kernel), Or.inl (by decide +kernel)⟩
theorem qc_X6 : x_in (.initialized RX6) := ⟨List.mem_of_getElem? (i := 83) (by decide +kernel), Or.inl (by decide +kernel)⟩
theorem qi_X6_copyFrom : x_in (.instanceMethod yX6_copyFrom) := ⟨List.mem_of_getElem? (i := 756) (by decide +kernel), Or.inl (by decide +kernel)⟩
theorem qs_X6_copyFrom : x_in (.selects RX6 yX6_copyFrom yX6_copyFrom) := ⟨List.mem_of_getElem? (i := 757) (by decide +kernel), Or.inl (by decide +kernel)⟩
theorem qf_X7_33 : x_in (x_fl false RX7 33 RX7 TX7 3) := ⟨List.mem_of_getElem? (i := 253) (by decide +kernel), Or.inl (by decide +kernel)⟩
theorem qf_X7_36 : x_in (x_fl false RX7 36 RX7 TX7 4) := ⟨List.mem_of_getElem? (i := 256) (by decide +kernel), Or.inl (by decide +kernel)⟩
theorem qf_X7_42 : x_in (x_fl false RX7 42 RX7 TX7 5) := ⟨List.mem_of_getElem? (i := 258) (by decide +kernel), Or.inl (by decide +kernel)⟩
theorem qf_X7_80 : x_in (x_fl false RX7 80 RX7 TX7 9) := ⟨List.mem_of_getElem? (i := 269) (by decide +kernel), Or.inl (by decide +kernel)⟩
theorem qf_X7_83 : x_in (x_fl false RX7 83 RX7 TX7 10) := ⟨List.mem_of_getElem? (i := 271) (by decide +kernel), Or.inl (by decide +kernel)⟩
theorem qf_X7_50 : x_in (x_fl false RX7 50 RX7 TX7 11) := ⟨List.mem_of_getElem? (i := 273) (by decide +kernel), Or.inl (by decide +kernel)⟩
theorem qm_X7_94 : x_in (.methodLink RX7 94 yX7_level) := ⟨List.mem_of_getElem? (i := 714) (by decide +kernel), Or.inl (by decide +kernel)⟩
theorem qd_X7_level : x_in (.code yX7_level cX7_level 6 (some .int)) := ⟨List.mem_of_getElem? (i := 449) (by decide +kernel), Or.inl (by decide +kernel)⟩
theorem qi_X7_level : x_in (.instanceMethod yX7_level) := ⟨List.mem_of_getElem? (i := 447) (by decide +kernel), Or.inl (by decide +kernel)⟩
theorem qs_X7_level : x_in (.selects RX7 yX7_level yX7_level) := ⟨List.mem_of_getElem? (i := 448) (by decide +kernel), Or.inl (by decide +kernel)⟩
theorem qf_X7_97 : x_in (x_fl true RX7 97 RX4 TX4 8) := ⟨List.mem_of_getElem? (i := 168) (by decide +kernel), Or.inr (by decide +kernel)⟩
theorem qm_X7_100 : x_in (.methodLink RX7 100 yX7_bucketsOf) := ⟨List.mem_of_getElem? (i := 799) (by decide +kernel), Or.inl (by decide +kernel)⟩
theorem qd_X7_bucketsOf : x_in (.code yX7_bucketsOf cX7_bucketsOf 3 (some .int)) := ⟨List.mem_of_getElem? (i := 764) (by decide +kernel), Or.inl (by decide +kernel)⟩
theorem qi_X7_bucketsOf : x_in (.instanceMethod yX7_bucketsOf) := ⟨List.mem_of_getElem? (i := 762) (by decide +kernel), Or.inl (by decide +kernel)⟩
theorem qs_X7_bucketsOf : x_in (.selects RX7 yX7_bucketsOf yX7_bucketsOf) := ⟨List.mem_of_getElem? (i := 763) (by decide +kernel), Or.inl (by decide +kernel)⟩
theorem qm_X7_86 : x_in (.methodLink RX7 86 yX4_together) := ⟨List.mem_of_getElem? (i := 468) (by decide +kernel), Or.inl (by decide +kernel)⟩
theorem qd_X4_together : x_in (.code yX4_together cX4_together 8 (some .int)) := ⟨List.mem_of_getElem? (i := 471) (by decide +kernel), Or.inl (by decide +kernel)⟩
theorem qi_X4_together : x_in (.instanceMethod yX4_together) := ⟨List.mem_of_getElem? (i := 469) (by decide +kernel), Or.inl (by decide +kernel)⟩
theorem qs_X4_together : x_in (.selects RX4 yX4_together yX4_together) := ⟨List.mem_of_getElem? (i := 470) (by decide +kernel), Or.inl (by decide +kernel)⟩
theorem qf_X7_90 : x_in (x_fl true RX7 90 RX0 TX0 2) := ⟨List.mem_of_getElem? (i := 204) (by decide +kernel), Or.inr (by decide +kernel)⟩
theorem qm_X7_106 : x_in (.methodLink RX7 106 yX7_spring) := ⟨List.mem_of_getElem? (i := 715) (by decide +kernel), Or.inl (by decide +kernel)⟩
theorem qd_X7_spring : x_in (.code yX7_spring cX7_spring 2 (some .int)) := ⟨List.mem_of_getElem? (i := 701) (by decide +kernel), Or.inl (by decide +kernel)⟩
theorem qi_X7_spring : x_in (.instanceMethod yX7_spring) := ⟨List.mem_of_getElem? (i := 699) (by decide +kernel), Or.inl (by decide +kernel)⟩
theorem qs_X7_spring : x_in (.selects RX7 yX7_spring yX7_spring) := ⟨List.mem_of_getElem? (i := 700) (by decide +kernel), Or.inl (by decide +kernel)⟩
theorem qf_X7_109 : x_in (x_fl true RX7 109 RX4 TX4 9) := ⟨List.mem_of_getElem? (i := 172) (by decide +kernel), Or.inr (by decide +kernel)⟩
theorem qm_X7_112 : x_in (.methodLink RX7 112 yX0_pours) := ⟨List.mem_of_getElem? (i := 716) (by decide +kernel), Or.inl (by decide +kernel)⟩
theorem qd_X0_pours : x_in (.code yX0_pours cX0_pours 4 (some .int)) := ⟨List.mem_of_getElem? (i := 458) (by decide +kernel), Or.inl (by decide +kernel)⟩
theorem qi_X0_pours : x_in (.instanceMethod yX0_pours) := ⟨List.mem_of_getElem? (i := 456) (by decide +kernel), Or.inl (by decide +kernel)⟩
theorem qs_X0_pours : x_in (.selects RX0 yX0_pours yX0_pours) := ⟨List.mem_of_getElem? (i := 457) (by decide +kernel), Or.inl (by decide +kernel)⟩
theorem qm_X7_119 : x_in (.methodLink RX7 119 yX7_sunOf) := ⟨List.mem_of_getElem? (i := 717) (by decide +kernel), Or.inl (by decide +kernel)⟩
theorem qd_X7_sunOf : x_in (.code yX7_sunOf cX7_sunOf 3 (some .int)) := ⟨List.mem_of_getElem? (i := 467) (by decide +kernel), Or.inl (by decide +kernel)⟩
theorem qi_X7_sunOf : x_in (.instanceMethod yX7_sunOf) := ⟨List.mem_of_getElem? (i := 465) (by decide +kernel), Or.inl (by decide +kernel)⟩
theorem qs_X7_sunOf : x_in (.selects RX7 yX7_sunOf yX7_sunOf) := ⟨List.mem_of_getElem? (i := 466) (by decide +kernel), Or.inl (by decide +kernel)⟩
theorem qm_X7_123 : x_in (.methodLink RX7 123 yX3_volumeOf) := ⟨List.mem_of_getElem? (i := 718) (by decide +kernel), Or.inl (by decide +kernel)⟩
theorem qd_X3_volumeOf : x_in (.code yX3_volumeOf cX3_volumeOf 9 (some .int)) := ⟨List.mem_of_getElem? (i := 413) (by decide +kernel), Or.inl (by decide +kernel)⟩
theorem qi_X3_volumeOf : x_in (.instanceMethod yX3_volumeOf) := ⟨List.mem_of_getElem? (i := 411) (by decide +kernel), Or.inl (by decide +kernel)⟩
theorem qs_X3_volumeOf : x_in (.selects RX3 yX3_volumeOf yX3_volumeOf) := ⟨List.mem_of_getElem? (i := 412) (by decide +kernel), Or.inl (by decide +kernel)⟩
theorem qm_X7_126 : x_in (.methodLink RX7 126 yX7_pourBy) := ⟨List.mem_of_getElem? (i := 719) (by decide +kernel), Or.inl (by decide +kernel)⟩
theorem qd_X7_pourBy : x_in (.code yX7_pourBy cX7_pourBy 5 none) := ⟨List.mem_of_getElem? (i := 722) (by decide +kernel), Or.inl (by decide +kernel)⟩
theorem qi_X7_pourBy : x_in (.instanceMethod yX7_pourBy) := ⟨List.mem_of_getElem? (i := 721) (by decide +kernel), Or.inl (by decide +kernel)⟩
theorem qs_X7_pourBy : x_in (.selects RX7 yX7_pourBy yX7_pourBy) := ⟨List.mem_of_getElem? (i := 11) (by decide +kernel), Or.inl (by decide +kernel)⟩
theorem qf_X7_136 : x_in (x_fl true RX7 136 RX4 TX4 7) := ⟨List.mem_of_getElem? (i := 166) (by decide +kernel), Or.inr (by decide +kernel)⟩
theorem qm_X7_139 : x_in (.methodLink RX7 139 yX7_spillTo) := ⟨List.mem_of_getElem? (i := 724) (by decide +kernel), Or.inl (by decide +kernel)⟩
theorem qd_X7_spillTo : x_in (.code yX7_spillTo cX7_spillTo 2 none) := ⟨List.mem_of_getElem? (i := 727) (by decide +kernel), Or.inl (by decide +kernel)⟩
theorem qi_X7_spillTo : x_in (.instanceMethod yX7_spillTo) := ⟨List.mem_of_getElem? (i := 726) (by decide +kernel), Or.inl (by decide +kernel)⟩
theorem qs_X7_spillTo : x_in (.selects RX7 yX7_spillTo yX7_spillTo) := ⟨List.mem_of_getElem? (i := 12) (by decide +kernel), Or.inl (by decide +kernel)⟩
theorem qm_X7_142 : x_in (.methodLink RX7 142 yX0_holdBuckets) := ⟨List.mem_of_getElem? (i := 730) (by decide +kernel), Or.inl (by decide +kernel)⟩
theorem qd_X0_holdBuckets : x_in (.code yX0_holdBuckets cX0_holdBuckets 1 none) := ⟨List.mem_of_getElem? (i := 733) (by decide +kernel), Or.inl (by decide +kernel)⟩
theorem qi_X0_holdBuckets : x_in (.instanceMethod yX0_holdBuckets) := ⟨List.mem_of_getElem? (i := 731) (by decide +kernel), Or.inl (by decide +kernel)⟩
theorem qs_X0_holdBuckets : x_in (.selects RX0 yX0_holdBuckets yX0_holdBuckets) := ⟨List.mem_of_getElem? (i := 732) (by decide +kernel), Or.inl (by decide +kernel)⟩
theorem qf_X2_12 : x_in (x_fl false RX2 12 RX2 TX2 0) := ⟨List.mem_of_getElem? (i := 308) (by decide +kernel), Or.inl (by decide +kernel)⟩
theorem qf_X2_118 : x_in (x_fl true RX2 118 RX7 TX7 2) := ⟨List.mem_of_getElem? (i := 251) (by decide +kernel), Or.inr (by decide +kernel)⟩
theorem qm_X2_29 : x_in (.methodLink RX2 29 yX6_size) := ⟨List.mem_of_getElem? (i := 909) (by decide +kernel), Or.inl (by decide +kernel)⟩
theorem qd_X6_size : x_in (.code yX6_size cX6_size 1 (some .int)) := ⟨List.mem_of_getElem? (i := 912) (by decide +kernel), Or.inl (by decide +kernel)⟩
theorem qi_X6_size : x_in (.instanceMethod yX6_size) := ⟨List.mem_of_getElem? (i := 910) (by decide +kernel), Or.inl (by decide +kernel)⟩
theorem qs_X6_size : x_in (.selects RX6 yX6_size yX6_size) := ⟨List.mem_of_getElem? (i := 911) (by decide +kernel), Or.inl (by decide +kernel)⟩
theorem qm_X2_35 : x_in (.methodLink RX2 35 yX6_first) := ⟨List.mem_of_getElem? (i := 913) (by decide +kernel), Or.inl (by decide +kernel)⟩
theorem qd_X6_first : x_in (.code yX6_first cX6_first 2 (some .int)) := ⟨List.mem_of_getElem? (i := 916) (by decide +kernel), Or.inl (by decide +kernel)⟩
theorem qi_X6_first : x_in (.instanceMethod yX6_first) := ⟨List.mem_of_getElem? (i := 914) (by decide +kernel), Or.inl (by decide +kernel)⟩
theorem qs_X6_first : x_in (.selects RX6 yX6_first yX6_first) := ⟨List.mem_of_getElem? (i := 915) (by decide +kernel), Or.inl (by decide +kernel)⟩
theorem qm_X2_121 : x_in (.methodLink RX2 121 Lib.Math.max.name) := ⟨List.mem_of_getElem? (i := 917) (by decide +kernel), Or.inl (by decide +kernel)⟩
theorem qm_X2_43 : x_in (.methodLink RX2 43 yX6_second) := ⟨List.mem_of_getElem? (i := 922) (by decide +kernel), Or.inl (by decide +kernel)⟩
theorem qd_X6_second : x_in (.code yX6_second cX6_second 2 (some .int)) := ⟨List.mem_of_getElem? (i := 925) (by decide +kernel), Or.inl (by decide +kernel)⟩
theorem qi_X6_second : x_in (.instanceMethod yX6_second) := ⟨List.mem_of_getElem? (i := 923) (by decide +kernel), Or.inl (by decide +kernel)⟩
theorem qs_X6_second : x_in (.selects RX6 yX6_second yX6_second) := ⟨List.mem_of_getElem? (i := 924) (by decide +kernel), Or.inl (by decide +kernel)⟩
theorem qm_X2_56 : x_in (.methodLink RX2 56 yX7_level) := ⟨List.mem_of_getElem? (i := 786) (by decide +kernel), Or.inl (by decide +kernel)⟩
theorem qm_X2_18 : x_in (.methodLink RX2 18 yX7_copyFrom) := ⟨List.mem_of_getElem? (i := 743) (by decide +kernel), Or.inl (by decide +kernel)⟩
theorem qd_X7_copyFrom : x_in (.code yX7_copyFrom cX7_copyFrom 3 none) := ⟨List.mem_of_getElem? (i := 746) (by decide +kernel), Or.inl (by decide +kernel)⟩
theorem qi_X7_copyFrom : x_in (.instanceMethod yX7_copyFrom) := ⟨List.mem_of_getElem? (i := 744) (by decide +kernel), Or.inl (by decide +kernel)⟩
theorem qs_X7_copyFrom : x_in (.selects RX7 yX7_copyFrom yX7_copyFrom) := ⟨List.mem_of_getElem? (i := 745) (by decide +kernel), Or.inl (by decide +kernel)⟩
theorem qm_X2_39 : x_in (.methodLink RX2 39 yX7_find) := ⟨List.mem_of_getElem? (i := 808) (by decide +kernel), Or.inl (by decide +kernel)⟩
theorem qf_X2_108 : x_in (x_fl true RX2 108 RX0 TX0 2) := ⟨List.mem_of_getElem? (i := 205) (by decide +kernel), Or.inr (by decide +kernel)⟩
theorem qm_X2_22 : x_in (.methodLink RX2 22 yX7_pass) := ⟨List.mem_of_getElem? (i := 760) (by decide +kernel), Or.inl (by decide +kernel)⟩
theorem qd_X7_pass : x_in (.code yX7_pass cX7_pass 8 none) := ⟨List.mem_of_getElem? (i := 713) (by decide +kernel), Or.inl (by decide +kernel)⟩
theorem qi_X7_pass : x_in (.instanceMethod yX7_pass) := ⟨List.mem_of_getElem? (i := 711) (by decide +kernel), Or.inl (by decide +kernel)⟩
theorem qs_X7_pass : x_in (.selects RX7 yX7_pass yX7_pass) := ⟨List.mem_of_getElem? (i := 712) (by decide +kernel), Or.inl (by decide +kernel)⟩
theorem qf_X2_25 : x_in (x_fl true RX2 25 RX7 TX7 3) := ⟨List.mem_of_getElem? (i := 254) (by decide +kernel), Or.inr (by decide +kernel)⟩
theorem qf_X2_46 : x_in (x_fl true RX2 46 RX0 TX0 6) := ⟨List.mem_of_getElem? (i := 218) (by decide +kernel), Or.inr (by decide +kernel)⟩
theorem qm_X2_52 : x_in (.methodLink RX2 52 yX7_isDry) := ⟨List.mem_of_getElem? (i := 774) (by decide +kernel), Or.inl (by decide +kernel)⟩
theorem qd_X7_isDry : x_in (.code yX7_isDry cX7_isDry 1 (some .boolean)) := ⟨List.mem_of_getElem? (i := 777) (by decide +kernel), Or.inl (by decide +kernel)⟩
theorem qi_X7_isDry : x_in (.instanceMethod yX7_isDry) := ⟨List.mem_of_getElem? (i := 775) (by decide +kernel), Or.inl (by decide +kernel)⟩
theorem qs_X7_isDry : x_in (.selects RX7 yX7_isDry yX7_isDry) := ⟨List.mem_of_getElem? (i := 776) (by decide +kernel), Or.inl (by decide +kernel)⟩
theorem qm_X2_59 : x_in (.methodLink RX2 59 yX7_firstBelow) := ⟨List.mem_of_getElem? (i := 795) (by decide +kernel), Or.inl (by decide +kernel)⟩
theorem qd_X7_firstBelow : x_in (.code yX7_firstBelow cX7_firstBelow 3 (some .int)) := ⟨List.mem_of_getElem? (i := 798) (by decide +kernel), Or.inl (by decide +kernel)⟩
theorem qi_X7_firstBelow : x_in (.instanceMethod yX7_firstBelow) := ⟨List.mem_of_getElem? (i := 796) (by decide +kernel), Or.inl (by decide +kernel)⟩
theorem qs_X7_firstBelow : x_in (.selects RX7 yX7_firstBelow yX7_firstBelow) := ⟨List.mem_of_getElem? (i := 797) (by decide +kernel), Or.inl (by decide +kernel)⟩
theorem qm_X2_66 : x_in (.methodLink RX2 66 yX7_bucketsOf) := ⟨List.mem_of_getElem? (i := 821) (by decide +kernel), Or.inl (by decide +kernel)⟩
theorem qm_X9_323 : x_in (.methodLink RX9 323 yX9_commonDivisor) := ⟨List.mem_of_getElem? (i := 869) (by decide +kernel), Or.inl (by decide +kernel)⟩
theorem qd_X9_commonDivisor : x_in (.code yX9_commonDivisor cX9_commonDivisor 11 (some .long)) := ⟨List.mem_of_getElem? (i := 871) (by decide +kernel), Or.inl (by decide +kernel)⟩
theorem qt_X9_commonDivisor : x_in (.static yX9_commonDivisor) := ⟨List.mem_of_getElem? (i := 870) (by decide +kernel), Or.inl (by decide +kernel)⟩
theorem qk_X9_209 : x_in (.constantLong RX9 209 (-9223372036854775808)) := ⟨List.mem_of_getElem? (i := 857) (by decide +kernel), Or.inl (by decide +kernel)⟩
theorem qm_X2_89 : x_in (.methodLinkNest RX2 89 yX9_lowestTerms "LakeBooks") := ⟨List.mem_of_getElem? (i := 866) (by decide +kernel), Or.inr (by decide +kernel)⟩
theorem qd_X9_lowestTerms : x_in (.code yX9_lowestTerms cX9_lowestTerms 7 (some .long)) := ⟨List.mem_of_getElem? (i := 868) (by decide +kernel), Or.inl (by decide +kernel)⟩
theorem qt_X9_lowestTerms : x_in (.static yX9_lowestTerms) := ⟨List.mem_of_getElem? (i := 867) (by decide +kernel), Or.inl (by decide +kernel)⟩
theorem qf_X2_83 : x_in (x_fl true RX2 83 RX0 TX0 9) := ⟨List.mem_of_getElem? (i := 225) (by decide +kernel), Or.inr (by decide +kernel)⟩
theorem qm_X2_86 : x_in (.methodLink RX2 86 yX7_sunOfDay) := ⟨List.mem_of_getElem? (i := 862) (by decide +kernel), Or.inl (by decide +kernel)⟩
theorem qd_X7_sunOfDay : x_in (.code yX7_sunOfDay cX7_sunOfDay 6 (some .int)) := ⟨List.mem_of_getElem? (i := 865) (by decide +kernel), Or.inl (by decide +kernel)⟩
theorem qi_X7_sunOfDay : x_in (.instanceMethod yX7_sunOfDay) := ⟨List.mem_of_getElem? (i := 863) (by decide +kernel), Or.inl (by decide +kernel)⟩
theorem qs_X7_sunOfDay : x_in (.selects RX7 yX7_sunOfDay yX7_sunOfDay) := ⟨List.mem_of_getElem? (i := 864) (by decide +kernel), Or.inl (by decide +kernel)⟩
theorem qm_X2_112 : x_in (.methodLink RX2 112 yX2_lastSeen) := ⟨List.mem_of_getElem? (i := 905) (by decide +kernel), Or.inl (by decide +kernel)⟩
theorem qd_X2_lastSeen : x_in (.code yX2_lastSeen cX2_lastSeen 3 (some .int)) := ⟨List.mem_of_getElem? (i := 908) (by decide +kernel), Or.inl (by decide +kernel)⟩
theorem qc_X2 : x_in (.initialized RX2) := ⟨List.mem_of_getElem? (i := 87) (by decide +kernel), Or.inl (by decide +kernel)⟩
theorem qi_X2_lastSeen : x_in (.instanceMethod yX2_lastSeen) := ⟨List.mem_of_getElem? (i := 907) (by decide +kernel), Or.inl (by decide +kernel)⟩
theorem qs_X2_lastSeen : x_in (.selects RX2 yX2_lastSeen yX2_lastSeen) := ⟨List.mem_of_getElem? (i := 16) (by decide +kernel), Or.inl (by decide +kernel)⟩
theorem qm_X2_115 : x_in (.methodLink RX2 115 yX2_isAsSeenOn) := ⟨List.mem_of_getElem? (i := 918) (by decide +kernel), Or.inl (by decide +kernel)⟩
theorem qd_X2_isAsSeenOn : x_in (.code yX2_isAsSeenOn cX2_isAsSeenOn 3 (some .boolean)) := ⟨List.mem_of_getElem? (i := 921) (by decide +kernel), Or.inl (by decide +kernel)⟩
theorem qi_X2_isAsSeenOn : x_in (.instanceMethod yX2_isAsSeenOn) := ⟨List.mem_of_getElem? (i := 920) (by decide +kernel), Or.inl (by decide +kernel)⟩
theorem qs_X2_isAsSeenOn : x_in (.selects RX2 yX2_isAsSeenOn yX2_isAsSeenOn) := ⟨List.mem_of_getElem? (i := 17) (by decide +kernel), Or.inl (by decide +kernel)⟩
theorem qm_X2_62 : x_in (.methodLink RX2 62 yX2_staysWet) := ⟨List.mem_of_getElem? (i := 809) (by decide +kernel), Or.inl (by decide +kernel)⟩
theorem qd_X2_staysWet : x_in (.code yX2_staysWet cX2_staysWet 3 (some .boolean)) := ⟨List.mem_of_getElem? (i := 812) (by decide +kernel), Or.inl (by decide +kernel)⟩
theorem qi_X2_staysWet : x_in (.instanceMethod yX2_staysWet) := ⟨List.mem_of_getElem? (i := 811) (by decide +kernel), Or.inl (by decide +kernel)⟩
theorem qs_X2_staysWet : x_in (.selects RX2 yX2_staysWet yX2_staysWet) := ⟨List.mem_of_getElem? (i := 13) (by decide +kernel), Or.inl (by decide +kernel)⟩
theorem qm_X2_69 : x_in (.methodLink RX2 69 yX2_after) := ⟨List.mem_of_getElem? (i := 836) (by decide +kernel), Or.inl (by decide +kernel)⟩
theorem qd_X2_after : x_in (.code yX2_after cX2_after 4 (some (.object "LakeBooks$State"))) := ⟨List.mem_of_getElem? (i := 742) (by decide +kernel), Or.inl (by decide +kernel)⟩
theorem qi_X2_after : x_in (.instanceMethod yX2_after) := ⟨List.mem_of_getElem? (i := 740) (by decide +kernel), Or.inl (by decide +kernel)⟩
theorem qs_X2_after : x_in (.selects RX2 yX2_after yX2_after) := ⟨List.mem_of_getElem? (i := 741) (by decide +kernel), Or.inl (by decide +kernel)⟩
theorem qf_X2_73 : x_in (x_fl true RX2 73 RX7 TX7 7) := ⟨List.mem_of_getElem? (i := 265) (by decide +kernel), Or.inr (by decide +kernel)⟩
theorem qm_X2_76 : x_in (.methodLink RX2 76 yX2_beginWithout) := ⟨List.mem_of_getElem? (i := 837) (by decide +kernel), Or.inl (by decide +kernel)⟩
theorem qd_X2_beginWithout : x_in (.code yX2_beginWithout cX2_beginWithout 4 none) := ⟨List.mem_of_getElem? (i := 840) (by decide +kernel), Or.inl (by decide +kernel)⟩
theorem qi_X2_beginWithout : x_in (.instanceMethod yX2_beginWithout) := ⟨List.mem_of_getElem? (i := 839) (by decide +kernel), Or.inl (by decide +kernel)⟩
theorem qs_X2_beginWithout : x_in (.selects RX2 yX2_beginWithout yX2_beginWithout) := ⟨List.mem_of_getElem? (i := 14) (by decide +kernel), Or.inl (by decide +kernel)⟩
theorem qf_X2_80 : x_in (x_fl true RX2 80 RX7 TX7 10) := ⟨List.mem_of_getElem? (i := 272) (by decide +kernel), Or.inr (by decide +kernel)⟩
theorem qm_X2_96 : x_in (.methodLink RX2 96 yX2_goesAsSeen) := ⟨List.mem_of_getElem? (i := 901) (by decide +kernel), Or.inl (by decide +kernel)⟩
theorem qd_X2_goesAsSeen : x_in (.code yX2_goesAsSeen cX2_goesAsSeen 3 (some .boolean)) := ⟨List.mem_of_getElem? (i := 904) (by decide +kernel), Or.inl (by decide +kernel)⟩
theorem qi_X2_goesAsSeen : x_in (.instanceMethod yX2_goesAsSeen) := ⟨List.mem_of_getElem? (i := 903) (by decide +kernel), Or.inl (by decide +kernel)⟩
theorem qs_X2_goesAsSeen : x_in (.selects RX2 yX2_goesAsSeen yX2_goesAsSeen) := ⟨List.mem_of_getElem? (i := 15) (by decide +kernel), Or.inl (by decide +kernel)⟩
theorem qf_X2_93 : x_in (x_fl true RX2 93 RX0 TX0 7) := ⟨List.mem_of_getElem? (i := 222) (by decide +kernel), Or.inr (by decide +kernel)⟩
theorem qf_X2_99 : x_in (x_fl true RX2 99 RX7 TX7 6) := ⟨List.mem_of_getElem? (i := 261) (by decide +kernel), Or.inr (by decide +kernel)⟩
theorem qf_X2_102 : x_in (x_fl true RX2 102 RX7 TX7 9) := ⟨List.mem_of_getElem? (i := 270) (by decide +kernel), Or.inr (by decide +kernel)⟩
theorem qf_X2_105 : x_in (x_fl true RX2 105 RX7 TX7 11) := ⟨List.mem_of_getElem? (i := 274) (by decide +kernel), Or.inr (by decide +kernel)⟩
theorem qm_X9_56 : x_in (.methodLink RX9 56 yX9_within) := ⟨List.mem_of_getElem? (i := 396) (by decide +kernel), Or.inl (by decide +kernel)⟩
theorem qf_X9_12 : x_in (x_fl false RX9 12 RX9 TX9 0) := ⟨List.mem_of_getElem? (i := 364) (by decide +kernel), Or.inl (by decide +kernel)⟩
theorem qf_X9_60 : x_in (x_fl true RX9 60 RX7 TX7 0) := ⟨List.mem_of_getElem? (i := 248) (by decide +kernel), Or.inr (by decide +kernel)⟩
theorem qm_X9_70 : x_in (.methodLink RX9 70 yX3_volumeOf) := ⟨List.mem_of_getElem? (i := 410) (by decide +kernel), Or.inl (by decide +kernel)⟩
theorem qf_X9_136 : x_in (x_fl true RX9 136 RX7 TX7 7) := ⟨List.mem_of_getElem? (i := 264) (by decide +kernel), Or.inr (by decide +kernel)⟩
theorem qf_X9_43 : x_in (x_fl false RX9 43 RX9 TX9 5) := ⟨List.mem_of_getElem? (i := 369) (by decide +kernel), Or.inl (by decide +kernel)⟩
theorem qf_X9_50 : x_in (x_fl false RX9 50 RX9 TX9 6) := ⟨List.mem_of_getElem? (i := 370) (by decide +kernel), Or.inl (by decide +kernel)⟩
theorem qm_X9_293 : x_in (.methodLink RX9 293 yX1_bodyAt) := ⟨List.mem_of_getElem? (i := 1036) (by decide +kernel), Or.inl (by decide +kernel)⟩
theorem qd_X1_bodyAt : x_in (.code yX1_bodyAt cX1_bodyAt 2 (some .int)) := ⟨List.mem_of_getElem? (i := 1039) (by decide +kernel), Or.inl (by decide +kernel)⟩
theorem qi_X1_bodyAt : x_in (.instanceMethod yX1_bodyAt) := ⟨List.mem_of_getElem? (i := 1037) (by decide +kernel), Or.inl (by decide +kernel)⟩
theorem qs_X1_bodyAt : x_in (.selects RX1 yX1_bodyAt yX1_bodyAt) := ⟨List.mem_of_getElem? (i := 1038) (by decide +kernel), Or.inl (by decide +kernel)⟩
theorem qm_X9_320 : x_in (.methodLink RX9 320 yX9_kindAbove) := ⟨List.mem_of_getElem? (i := 1047) (by decide +kernel), Or.inl (by decide +kernel)⟩
theorem qf_X9_272 : x_in (x_fl true RX9 272 RX7 TX7 6) := ⟨List.mem_of_getElem? (i := 262) (by decide +kernel), Or.inr (by decide +kernel)⟩
theorem qf_X9_142 : x_in (x_fl false RX9 142 RX9 TX9 8) := ⟨List.mem_of_getElem? (i := 372) (by decide +kernel), Or.inl (by decide +kernel)⟩
theorem qf_X9_218 : x_in (x_fl true RX9 218 RX7 TX7 2) := ⟨List.mem_of_getElem? (i := 252) (by decide +kernel), Or.inr (by decide +kernel)⟩
theorem qm_X9_252 : x_in (.methodLink RX9 252 yX6_size) := ⟨List.mem_of_getElem? (i := 970) (by decide +kernel), Or.inl (by decide +kernel)⟩
theorem qf_X9_242 : x_in (x_fl true RX9 242 RX7 TX7 3) := ⟨List.mem_of_getElem? (i := 255) (by decide +kernel), Or.inr (by decide +kernel)⟩
theorem qf_X9_249 : x_in (x_fl true RX9 249 RX7 TX7 4) := ⟨List.mem_of_getElem? (i := 257) (by decide +kernel), Or.inr (by decide +kernel)⟩
theorem qf_X9_31 : x_in (x_fl false RX9 31 RX9 TX9 3) := ⟨List.mem_of_getElem? (i := 367) (by decide +kernel), Or.inl (by decide +kernel)⟩
theorem qm_X9_299 : x_in (.methodLink RX9 299 yX5_length) := ⟨List.mem_of_getElem? (i := 1052) (by decide +kernel), Or.inl (by decide +kernel)⟩
theorem qd_X5_length : x_in (.code yX5_length cX5_length 1 (some .int)) := ⟨List.mem_of_getElem? (i := 1055) (by decide +kernel), Or.inl (by decide +kernel)⟩
theorem qi_X5_length : x_in (.instanceMethod yX5_length) := ⟨List.mem_of_getElem? (i := 1053) (by decide +kernel), Or.inl (by decide +kernel)⟩
theorem qs_X5_length : x_in (.selects RX5 yX5_length yX5_length) := ⟨List.mem_of_getElem? (i := 1054) (by decide +kernel), Or.inl (by decide +kernel)⟩
theorem qm_X9_302 : x_in (.methodLink RX9 302 yX1_ran) := ⟨List.mem_of_getElem? (i := 1056) (by decide +kernel), Or.inl (by decide +kernel)⟩
theorem qd_X1_ran : x_in (.code yX1_ran cX1_ran 1 (some .int)) := ⟨List.mem_of_getElem? (i := 1059) (by decide +kernel), Or.inl (by decide +kernel)⟩
theorem qi_X1_ran : x_in (.instanceMethod yX1_ran) := ⟨List.mem_of_getElem? (i := 1057) (by decide +kernel), Or.inl (by decide +kernel)⟩
theorem qs_X1_ran : x_in (.selects RX1 yX1_ran yX1_ran) := ⟨List.mem_of_getElem? (i := 1058) (by decide +kernel), Or.inl (by decide +kernel)⟩
theorem qm_X9_64 : x_in (.methodLink RX9 64 yX3_change) := ⟨List.mem_of_getElem? (i := 399) (by decide +kernel), Or.inl (by decide +kernel)⟩
theorem qd_X3_change : x_in (.code yX3_change cX3_change 4 (some .int)) := ⟨List.mem_of_getElem? (i := 402) (by decide +kernel), Or.inl (by decide +kernel)⟩
theorem qi_X3_change : x_in (.instanceMethod yX3_change) := ⟨List.mem_of_getElem? (i := 400) (by decide +kernel), Or.inl (by decide +kernel)⟩
theorem qs_X3_change : x_in (.selects RX3 yX3_change yX3_change) := ⟨List.mem_of_getElem? (i := 401) (by decide +kernel), Or.inl (by decide +kernel)⟩
theorem qm_X9_74 : x_in (.methodLink RX9 74 yX9_isDaily) := ⟨List.mem_of_getElem? (i := 422) (by decide +kernel), Or.inl (by decide +kernel)⟩
theorem qd_X9_isDaily : x_in (.code yX9_isDaily cX9_isDaily 1 (some .boolean)) := ⟨List.mem_of_getElem? (i := 424) (by decide +kernel), Or.inl (by decide +kernel)⟩
theorem qt_X9_isDaily : x_in (.static yX9_isDaily) := ⟨List.mem_of_getElem? (i := 423) (by decide +kernel), Or.inl (by decide +kernel)⟩
theorem qm_X9_78 : x_in (.methodLink RX9 78 yX7_open) := ⟨List.mem_of_getElem? (i := 425) (by decide +kernel), Or.inl (by decide +kernel)⟩
theorem qd_X7_open : x_in (.code yX7_open cX7_open 4 (some .int)) := ⟨List.mem_of_getElem? (i := 428) (by decide +kernel), Or.inl (by decide +kernel)⟩
theorem qi_X7_open : x_in (.instanceMethod yX7_open) := ⟨List.mem_of_getElem? (i := 426) (by decide +kernel), Or.inl (by decide +kernel)⟩
theorem qs_X7_open : x_in (.selects RX7 yX7_open yX7_open) := ⟨List.mem_of_getElem? (i := 427) (by decide +kernel), Or.inl (by decide +kernel)⟩
theorem qm_X9_82 : x_in (.methodLink RX9 82 yX7_find) := ⟨List.mem_of_getElem? (i := 438) (by decide +kernel), Or.inl (by decide +kernel)⟩
theorem qf_X9_86 : x_in (x_fl true RX9 86 RX0 TX0 3) := ⟨List.mem_of_getElem? (i := 208) (by decide +kernel), Or.inr (by decide +kernel)⟩
theorem qm_X9_133 : x_in (.methodLink RX9 133 yX0_changeRow) := ⟨List.mem_of_getElem? (i := 499) (by decide +kernel), Or.inl (by decide +kernel)⟩
theorem qd_X0_changeRow : x_in (.code yX0_changeRow cX0_changeRow 4 (some .int)) := ⟨List.mem_of_getElem? (i := 502) (by decide +kernel), Or.inl (by decide +kernel)⟩
theorem qi_X0_changeRow : x_in (.instanceMethod yX0_changeRow) := ⟨List.mem_of_getElem? (i := 500) (by decide +kernel), Or.inl (by decide +kernel)⟩
theorem qs_X0_changeRow : x_in (.selects RX0 yX0_changeRow yX0_changeRow) := ⟨List.mem_of_getElem? (i := 501) (by decide +kernel), Or.inl (by decide +kernel)⟩
theorem qm_X9_139 : x_in (.methodLink RX9 139 yX5_add) := ⟨List.mem_of_getElem? (i := 511) (by decide +kernel), Or.inl (by decide +kernel)⟩
theorem qd_X5_add : x_in (.code yX5_add cX5_add 2 (some .int)) := ⟨List.mem_of_getElem? (i := 514) (by decide +kernel), Or.inl (by decide +kernel)⟩
theorem qi_X5_add : x_in (.instanceMethod yX5_add) := ⟨List.mem_of_getElem? (i := 512) (by decide +kernel), Or.inl (by decide +kernel)⟩
theorem qs_X5_add : x_in (.selects RX5 yX5_add yX5_add) := ⟨List.mem_of_getElem? (i := 513) (by decide +kernel), Or.inl (by decide +kernel)⟩
theorem qm_X9_108 : x_in (.methodLink RX9 108 yX7_level) := ⟨List.mem_of_getElem? (i := 446) (by decide +kernel), Or.inl (by decide +kernel)⟩
theorem qm_X9_195 : x_in (.methodLink RX9 195 yX3_levelOf) := ⟨List.mem_of_getElem? (i := 826) (by decide +kernel), Or.inl (by decide +kernel)⟩
theorem qm_X9_226 : x_in (.methodLink RX9 226 yX6_add) := ⟨List.mem_of_getElem? (i := 888) (by decide +kernel), Or.inl (by decide +kernel)⟩
theorem qd_X6_add : x_in (.code yX6_add cX6_add 3 (some .int)) := ⟨List.mem_of_getElem? (i := 891) (by decide +kernel), Or.inl (by decide +kernel)⟩
theorem qi_X6_add : x_in (.instanceMethod yX6_add) := ⟨List.mem_of_getElem? (i := 889) (by decide +kernel), Or.inl (by decide +kernel)⟩
theorem qs_X6_add : x_in (.selects RX6 yX6_add yX6_add) := ⟨List.mem_of_getElem? (i := 890) (by decide +kernel), Or.inl (by decide +kernel)⟩
theorem qm_X9_222 : x_in (.methodLink RX9 222 yX6_clear) := ⟨List.mem_of_getElem? (i := 884) (by decide +kernel), Or.inl (by decide +kernel)⟩
theorem qd_X6_clear : x_in (.code yX6_clear cX6_clear 1 (some .int)) := ⟨List.mem_of_getElem? (i := 887) (by decide +kernel), Or.inl (by decide +kernel)⟩
theorem qi_X6_clear : x_in (.instanceMethod yX6_clear) := ⟨List.mem_of_getElem? (i := 885) (by decide +kernel), Or.inl (by decide +kernel)⟩
theorem qs_X6_clear : x_in (.selects RX6 yX6_clear yX6_clear) := ⟨List.mem_of_getElem? (i := 886) (by decide +kernel), Or.inl (by decide +kernel)⟩
theorem qm_X9_255 : x_in (.methodLink RX9 255 yX6_first) := ⟨List.mem_of_getElem? (i := 971) (by decide +kernel), Or.inl (by decide +kernel)⟩
theorem qm_X9_174 : x_in (.methodLink RX9 174 yX7_bucketsOf) := ⟨List.mem_of_getElem? (i := 761) (by decide +kernel), Or.inl (by decide +kernel)⟩
theorem qm_X9_258 : x_in (.methodLink RX9 258 yX6_second) := ⟨List.mem_of_getElem? (i := 972) (by decide +kernel), Or.inl (by decide +kernel)⟩
theorem qm_X9_261 : x_in (.methodLink RX9 261 yX9_findTape) := ⟨List.mem_of_getElem? (i := 977) (by decide +kernel), Or.inl (by decide +kernel)⟩
theorem qd_X9_findTape : x_in (.code yX9_findTape cX9_findTape 2 (some (.object "LakeBooks$Tape"))) := ⟨List.mem_of_getElem? (i := 980) (by decide +kernel), Or.inl (by decide +kernel)⟩
theorem qi_X9_findTape : x_in (.instanceMethod yX9_findTape) := ⟨List.mem_of_getElem? (i := 979) (by decide +kernel), Or.inl (by decide +kernel)⟩
theorem qs_X9_findTape : x_in (.selects RX9 yX9_findTape yX9_findTape) := ⟨List.mem_of_getElem? (i := 18) (by decide +kernel), Or.inl (by decide +kernel)⟩
theorem qm_X9_265 : x_in (.methodLink RX9 265 yX8_isEmpty) := ⟨List.mem_of_getElem? (i := 981) (by decide +kernel), Or.inl (by decide +kernel)⟩
theorem qd_X8_isEmpty : x_in (.code yX8_isEmpty cX8_isEmpty 1 (some .boolean)) := ⟨List.mem_of_getElem? (i := 984) (by decide +kernel), Or.inl (by decide +kernel)⟩
theorem qi_X8_isEmpty : x_in (.instanceMethod yX8_isEmpty) := ⟨List.mem_of_getElem? (i := 982) (by decide +kernel), Or.inl (by decide +kernel)⟩
theorem qs_X8_isEmpty : x_in (.selects RX8 yX8_isEmpty yX8_isEmpty) := ⟨List.mem_of_getElem? (i := 983) (by decide +kernel), Or.inl (by decide +kernel)⟩
theorem qf_X9_275 : x_in (x_fl true RX9 275 RX8 TX8 2) := ⟨List.mem_of_getElem? (i := 355) (by decide +kernel), Or.inr (by decide +kernel)⟩
theorem qm_X9_277 : x_in (.methodLink RX9 277 yX8_get) := ⟨List.mem_of_getElem? (i := 985) (by decide +kernel), Or.inl (by decide +kernel)⟩
theorem qd_X8_get : x_in (.code yX8_get cX8_get 2 (some .long)) := ⟨List.mem_of_getElem? (i := 988) (by decide +kernel), Or.inl (by decide +kernel)⟩
theorem qi_X8_get : x_in (.instanceMethod yX8_get) := ⟨List.mem_of_getElem? (i := 986) (by decide +kernel), Or.inl (by decide +kernel)⟩
theorem qs_X8_get : x_in (.selects RX8 yX8_get yX8_get) := ⟨List.mem_of_getElem? (i := 987) (by decide +kernel), Or.inl (by decide +kernel)⟩
theorem qf_X9_269 : x_in (x_fl true RX9 269 RX8 TX8 1) := ⟨List.mem_of_getElem? (i := 353) (by decide +kernel), Or.inr (by decide +kernel)⟩
theorem qm_X9_296 : x_in (.methodLink RX9 296 yX9_isOrUnder) := ⟨List.mem_of_getElem? (i := 1044) (by decide +kernel), Or.inl (by decide +kernel)⟩
theorem qd_X9_isOrUnder : x_in (.code yX9_isOrUnder cX9_isOrUnder 4 (some .boolean)) := ⟨List.mem_of_getElem? (i := 1046) (by decide +kernel), Or.inl (by decide +kernel)⟩
theorem qt_X9_isOrUnder : x_in (.static yX9_isOrUnder) := ⟨List.mem_of_getElem? (i := 1045) (by decide +kernel), Or.inl (by decide +kernel)⟩
theorem qm_X9_305 : x_in (.methodLink RX9 305 yX8_become) := ⟨List.mem_of_getElem? (i := 1064) (by decide +kernel), Or.inl (by decide +kernel)⟩
theorem qd_X8_become : x_in (.code yX8_become cX8_become 4 (some .int)) := ⟨List.mem_of_getElem? (i := 1067) (by decide +kernel), Or.inl (by decide +kernel)⟩
theorem qi_X8_become : x_in (.instanceMethod yX8_become) := ⟨List.mem_of_getElem? (i := 1065) (by decide +kernel), Or.inl (by decide +kernel)⟩
theorem qs_X8_become : x_in (.selects RX8 yX8_become yX8_become) := ⟨List.mem_of_getElem? (i := 1066) (by decide +kernel), Or.inl (by decide +kernel)⟩
theorem qm_X9_308 : x_in (.methodLink RX9 308 yX8_put) := ⟨List.mem_of_getElem? (i := 1074) (by decide +kernel), Or.inl (by decide +kernel)⟩
theorem qd_X8_put : x_in (.code yX8_put cX8_put 4 (some .boolean)) := ⟨List.mem_of_getElem? (i := 1077) (by decide +kernel), Or.inl (by decide +kernel)⟩
theorem qi_X8_put : x_in (.instanceMethod yX8_put) := ⟨List.mem_of_getElem? (i := 1075) (by decide +kernel), Or.inl (by decide +kernel)⟩
theorem qs_X8_put : x_in (.selects RX8 yX8_put yX8_put) := ⟨List.mem_of_getElem? (i := 1076) (by decide +kernel), Or.inl (by decide +kernel)⟩
theorem qm_X9_312 : x_in (.methodLink RX9 312 yX8_takeFrom) := ⟨List.mem_of_getElem? (i := 1090) (by decide +kernel), Or.inl (by decide +kernel)⟩
theorem qd_X8_takeFrom : x_in (.code yX8_takeFrom cX8_takeFrom 5 (some .boolean)) := ⟨List.mem_of_getElem? (i := 1093) (by decide +kernel), Or.inl (by decide +kernel)⟩
theorem qi_X8_takeFrom : x_in (.instanceMethod yX8_takeFrom) := ⟨List.mem_of_getElem? (i := 1091) (by decide +kernel), Or.inl (by decide +kernel)⟩
theorem qs_X8_takeFrom : x_in (.selects RX8 yX8_takeFrom yX8_takeFrom) := ⟨List.mem_of_getElem? (i := 1092) (by decide +kernel), Or.inl (by decide +kernel)⟩
theorem qm_X9_128 : x_in (.methodLink RX9 128 yX9_maySet) := ⟨List.mem_of_getElem? (i := 488) (by decide +kernel), Or.inl (by decide +kernel)⟩
theorem qd_X9_maySet : x_in (.code yX9_maySet cX9_maySet 2 (some .boolean)) := ⟨List.mem_of_getElem? (i := 490) (by decide +kernel), Or.inl (by decide +kernel)⟩
theorem qt_X9_maySet : x_in (.static yX9_maySet) := ⟨List.mem_of_getElem? (i := 489) (by decide +kernel), Or.inl (by decide +kernel)⟩
theorem qm_X9_132 : x_in (.methodLink RX9 132 yX0_change) := ⟨List.mem_of_getElem? (i := 491) (by decide +kernel), Or.inl (by decide +kernel)⟩
theorem qd_X0_change : x_in (.code yX0_change cX0_change 4 (some .int)) := ⟨List.mem_of_getElem? (i := 494) (by decide +kernel), Or.inl (by decide +kernel)⟩
theorem qi_X0_change : x_in (.instanceMethod yX0_change) := ⟨List.mem_of_getElem? (i := 492) (by decide +kernel), Or.inl (by decide +kernel)⟩
theorem qs_X0_change : x_in (.selects RX0 yX0_change yX0_change) := ⟨List.mem_of_getElem? (i := 493) (by decide +kernel), Or.inl (by decide +kernel)⟩
theorem qf_X9_18 : x_in (x_fl false RX9 18 RX9 TX9 1) := ⟨List.mem_of_getElem? (i := 365) (by decide +kernel), Or.inl (by decide +kernel)⟩
theorem qm_X9_281 : x_in (.methodLink RX9 281 yX7_copyFrom) := ⟨List.mem_of_getElem? (i := 994) (by decide +kernel), Or.inl (by decide +kernel)⟩
theorem qf_X9_285 : x_in (x_fl false RX9 285 RX9 TX9 7) := ⟨List.mem_of_getElem? (i := 371) (by decide +kernel), Or.inl (by decide +kernel)⟩
theorem qf_X9_92 : x_in (x_fl true RX9 92 RX0 TX0 4) := ⟨List.mem_of_getElem? (i := 211) (by decide +kernel), Or.inr (by decide +kernel)⟩
theorem qf_X9_95 : x_in (x_fl true RX9 95 RX0 TX0 5) := ⟨List.mem_of_getElem? (i := 215) (by decide +kernel), Or.inr (by decide +kernel)⟩
theorem qf_X9_98 : x_in (x_fl true RX9 98 RX0 TX0 6) := ⟨List.mem_of_getElem? (i := 219) (by decide +kernel), Or.inr (by decide +kernel)⟩
theorem qf_X9_101 : x_in (x_fl true RX9 101 RX0 TX0 7) := ⟨List.mem_of_getElem? (i := 221) (by decide +kernel), Or.inr (by decide +kernel)⟩
theorem qm_X9_104 : x_in (.methodLink RX9 104 yX0_lifts) := ⟨List.mem_of_getElem? (i := 442) (by decide +kernel), Or.inl (by decide +kernel)⟩
theorem qf_X9_111 : x_in (x_fl true RX9 111 RX7 TX7 5) := ⟨List.mem_of_getElem? (i := 259) (by decide +kernel), Or.inr (by decide +kernel)⟩
theorem qf_X9_115 : x_in (x_fl true RX9 115 RX4 TX4 9) := ⟨List.mem_of_getElem? (i := 171) (by decide +kernel), Or.inr (by decide +kernel)⟩
theorem qf_X9_118 : x_in (x_fl true RX9 118 RX7 TX7 9) := ⟨List.mem_of_getElem? (i := 268) (by decide +kernel), Or.inr (by decide +kernel)⟩
theorem qm_X9_121 : x_in (.methodLink RX9 121 yX0_pours) := ⟨List.mem_of_getElem? (i := 455) (by decide +kernel), Or.inl (by decide +kernel)⟩
theorem qm_X9_124 : x_in (.methodLink RX9 124 yX7_sunOf) := ⟨List.mem_of_getElem? (i := 464) (by decide +kernel), Or.inl (by decide +kernel)⟩
theorem qf_X9_152 : x_in (x_fl true RX9 152 RX7 TX7 8) := ⟨List.mem_of_getElem? (i := 266) (by decide +kernel), Or.inr (by decide +kernel)⟩
theorem qf_X9_155 : x_in (x_fl true RX9 155 RX4 TX4 7) := ⟨List.mem_of_getElem? (i := 165) (by decide +kernel), Or.inr (by decide +kernel)⟩
theorem qf_X9_158 : x_in (x_fl true RX9 158 RX4 TX4 8) := ⟨List.mem_of_getElem? (i := 169) (by decide +kernel), Or.inr (by decide +kernel)⟩
theorem qm_X9_161 : x_in (.methodLink RX9 161 yX7_spring) := ⟨List.mem_of_getElem? (i := 698) (by decide +kernel), Or.inl (by decide +kernel)⟩
theorem qm_X9_164 : x_in (.methodLink RX9 164 yX3_areaOf) := ⟨List.mem_of_getElem? (i := 702) (by decide +kernel), Or.inl (by decide +kernel)⟩
theorem qd_X3_areaOf : x_in (.code yX3_areaOf cX3_areaOf 2 (some .int)) := ⟨List.mem_of_getElem? (i := 705) (by decide +kernel), Or.inl (by decide +kernel)⟩
theorem qi_X3_areaOf : x_in (.instanceMethod yX3_areaOf) := ⟨List.mem_of_getElem? (i := 703) (by decide +kernel), Or.inl (by decide +kernel)⟩
theorem qs_X3_areaOf : x_in (.selects RX3 yX3_areaOf yX3_areaOf) := ⟨List.mem_of_getElem? (i := 704) (by decide +kernel), Or.inl (by decide +kernel)⟩
theorem qm_X9_167 : x_in (.methodLink RX9 167 yX7_pass) := ⟨List.mem_of_getElem? (i := 710) (by decide +kernel), Or.inl (by decide +kernel)⟩
theorem qf_X9_24 : x_in (x_fl false RX9 24 RX9 TX9 2) := ⟨List.mem_of_getElem? (i := 366) (by decide +kernel), Or.inl (by decide +kernel)⟩
theorem qm_X9_170 : x_in (.methodLink RX9 170 yX2_after) := ⟨List.mem_of_getElem? (i := 739) (by decide +kernel), Or.inl (by decide +kernel)⟩
theorem qm_X9_177 : x_in (.methodLink RX9 177 yX2_daysTillDry) := ⟨List.mem_of_getElem? (i := 770) (by decide +kernel), Or.inl (by decide +kernel)⟩
theorem qd_X2_daysTillDry : x_in (.code yX2_daysTillDry cX2_daysTillDry 3 (some .int)) := ⟨List.mem_of_getElem? (i := 773) (by decide +kernel), Or.inl (by decide +kernel)⟩
theorem qi_X2_daysTillDry : x_in (.instanceMethod yX2_daysTillDry) := ⟨List.mem_of_getElem? (i := 771) (by decide +kernel), Or.inl (by decide +kernel)⟩
theorem qs_X2_daysTillDry : x_in (.selects RX2 yX2_daysTillDry yX2_daysTillDry) := ⟨List.mem_of_getElem? (i := 772) (by decide +kernel), Or.inl (by decide +kernel)⟩
theorem qm_X9_181 : x_in (.methodLink RX9 181 yX2_daysTillLowest) := ⟨List.mem_of_getElem? (i := 782) (by decide +kernel), Or.inl (by decide +kernel)⟩
theorem qd_X2_daysTillLowest : x_in (.code yX2_daysTillLowest cX2_daysTillLowest 6 (some .int)) := ⟨List.mem_of_getElem? (i := 785) (by decide +kernel), Or.inl (by decide +kernel)⟩
theorem qi_X2_daysTillLowest : x_in (.instanceMethod yX2_daysTillLowest) := ⟨List.mem_of_getElem? (i := 783) (by decide +kernel), Or.inl (by decide +kernel)⟩
theorem qs_X2_daysTillLowest : x_in (.selects RX2 yX2_daysTillLowest yX2_daysTillLowest) := ⟨List.mem_of_getElem? (i := 784) (by decide +kernel), Or.inl (by decide +kernel)⟩
theorem qm_X9_185 : x_in (.methodLink RX9 185 yX2_firstBelow) := ⟨List.mem_of_getElem? (i := 791) (by decide +kernel), Or.inl (by decide +kernel)⟩
theorem qd_X2_firstBelow : x_in (.code yX2_firstBelow cX2_firstBelow 5 (some .int)) := ⟨List.mem_of_getElem? (i := 794) (by decide +kernel), Or.inl (by decide +kernel)⟩
theorem qi_X2_firstBelow : x_in (.instanceMethod yX2_firstBelow) := ⟨List.mem_of_getElem? (i := 792) (by decide +kernel), Or.inl (by decide +kernel)⟩
theorem qs_X2_firstBelow : x_in (.selects RX2 yX2_firstBelow yX2_firstBelow) := ⟨List.mem_of_getElem? (i := 793) (by decide +kernel), Or.inl (by decide +kernel)⟩
theorem qm_X9_192 : x_in (.methodLink RX9 192 yX2_daysTillEnough) := ⟨List.mem_of_getElem? (i := 817) (by decide +kernel), Or.inl (by decide +kernel)⟩
theorem qd_X2_daysTillEnough : x_in (.code yX2_daysTillEnough cX2_daysTillEnough 5 (some .int)) := ⟨List.mem_of_getElem? (i := 820) (by decide +kernel), Or.inl (by decide +kernel)⟩
theorem qi_X2_daysTillEnough : x_in (.instanceMethod yX2_daysTillEnough) := ⟨List.mem_of_getElem? (i := 818) (by decide +kernel), Or.inl (by decide +kernel)⟩
theorem qs_X2_daysTillEnough : x_in (.selects RX2 yX2_daysTillEnough yX2_daysTillEnough) := ⟨List.mem_of_getElem? (i := 819) (by decide +kernel), Or.inl (by decide +kernel)⟩
theorem qm_X9_206 : x_in (.methodLink RX9 206 yX9_isPart) := ⟨List.mem_of_getElem? (i := 854) (by decide +kernel), Or.inl (by decide +kernel)⟩
theorem qd_X9_isPart : x_in (.code yX9_isPart cX9_isPart 1 (some .boolean)) := ⟨List.mem_of_getElem? (i := 856) (by decide +kernel), Or.inl (by decide +kernel)⟩
theorem qt_X9_isPart : x_in (.static yX9_isPart) := ⟨List.mem_of_getElem? (i := 855) (by decide +kernel), Or.inl (by decide +kernel)⟩
theorem qm_X9_211 : x_in (.methodLink RX9 211 yX2_sunShare) := ⟨List.mem_of_getElem? (i := 858) (by decide +kernel), Or.inl (by decide +kernel)⟩
theorem qd_X2_sunShare : x_in (.code yX2_sunShare cX2_sunShare 11 (some .long)) := ⟨List.mem_of_getElem? (i := 861) (by decide +kernel), Or.inl (by decide +kernel)⟩
theorem qi_X2_sunShare : x_in (.instanceMethod yX2_sunShare) := ⟨List.mem_of_getElem? (i := 859) (by decide +kernel), Or.inl (by decide +kernel)⟩
theorem qs_X2_sunShare : x_in (.selects RX2 yX2_sunShare yX2_sunShare) := ⟨List.mem_of_getElem? (i := 860) (by decide +kernel), Or.inl (by decide +kernel)⟩
theorem qm_X9_215 : x_in (.methodLink RX9 215 yX7_richestNow) := ⟨List.mem_of_getElem? (i := 876) (by decide +kernel), Or.inl (by decide +kernel)⟩
theorem qd_X7_richestNow : x_in (.code yX7_richestNow cX7_richestNow 3 (some .int)) := ⟨List.mem_of_getElem? (i := 879) (by decide +kernel), Or.inl (by decide +kernel)⟩
theorem qi_X7_richestNow : x_in (.instanceMethod yX7_richestNow) := ⟨List.mem_of_getElem? (i := 877) (by decide +kernel), Or.inl (by decide +kernel)⟩
theorem qs_X7_richestNow : x_in (.selects RX7 yX7_richestNow yX7_richestNow) := ⟨List.mem_of_getElem? (i := 878) (by decide +kernel), Or.inl (by decide +kernel)⟩
theorem qm_X9_239 : x_in (.methodLink RX9 239 yX2_meanLevel) := ⟨List.mem_of_getElem? (i := 946) (by decide +kernel), Or.inl (by decide +kernel)⟩
theorem qd_X2_meanLevel : x_in (.code yX2_meanLevel cX2_meanLevel 7 (some .long)) := ⟨List.mem_of_getElem? (i := 949) (by decide +kernel), Or.inl (by decide +kernel)⟩
theorem qi_X2_meanLevel : x_in (.instanceMethod yX2_meanLevel) := ⟨List.mem_of_getElem? (i := 947) (by decide +kernel), Or.inl (by decide +kernel)⟩
theorem qs_X2_meanLevel : x_in (.selects RX2 yX2_meanLevel yX2_meanLevel) := ⟨List.mem_of_getElem? (i := 948) (by decide +kernel), Or.inl (by decide +kernel)⟩
theorem qm_X9_245 : x_in (.methodLink RX9 245 yX2_afterPlan) := ⟨List.mem_of_getElem? (i := 958) (by decide +kernel), Or.inl (by decide +kernel)⟩
theorem qd_X2_afterPlan : x_in (.code yX2_afterPlan cX2_afterPlan 4 (some (.object "LakeBooks$State"))) := ⟨List.mem_of_getElem? (i := 961) (by decide +kernel), Or.inl (by decide +kernel)⟩
theorem qi_X2_afterPlan : x_in (.instanceMethod yX2_afterPlan) := ⟨List.mem_of_getElem? (i := 959) (by decide +kernel), Or.inl (by decide +kernel)⟩
theorem qs_X2_afterPlan : x_in (.selects RX2 yX2_afterPlan yX2_afterPlan) := ⟨List.mem_of_getElem? (i := 960) (by decide +kernel), Or.inl (by decide +kernel)⟩
theorem qm_X9_188 : x_in (.methodLink RX9 188 yX2_leastDaily) := ⟨List.mem_of_getElem? (i := 804) (by decide +kernel), Or.inl (by decide +kernel)⟩
theorem qd_X2_leastDaily : x_in (.code yX2_leastDaily cX2_leastDaily 6 (some .int)) := ⟨List.mem_of_getElem? (i := 807) (by decide +kernel), Or.inl (by decide +kernel)⟩
theorem qi_X2_leastDaily : x_in (.instanceMethod yX2_leastDaily) := ⟨List.mem_of_getElem? (i := 805) (by decide +kernel), Or.inl (by decide +kernel)⟩
theorem qs_X2_leastDaily : x_in (.selects RX2 yX2_leastDaily yX2_leastDaily) := ⟨List.mem_of_getElem? (i := 806) (by decide +kernel), Or.inl (by decide +kernel)⟩
theorem qk_X9_202 : x_in (.constant RX9 202 (-100002)) := ⟨List.mem_of_getElem? (i := 841) (by decide +kernel), Or.inl (by decide +kernel)⟩
theorem qm_X9_199 : x_in (.methodLink RX9 199 yX2_waterBy) := ⟨List.mem_of_getElem? (i := 832) (by decide +kernel), Or.inl (by decide +kernel)⟩
theorem qd_X2_waterBy : x_in (.code yX2_waterBy cX2_waterBy 6 (some .int)) := ⟨List.mem_of_getElem? (i := 835) (by decide +kernel), Or.inl (by decide +kernel)⟩
theorem qi_X2_waterBy : x_in (.instanceMethod yX2_waterBy) := ⟨List.mem_of_getElem? (i := 833) (by decide +kernel), Or.inl (by decide +kernel)⟩
theorem qs_X2_waterBy : x_in (.selects RX2 yX2_waterBy yX2_waterBy) := ⟨List.mem_of_getElem? (i := 834) (by decide +kernel), Or.inl (by decide +kernel)⟩
theorem qk_X9_198 : x_in (.constant RX9 198 (-100001)) := ⟨List.mem_of_getElem? (i := 831) (by decide +kernel), Or.inl (by decide +kernel)⟩
theorem qm_X9_203 : x_in (.methodLink RX9 203 yX2_leastWell) := ⟨List.mem_of_getElem? (i := 846) (by decide +kernel), Or.inl (by decide +kernel)⟩
theorem qd_X2_leastWell : x_in (.code yX2_leastWell cX2_leastWell 4 (some .int)) := ⟨List.mem_of_getElem? (i := 849) (by decide +kernel), Or.inl (by decide +kernel)⟩
theorem qi_X2_leastWell : x_in (.instanceMethod yX2_leastWell) := ⟨List.mem_of_getElem? (i := 847) (by decide +kernel), Or.inl (by decide +kernel)⟩
theorem qs_X2_leastWell : x_in (.selects RX2 yX2_leastWell yX2_leastWell) := ⟨List.mem_of_getElem? (i := 848) (by decide +kernel), Or.inl (by decide +kernel)⟩
theorem qm_X9_228 : x_in (.methodLink RX9 228 yX2_isAsSeenWith) := ⟨List.mem_of_getElem? (i := 897) (by decide +kernel), Or.inl (by decide +kernel)⟩
theorem qd_X2_isAsSeenWith : x_in (.code yX2_isAsSeenWith cX2_isAsSeenWith 5 (some .boolean)) := ⟨List.mem_of_getElem? (i := 900) (by decide +kernel), Or.inl (by decide +kernel)⟩
theorem qi_X2_isAsSeenWith : x_in (.instanceMethod yX2_isAsSeenWith) := ⟨List.mem_of_getElem? (i := 898) (by decide +kernel), Or.inl (by decide +kernel)⟩
theorem qs_X2_isAsSeenWith : x_in (.selects RX2 yX2_isAsSeenWith yX2_isAsSeenWith) := ⟨List.mem_of_getElem? (i := 899) (by decide +kernel), Or.inl (by decide +kernel)⟩
theorem qm_X9_232 : x_in (.methodLink RX9 232 yX2_absencesAsSeen) := ⟨List.mem_of_getElem? (i := 930) (by decide +kernel), Or.inl (by decide +kernel)⟩
theorem qd_X2_absencesAsSeen : x_in (.code yX2_absencesAsSeen cX2_absencesAsSeen 4 (some .int)) := ⟨List.mem_of_getElem? (i := 933) (by decide +kernel), Or.inl (by decide +kernel)⟩
theorem qi_X2_absencesAsSeen : x_in (.instanceMethod yX2_absencesAsSeen) := ⟨List.mem_of_getElem? (i := 931) (by decide +kernel), Or.inl (by decide +kernel)⟩
theorem qs_X2_absencesAsSeen : x_in (.selects RX2 yX2_absencesAsSeen yX2_absencesAsSeen) := ⟨List.mem_of_getElem? (i := 932) (by decide +kernel), Or.inl (by decide +kernel)⟩
theorem qm_X9_235 : x_in (.methodLink RX9 235 yX2_springlessOdds) := ⟨List.mem_of_getElem? (i := 938) (by decide +kernel), Or.inl (by decide +kernel)⟩
theorem qd_X2_springlessOdds : x_in (.code yX2_springlessOdds cX2_springlessOdds 6 (some .long)) := ⟨List.mem_of_getElem? (i := 941) (by decide +kernel), Or.inl (by decide +kernel)⟩
theorem qi_X2_springlessOdds : x_in (.instanceMethod yX2_springlessOdds) := ⟨List.mem_of_getElem? (i := 939) (by decide +kernel), Or.inl (by decide +kernel)⟩
theorem qs_X2_springlessOdds : x_in (.selects RX2 yX2_springlessOdds yX2_springlessOdds) := ⟨List.mem_of_getElem? (i := 940) (by decide +kernel), Or.inl (by decide +kernel)⟩
theorem qm_X9_289 : x_in (.methodLink RX9 289 yX1_perform) := ⟨List.mem_of_getElem? (i := 1003) (by decide +kernel), Or.inl (by decide +kernel)⟩
theorem qd_X1_perform : x_in (.code yX1_perform cX1_perform 4 (some .int)) := ⟨List.mem_of_getElem? (i := 1006) (by decide +kernel), Or.inl (by decide +kernel)⟩
theorem qi_X1_perform : x_in (.instanceMethod yX1_perform) := ⟨List.mem_of_getElem? (i := 1004) (by decide +kernel), Or.inl (by decide +kernel)⟩
theorem qs_X1_perform : x_in (.selects RX1 yX1_perform yX1_perform) := ⟨List.mem_of_getElem? (i := 1005) (by decide +kernel), Or.inl (by decide +kernel)⟩
theorem qf_X9_37 : x_in (x_fl false RX9 37 RX9 TX9 4) := ⟨List.mem_of_getElem? (i := 368) (by decide +kernel), Or.inl (by decide +kernel)⟩
theorem qm_X9_145 : x_in (.methodLink RX9 145 yX5_parse) := ⟨List.mem_of_getElem? (i := 520) (by decide +kernel), Or.inl (by decide +kernel)⟩
theorem qd_X5_parse : x_in (.code yX5_parse cX5_parse 5 (some .int)) := ⟨List.mem_of_getElem? (i := 523) (by decide +kernel), Or.inl (by decide +kernel)⟩
theorem qi_X5_parse : x_in (.instanceMethod yX5_parse) := ⟨List.mem_of_getElem? (i := 521) (by decide +kernel), Or.inl (by decide +kernel)⟩
theorem qs_X5_parse : x_in (.selects RX5 yX5_parse yX5_parse) := ⟨List.mem_of_getElem? (i := 522) (by decide +kernel), Or.inl (by decide +kernel)⟩
theorem qm_X9_149 : x_in (.methodLink RX9 149 yX5_clear) := ⟨List.mem_of_getElem? (i := 689) (by decide +kernel), Or.inl (by decide +kernel)⟩
theorem qd_X5_clear : x_in (.code yX5_clear cX5_clear 1 none) := ⟨List.mem_of_getElem? (i := 692) (by decide +kernel), Or.inl (by decide +kernel)⟩
theorem qi_X5_clear : x_in (.instanceMethod yX5_clear) := ⟨List.mem_of_getElem? (i := 690) (by decide +kernel), Or.inl (by decide +kernel)⟩
theorem qs_X5_clear : x_in (.selects RX5 yX5_clear yX5_clear) := ⟨List.mem_of_getElem? (i := 691) (by decide +kernel), Or.inl (by decide +kernel)⟩
theorem qf_X10_22 : x_in (x_fl false RX10 22 RX10 TX10 4) := ⟨List.mem_of_getElem? (i := 1107) (by decide +kernel), Or.inl (by decide +kernel)⟩
theorem qf_X10_53 : x_in (x_fl false RX10 53 RX10 TX10 14) := ⟨List.mem_of_getElem? (i := 1117) (by decide +kernel), Or.inl (by decide +kernel)⟩
theorem qf_X10_50 : x_in (x_fl false RX10 50 RX10 TX10 13) := ⟨List.mem_of_getElem? (i := 1116) (by decide +kernel), Or.inl (by decide +kernel)⟩
theorem qf_X10_59 : x_in (x_fl false RX10 59 RX10 TX10 16) := ⟨List.mem_of_getElem? (i := 1119) (by decide +kernel), Or.inl (by decide +kernel)⟩
theorem qf_X10_77 : x_in (x_fl false RX10 77 RX10 TX10 22) := ⟨List.mem_of_getElem? (i := 1125) (by decide +kernel), Or.inl (by decide +kernel)⟩
theorem qf_X10_83 : x_in (x_fl false RX10 83 RX10 TX10 24) := ⟨List.mem_of_getElem? (i := 1127) (by decide +kernel), Or.inl (by decide +kernel)⟩
theorem qf_X10_47 : x_in (x_fl false RX10 47 RX10 TX10 12) := ⟨List.mem_of_getElem? (i := 1115) (by decide +kernel), Or.inl (by decide +kernel)⟩
theorem qf_X10_62 : x_in (x_fl false RX10 62 RX10 TX10 17) := ⟨List.mem_of_getElem? (i := 1120) (by decide +kernel), Or.inl (by decide +kernel)⟩
theorem qf_X10_13 : x_in (x_fl false RX10 13 RX10 TX10 1) := ⟨List.mem_of_getElem? (i := 1104) (by decide +kernel), Or.inl (by decide +kernel)⟩
theorem qf_X10_99 : x_in (x_fl false RX10 99 RX10 TX10 29) := ⟨List.mem_of_getElem? (i := 1132) (by decide +kernel), Or.inl (by decide +kernel)⟩
theorem qf_X10_26 : x_in (x_fl false RX10 26 RX10 TX10 5) := ⟨List.mem_of_getElem? (i := 1108) (by decide +kernel), Or.inl (by decide +kernel)⟩
theorem qf_X10_32 : x_in (x_fl false RX10 32 RX10 TX10 7) := ⟨List.mem_of_getElem? (i := 1110) (by decide +kernel), Or.inl (by decide +kernel)⟩
theorem qf_X10_102 : x_in (x_fl false RX10 102 RX10 TX10 30) := ⟨List.mem_of_getElem? (i := 1133) (by decide +kernel), Or.inl (by decide +kernel)⟩
theorem qf_X10_29 : x_in (x_fl false RX10 29 RX10 TX10 6) := ⟨List.mem_of_getElem? (i := 1109) (by decide +kernel), Or.inl (by decide +kernel)⟩
theorem qf_X10_38 : x_in (x_fl false RX10 38 RX10 TX10 9) := ⟨List.mem_of_getElem? (i := 1112) (by decide +kernel), Or.inl (by decide +kernel)⟩
theorem qf_X10_117 : x_in (x_fl false RX10 117 RX10 TX10 35) := ⟨List.mem_of_getElem? (i := 1138) (by decide +kernel), Or.inl (by decide +kernel)⟩
theorem qf_X10_16 : x_in (x_fl false RX10 16 RX10 TX10 2) := ⟨List.mem_of_getElem? (i := 1105) (by decide +kernel), Or.inl (by decide +kernel)⟩
theorem qf_X10_120 : x_in (x_fl false RX10 120 RX10 TX10 36) := ⟨List.mem_of_getElem? (i := 1139) (by decide +kernel), Or.inl (by decide +kernel)⟩
theorem qf_X10_19 : x_in (x_fl false RX10 19 RX10 TX10 3) := ⟨List.mem_of_getElem? (i := 1106) (by decide +kernel), Or.inl (by decide +kernel)⟩
theorem qf_X10_123 : x_in (x_fl false RX10 123 RX10 TX10 37) := ⟨List.mem_of_getElem? (i := 1140) (by decide +kernel), Or.inl (by decide +kernel)⟩
theorem qf_X10_126 : x_in (x_fl false RX10 126 RX10 TX10 38) := ⟨List.mem_of_getElem? (i := 1141) (by decide +kernel), Or.inl (by decide +kernel)⟩
theorem qf_X10_129 : x_in (x_fl false RX10 129 RX10 TX10 39) := ⟨List.mem_of_getElem? (i := 1142) (by decide +kernel), Or.inl (by decide +kernel)⟩
theorem qf_X10_35 : x_in (x_fl false RX10 35 RX10 TX10 8) := ⟨List.mem_of_getElem? (i := 1111) (by decide +kernel), Or.inl (by decide +kernel)⟩
theorem qf_X10_7 : x_in (x_fl false RX10 7 RX10 TX10 0) := ⟨List.mem_of_getElem? (i := 1103) (by decide +kernel), Or.inl (by decide +kernel)⟩
theorem qf_X10_144 : x_in (x_fl false RX10 144 RX10 TX10 44) := ⟨List.mem_of_getElem? (i := 1147) (by decide +kernel), Or.inl (by decide +kernel)⟩
theorem qf_X10_153 : x_in (x_fl false RX10 153 RX10 TX10 47) := ⟨List.mem_of_getElem? (i := 1150) (by decide +kernel), Or.inl (by decide +kernel)⟩
theorem qf_X10_156 : x_in (x_fl false RX10 156 RX10 TX10 48) := ⟨List.mem_of_getElem? (i := 1151) (by decide +kernel), Or.inl (by decide +kernel)⟩
theorem qf_X10_159 : x_in (x_fl false RX10 159 RX10 TX10 49) := ⟨List.mem_of_getElem? (i := 1152) (by decide +kernel), Or.inl (by decide +kernel)⟩
theorem qf_X10_163 : x_in (x_fl false RX10 163 RX10 TX10 50) := ⟨List.mem_of_getElem? (i := 1153) (by decide +kernel), Or.inl (by decide +kernel)⟩
theorem qf_X10_166 : x_in (x_fl false RX10 166 RX10 TX10 51) := ⟨List.mem_of_getElem? (i := 1154) (by decide +kernel), Or.inl (by decide +kernel)⟩
theorem qf_X10_169 : x_in (x_fl false RX10 169 RX10 TX10 52) := ⟨List.mem_of_getElem? (i := 1155) (by decide +kernel), Or.inl (by decide +kernel)⟩
theorem qf_X10_172 : x_in (x_fl false RX10 172 RX10 TX10 53) := ⟨List.mem_of_getElem? (i := 1156) (by decide +kernel), Or.inl (by decide +kernel)⟩
theorem qf_X10_175 : x_in (x_fl false RX10 175 RX10 TX10 54) := ⟨List.mem_of_getElem? (i := 1157) (by decide +kernel), Or.inl (by decide +kernel)⟩
theorem qf_X10_132 : x_in (x_fl false RX10 132 RX10 TX10 40) := ⟨List.mem_of_getElem? (i := 1143) (by decide +kernel), Or.inl (by decide +kernel)⟩
theorem qf_X10_178 : x_in (x_fl false RX10 178 RX10 TX10 55) := ⟨List.mem_of_getElem? (i := 1158) (by decide +kernel), Or.inl (by decide +kernel)⟩
theorem qf_X10_141 : x_in (x_fl false RX10 141 RX10 TX10 43) := ⟨List.mem_of_getElem? (i := 1146) (by decide +kernel), Or.inl (by decide +kernel)⟩
theorem qf_X10_181 : x_in (x_fl false RX10 181 RX10 TX10 56) := ⟨List.mem_of_getElem? (i := 1159) (by decide +kernel), Or.inl (by decide +kernel)⟩
theorem qf_X10_184 : x_in (x_fl false RX10 184 RX10 TX10 57) := ⟨List.mem_of_getElem? (i := 1160) (by decide +kernel), Or.inl (by decide +kernel)⟩
theorem qf_X10_187 : x_in (x_fl false RX10 187 RX10 TX10 58) := ⟨List.mem_of_getElem? (i := 1161) (by decide +kernel), Or.inl (by decide +kernel)⟩
theorem qf_X10_190 : x_in (x_fl false RX10 190 RX10 TX10 59) := ⟨List.mem_of_getElem? (i := 1162) (by decide +kernel), Or.inl (by decide +kernel)⟩
theorem qf_X10_193 : x_in (x_fl false RX10 193 RX10 TX10 60) := ⟨List.mem_of_getElem? (i := 1163) (by decide +kernel), Or.inl (by decide +kernel)⟩
theorem qf_X10_196 : x_in (x_fl false RX10 196 RX10 TX10 61) := ⟨List.mem_of_getElem? (i := 1164) (by decide +kernel), Or.inl (by decide +kernel)⟩
theorem qf_X10_199 : x_in (x_fl false RX10 199 RX10 TX10 62) := ⟨List.mem_of_getElem? (i := 1165) (by decide +kernel), Or.inl (by decide +kernel)⟩
theorem qf_X10_202 : x_in (x_fl false RX10 202 RX10 TX10 63) := ⟨List.mem_of_getElem? (i := 1166) (by decide +kernel), Or.inl (by decide +kernel)⟩
theorem qf_X10_205 : x_in (x_fl false RX10 205 RX10 TX10 64) := ⟨List.mem_of_getElem? (i := 1167) (by decide +kernel), Or.inl (by decide +kernel)⟩
theorem qf_X10_41 : x_in (x_fl false RX10 41 RX10 TX10 10) := ⟨List.mem_of_getElem? (i := 1113) (by decide +kernel), Or.inl (by decide +kernel)⟩
theorem qf_X10_208 : x_in (x_fl false RX10 208 RX10 TX10 65) := ⟨List.mem_of_getElem? (i := 1168) (by decide +kernel), Or.inl (by decide +kernel)⟩
theorem qf_X10_135 : x_in (x_fl false RX10 135 RX10 TX10 41) := ⟨List.mem_of_getElem? (i := 1144) (by decide +kernel), Or.inl (by decide +kernel)⟩
theorem qf_X10_211 : x_in (x_fl false RX10 211 RX10 TX10 66) := ⟨List.mem_of_getElem? (i := 1169) (by decide +kernel), Or.inl (by decide +kernel)⟩
theorem qf_X10_138 : x_in (x_fl false RX10 138 RX10 TX10 42) := ⟨List.mem_of_getElem? (i := 1145) (by decide +kernel), Or.inl (by decide +kernel)⟩
theorem qf_X10_214 : x_in (x_fl false RX10 214 RX10 TX10 67) := ⟨List.mem_of_getElem? (i := 1170) (by decide +kernel), Or.inl (by decide +kernel)⟩
theorem qf_X10_147 : x_in (x_fl false RX10 147 RX10 TX10 45) := ⟨List.mem_of_getElem? (i := 1148) (by decide +kernel), Or.inl (by decide +kernel)⟩
theorem qf_X10_217 : x_in (x_fl false RX10 217 RX10 TX10 68) := ⟨List.mem_of_getElem? (i := 1171) (by decide +kernel), Or.inl (by decide +kernel)⟩
theorem qf_X10_150 : x_in (x_fl false RX10 150 RX10 TX10 46) := ⟨List.mem_of_getElem? (i := 1149) (by decide +kernel), Or.inl (by decide +kernel)⟩
theorem qf_X10_220 : x_in (x_fl false RX10 220 RX10 TX10 69) := ⟨List.mem_of_getElem? (i := 1172) (by decide +kernel), Or.inl (by decide +kernel)⟩
theorem qf_X10_223 : x_in (x_fl false RX10 223 RX10 TX10 70) := ⟨List.mem_of_getElem? (i := 1173) (by decide +kernel), Or.inl (by decide +kernel)⟩
theorem qf_X10_226 : x_in (x_fl false RX10 226 RX10 TX10 71) := ⟨List.mem_of_getElem? (i := 1174) (by decide +kernel), Or.inl (by decide +kernel)⟩
theorem qf_X10_229 : x_in (x_fl false RX10 229 RX10 TX10 72) := ⟨List.mem_of_getElem? (i := 1175) (by decide +kernel), Or.inl (by decide +kernel)⟩
theorem qf_X10_44 : x_in (x_fl false RX10 44 RX10 TX10 11) := ⟨List.mem_of_getElem? (i := 1114) (by decide +kernel), Or.inl (by decide +kernel)⟩
theorem qm_X10_245 : x_in (.methodLink RX10 245 yX10_in) := ⟨List.mem_of_getElem? (i := 1340) (by decide +kernel), Or.inl (by decide +kernel)⟩
theorem qd_X10_in : x_in (.code yX10_in cX10_in 4 (some .boolean)) := ⟨List.mem_of_getElem? (i := 1343) (by decide +kernel), Or.inl (by decide +kernel)⟩
theorem qc_X10 : x_in (.initialized RX10) := ⟨List.mem_of_getElem? (i := 91) (by decide +kernel), Or.inl (by decide +kernel)⟩
theorem qi_X10_in : x_in (.instanceMethod yX10_in) := ⟨List.mem_of_getElem? (i := 1342) (by decide +kernel), Or.inl (by decide +kernel)⟩
theorem qs_X10_in : x_in (.selects RX10 yX10_in yX10_in) := ⟨List.mem_of_getElem? (i := 23) (by decide +kernel), Or.inl (by decide +kernel)⟩
theorem qm_X10_249 : x_in (.methodLink RX10 249 yX10_volumeOf) := ⟨List.mem_of_getElem? (i := 1348) (by decide +kernel), Or.inl (by decide +kernel)⟩
theorem qd_X10_volumeOf : x_in (.code yX10_volumeOf cX10_volumeOf 4 (some .int)) := ⟨List.mem_of_getElem? (i := 1351) (by decide +kernel), Or.inl (by decide +kernel)⟩
theorem qi_X10_volumeOf : x_in (.instanceMethod yX10_volumeOf) := ⟨List.mem_of_getElem? (i := 1350) (by decide +kernel), Or.inl (by decide +kernel)⟩
theorem qs_X10_volumeOf : x_in (.selects RX10 yX10_volumeOf yX10_volumeOf) := ⟨List.mem_of_getElem? (i := 24) (by decide +kernel), Or.inl (by decide +kernel)⟩
theorem qm_X10_260 : x_in (.methodLink RX10 260 yX10_next) := ⟨List.mem_of_getElem? (i := 1396) (by decide +kernel), Or.inl (by decide +kernel)⟩
theorem qd_X10_next : x_in (.code yX10_next cX10_next 1 (some .int)) := ⟨List.mem_of_getElem? (i := 1399) (by decide +kernel), Or.inl (by decide +kernel)⟩
theorem qi_X10_next : x_in (.instanceMethod yX10_next) := ⟨List.mem_of_getElem? (i := 1398) (by decide +kernel), Or.inl (by decide +kernel)⟩
theorem qs_X10_next : x_in (.selects RX10 yX10_next yX10_next) := ⟨List.mem_of_getElem? (i := 30) (by decide +kernel), Or.inl (by decide +kernel)⟩
theorem qf_X10_86 : x_in (x_fl false RX10 86 RX10 TX10 25) := ⟨List.mem_of_getElem? (i := 1128) (by decide +kernel), Or.inl (by decide +kernel)⟩
theorem qf_X10_80 : x_in (x_fl false RX10 80 RX10 TX10 23) := ⟨List.mem_of_getElem? (i := 1126) (by decide +kernel), Or.inl (by decide +kernel)⟩
theorem qm_X10_271 : x_in (.methodLink RX10 271 yX10_emits) := ⟨List.mem_of_getElem? (i := 1432) (by decide +kernel), Or.inl (by decide +kernel)⟩
theorem qd_X10_emits : x_in (.code yX10_emits cX10_emits 2 none) := ⟨List.mem_of_getElem? (i := 1435) (by decide +kernel), Or.inl (by decide +kernel)⟩
theorem qi_X10_emits : x_in (.instanceMethod yX10_emits) := ⟨List.mem_of_getElem? (i := 1434) (by decide +kernel), Or.inl (by decide +kernel)⟩
theorem qs_X10_emits : x_in (.selects RX10 yX10_emits yX10_emits) := ⟨List.mem_of_getElem? (i := 39) (by decide +kernel), Or.inl (by decide +kernel)⟩
theorem qf_X10_89 : x_in (x_fl false RX10 89 RX10 TX10 26) := ⟨List.mem_of_getElem? (i := 1129) (by decide +kernel), Or.inl (by decide +kernel)⟩
theorem qm_X10_309 : x_in (.methodLink RX10 309 yX10_begin) := ⟨List.mem_of_getElem? (i := 1460) (by decide +kernel), Or.inl (by decide +kernel)⟩
theorem qd_X10_begin : x_in (.code yX10_begin cX10_begin 1 (some .int)) := ⟨List.mem_of_getElem? (i := 1463) (by decide +kernel), Or.inl (by decide +kernel)⟩
theorem qi_X10_begin : x_in (.instanceMethod yX10_begin) := ⟨List.mem_of_getElem? (i := 1462) (by decide +kernel), Or.inl (by decide +kernel)⟩
theorem qs_X10_begin : x_in (.selects RX10 yX10_begin yX10_begin) := ⟨List.mem_of_getElem? (i := 45) (by decide +kernel), Or.inl (by decide +kernel)⟩
theorem qm_X10_312 : x_in (.methodLink RX10 312 yX10_behind) := ⟨List.mem_of_getElem? (i := 1464) (by decide +kernel), Or.inl (by decide +kernel)⟩
theorem qd_X10_behind : x_in (.code yX10_behind cX10_behind 1 (some .int)) := ⟨List.mem_of_getElem? (i := 1467) (by decide +kernel), Or.inl (by decide +kernel)⟩
theorem qi_X10_behind : x_in (.instanceMethod yX10_behind) := ⟨List.mem_of_getElem? (i := 1466) (by decide +kernel), Or.inl (by decide +kernel)⟩
theorem qs_X10_behind : x_in (.selects RX10 yX10_behind yX10_behind) := ⟨List.mem_of_getElem? (i := 46) (by decide +kernel), Or.inl (by decide +kernel)⟩
theorem qf_X10_65 : x_in (x_fl false RX10 65 RX10 TX10 18) := ⟨List.mem_of_getElem? (i := 1121) (by decide +kernel), Or.inl (by decide +kernel)⟩
theorem qf_X10_68 : x_in (x_fl false RX10 68 RX10 TX10 19) := ⟨List.mem_of_getElem? (i := 1122) (by decide +kernel), Or.inl (by decide +kernel)⟩
theorem qf_X10_71 : x_in (x_fl false RX10 71 RX10 TX10 20) := ⟨List.mem_of_getElem? (i := 1123) (by decide +kernel), Or.inl (by decide +kernel)⟩
theorem qf_X10_74 : x_in (x_fl false RX10 74 RX10 TX10 21) := ⟨List.mem_of_getElem? (i := 1124) (by decide +kernel), Or.inl (by decide +kernel)⟩
theorem qf_X10_95 : x_in (x_fl false RX10 95 RX10 TX10 28) := ⟨List.mem_of_getElem? (i := 1131) (by decide +kernel), Or.inl (by decide +kernel)⟩
theorem qm_X10_319 : x_in (.methodLink RX10 319 yX10_factOf) := ⟨List.mem_of_getElem? (i := 1488) (by decide +kernel), Or.inl (by decide +kernel)⟩
theorem qd_X10_factOf : x_in (.code yX10_factOf cX10_factOf 3 (some .int)) := ⟨List.mem_of_getElem? (i := 1491) (by decide +kernel), Or.inl (by decide +kernel)⟩
theorem qi_X10_factOf : x_in (.instanceMethod yX10_factOf) := ⟨List.mem_of_getElem? (i := 1490) (by decide +kernel), Or.inl (by decide +kernel)⟩
theorem qs_X10_factOf : x_in (.selects RX10 yX10_factOf yX10_factOf) := ⟨List.mem_of_getElem? (i := 52) (by decide +kernel), Or.inl (by decide +kernel)⟩
theorem qm_X10_325 : x_in (.methodLink RX10 325 yX10_levelOf) := ⟨List.mem_of_getElem? (i := 1472) (by decide +kernel), Or.inl (by decide +kernel)⟩
theorem qd_X10_levelOf : x_in (.code yX10_levelOf cX10_levelOf 4 (some .int)) := ⟨List.mem_of_getElem? (i := 1475) (by decide +kernel), Or.inl (by decide +kernel)⟩
theorem qi_X10_levelOf : x_in (.instanceMethod yX10_levelOf) := ⟨List.mem_of_getElem? (i := 1474) (by decide +kernel), Or.inl (by decide +kernel)⟩
theorem qs_X10_levelOf : x_in (.selects RX10 yX10_levelOf yX10_levelOf) := ⟨List.mem_of_getElem? (i := 48) (by decide +kernel), Or.inl (by decide +kernel)⟩
theorem qm_X10_322 : x_in (.methodLink RX10 322 yX10_liftsOf) := ⟨List.mem_of_getElem? (i := 1448) (by decide +kernel), Or.inl (by decide +kernel)⟩
theorem qd_X10_liftsOf : x_in (.code yX10_liftsOf cX10_liftsOf 2 (some .int)) := ⟨List.mem_of_getElem? (i := 1451) (by decide +kernel), Or.inl (by decide +kernel)⟩
theorem qi_X10_liftsOf : x_in (.instanceMethod yX10_liftsOf) := ⟨List.mem_of_getElem? (i := 1450) (by decide +kernel), Or.inl (by decide +kernel)⟩
theorem qs_X10_liftsOf : x_in (.selects RX10 yX10_liftsOf yX10_liftsOf) := ⟨List.mem_of_getElem? (i := 42) (by decide +kernel), Or.inl (by decide +kernel)⟩
theorem qm_X10_386 : x_in (.methodLink RX10 386 yX10_divisor) := ⟨List.mem_of_getElem? (i := 1600) (by decide +kernel), Or.inl (by decide +kernel)⟩
theorem qd_X10_divisor : x_in (.code yX10_divisor cX10_divisor 6 (some .int)) := ⟨List.mem_of_getElem? (i := 1603) (by decide +kernel), Or.inl (by decide +kernel)⟩
theorem qi_X10_divisor : x_in (.instanceMethod yX10_divisor) := ⟨List.mem_of_getElem? (i := 1602) (by decide +kernel), Or.inl (by decide +kernel)⟩
theorem qs_X10_divisor : x_in (.selects RX10 yX10_divisor yX10_divisor) := ⟨List.mem_of_getElem? (i := 67) (by decide +kernel), Or.inl (by decide +kernel)⟩
theorem qm_X10_401 : x_in (.methodLink RX10 401 yX10_body) := ⟨List.mem_of_getElem? (i := 1672) (by decide +kernel), Or.inl (by decide +kernel)⟩
theorem qd_X10_body : x_in (.code yX10_body cX10_body 2 none) := ⟨List.mem_of_getElem? (i := 1675) (by decide +kernel), Or.inl (by decide +kernel)⟩
theorem qi_X10_body : x_in (.instanceMethod yX10_body) := ⟨List.mem_of_getElem? (i := 1674) (by decide +kernel), Or.inl (by decide +kernel)⟩
theorem qs_X10_body : x_in (.selects RX10 yX10_body yX10_body) := ⟨List.mem_of_getElem? (i := 71) (by decide +kernel), Or.inl (by decide +kernel)⟩
theorem qm_X10_253 : x_in (.methodLink RX10 253 yX10_isDaily) := ⟨List.mem_of_getElem? (i := 1356) (by decide +kernel), Or.inl (by decide +kernel)⟩
theorem qd_X10_isDaily : x_in (.code yX10_isDaily cX10_isDaily 2 (some .boolean)) := ⟨List.mem_of_getElem? (i := 1359) (by decide +kernel), Or.inl (by decide +kernel)⟩
theorem qi_X10_isDaily : x_in (.instanceMethod yX10_isDaily) := ⟨List.mem_of_getElem? (i := 1358) (by decide +kernel), Or.inl (by decide +kernel)⟩
theorem qs_X10_isDaily : x_in (.selects RX10 yX10_isDaily yX10_isDaily) := ⟨List.mem_of_getElem? (i := 25) (by decide +kernel), Or.inl (by decide +kernel)⟩
theorem qm_X10_257 : x_in (.methodLink RX10 257 yX10_isAccount) := ⟨List.mem_of_getElem? (i := 1364) (by decide +kernel), Or.inl (by decide +kernel)⟩
theorem qd_X10_isAccount : x_in (.code yX10_isAccount cX10_isAccount 2 (some .boolean)) := ⟨List.mem_of_getElem? (i := 1367) (by decide +kernel), Or.inl (by decide +kernel)⟩
theorem qi_X10_isAccount : x_in (.instanceMethod yX10_isAccount) := ⟨List.mem_of_getElem? (i := 1366) (by decide +kernel), Or.inl (by decide +kernel)⟩
theorem qs_X10_isAccount : x_in (.selects RX10 yX10_isAccount yX10_isAccount) := ⟨List.mem_of_getElem? (i := 26) (by decide +kernel), Or.inl (by decide +kernel)⟩
theorem qm_X10_264 : x_in (.methodLink RX10 264 yX10_takes) := ⟨List.mem_of_getElem? (i := 1404) (by decide +kernel), Or.inl (by decide +kernel)⟩
theorem qd_X10_takes : x_in (.code yX10_takes cX10_takes 2 (some .boolean)) := ⟨List.mem_of_getElem? (i := 1407) (by decide +kernel), Or.inl (by decide +kernel)⟩
theorem qi_X10_takes : x_in (.instanceMethod yX10_takes) := ⟨List.mem_of_getElem? (i := 1406) (by decide +kernel), Or.inl (by decide +kernel)⟩
theorem qs_X10_takes : x_in (.selects RX10 yX10_takes yX10_takes) := ⟨List.mem_of_getElem? (i := 32) (by decide +kernel), Or.inl (by decide +kernel)⟩
theorem qf_X10_92 : x_in (x_fl false RX10 92 RX10 TX10 27) := ⟨List.mem_of_getElem? (i := 1130) (by decide +kernel), Or.inl (by decide +kernel)⟩
theorem qm_X10_267 : x_in (.methodLink RX10 267 yX10_isDigit) := ⟨List.mem_of_getElem? (i := 1416) (by decide +kernel), Or.inl (by decide +kernel)⟩
theorem qd_X10_isDigit : x_in (.code yX10_isDigit cX10_isDigit 1 (some .boolean)) := ⟨List.mem_of_getElem? (i := 1419) (by decide +kernel), Or.inl (by decide +kernel)⟩
theorem qi_X10_isDigit : x_in (.instanceMethod yX10_isDigit) := ⟨List.mem_of_getElem? (i := 1418) (by decide +kernel), Or.inl (by decide +kernel)⟩
theorem qs_X10_isDigit : x_in (.selects RX10 yX10_isDigit yX10_isDigit) := ⟨List.mem_of_getElem? (i := 35) (by decide +kernel), Or.inl (by decide +kernel)⟩
theorem qf_X10_56 : x_in (x_fl false RX10 56 RX10 TX10 15) := ⟨List.mem_of_getElem? (i := 1118) (by decide +kernel), Or.inl (by decide +kernel)⟩
theorem qm_X10_315 : x_in (.methodLink RX10 315 yX10_lastOf) := ⟨List.mem_of_getElem? (i := 1456) (by decide +kernel), Or.inl (by decide +kernel)⟩
theorem qd_X10_lastOf : x_in (.code yX10_lastOf cX10_lastOf 5 (some .int)) := ⟨List.mem_of_getElem? (i := 1459) (by decide +kernel), Or.inl (by decide +kernel)⟩
theorem qi_X10_lastOf : x_in (.instanceMethod yX10_lastOf) := ⟨List.mem_of_getElem? (i := 1458) (by decide +kernel), Or.inl (by decide +kernel)⟩
theorem qs_X10_lastOf : x_in (.selects RX10 yX10_lastOf yX10_lastOf) := ⟨List.mem_of_getElem? (i := 44) (by decide +kernel), Or.inl (by decide +kernel)⟩
theorem qm_X10_328 : x_in (.methodLink RX10 328 yX10_level) := ⟨List.mem_of_getElem? (i := 1468) (by decide +kernel), Or.inl (by decide +kernel)⟩
theorem qd_X10_level : x_in (.code yX10_level cX10_level 3 (some .int)) := ⟨List.mem_of_getElem? (i := 1471) (by decide +kernel), Or.inl (by decide +kernel)⟩
theorem qi_X10_level : x_in (.instanceMethod yX10_level) := ⟨List.mem_of_getElem? (i := 1470) (by decide +kernel), Or.inl (by decide +kernel)⟩
theorem qs_X10_level : x_in (.selects RX10 yX10_level yX10_level) := ⟨List.mem_of_getElem? (i := 47) (by decide +kernel), Or.inl (by decide +kernel)⟩
theorem qm_X10_331 : x_in (.methodLink RX10 331 yX10_holds) := ⟨List.mem_of_getElem? (i := 1484) (by decide +kernel), Or.inl (by decide +kernel)⟩
theorem qd_X10_holds : x_in (.code yX10_holds cX10_holds 8 (some .boolean)) := ⟨List.mem_of_getElem? (i := 1487) (by decide +kernel), Or.inl (by decide +kernel)⟩
theorem qi_X10_holds : x_in (.instanceMethod yX10_holds) := ⟨List.mem_of_getElem? (i := 1486) (by decide +kernel), Or.inl (by decide +kernel)⟩
theorem qs_X10_holds : x_in (.selects RX10 yX10_holds yX10_holds) := ⟨List.mem_of_getElem? (i := 51) (by decide +kernel), Or.inl (by decide +kernel)⟩
theorem qm_X10_398 : x_in (.methodLink RX10 398 yX10_isTape) := ⟨List.mem_of_getElem? (i := 1652) (by decide +kernel), Or.inl (by decide +kernel)⟩
theorem qd_X10_isTape : x_in (.code yX10_isTape cX10_isTape 2 (some .boolean)) := ⟨List.mem_of_getElem? (i := 1655) (by decide +kernel), Or.inl (by decide +kernel)⟩
theorem qi_X10_isTape : x_in (.instanceMethod yX10_isTape) := ⟨List.mem_of_getElem? (i := 1654) (by decide +kernel), Or.inl (by decide +kernel)⟩
theorem qs_X10_isTape : x_in (.selects RX10 yX10_isTape yX10_isTape) := ⟨List.mem_of_getElem? (i := 69) (by decide +kernel), Or.inl (by decide +kernel)⟩
theorem qf_X10_232 : x_in (x_fl false RX10 232 RX10 TX10 73) := ⟨List.mem_of_getElem? (i := 1176) (by decide +kernel), Or.inl (by decide +kernel)⟩
theorem qf_X10_235 : x_in (x_fl false RX10 235 RX10 TX10 74) := ⟨List.mem_of_getElem? (i := 1177) (by decide +kernel), Or.inl (by decide +kernel)⟩
theorem qf_X10_238 : x_in (x_fl false RX10 238 RX10 TX10 75) := ⟨List.mem_of_getElem? (i := 1178) (by decide +kernel), Or.inl (by decide +kernel)⟩
theorem qm_X10_404 : x_in (.methodLink RX10 404 yX10_accountKeeps) := ⟨List.mem_of_getElem? (i := 1676) (by decide +kernel), Or.inl (by decide +kernel)⟩
theorem qd_X10_accountKeeps : x_in (.code yX10_accountKeeps cX10_accountKeeps 3 (some .int)) := ⟨List.mem_of_getElem? (i := 1679) (by decide +kernel), Or.inl (by decide +kernel)⟩
theorem qi_X10_accountKeeps : x_in (.instanceMethod yX10_accountKeeps) := ⟨List.mem_of_getElem? (i := 1678) (by decide +kernel), Or.inl (by decide +kernel)⟩
theorem qs_X10_accountKeeps : x_in (.selects RX10 yX10_accountKeeps yX10_accountKeeps) := ⟨List.mem_of_getElem? (i := 72) (by decide +kernel), Or.inl (by decide +kernel)⟩
theorem qm_X10_425 : x_in (.methodLink RX10 425 yX10_narrow) := ⟨List.mem_of_getElem? (i := 1720) (by decide +kernel), Or.inl (by decide +kernel)⟩
theorem qd_X10_narrow : x_in (.code yX10_narrow cX10_narrow 4 (some .long)) := ⟨List.mem_of_getElem? (i := 1723) (by decide +kernel), Or.inl (by decide +kernel)⟩
theorem qi_X10_narrow : x_in (.instanceMethod yX10_narrow) := ⟨List.mem_of_getElem? (i := 1722) (by decide +kernel), Or.inl (by decide +kernel)⟩
theorem qs_X10_narrow : x_in (.selects RX10 yX10_narrow yX10_narrow) := ⟨List.mem_of_getElem? (i := 78) (by decide +kernel), Or.inl (by decide +kernel)⟩
theorem qk_X10_389 : x_in (.constantLong RX10 389 (-9223372036854775808)) := ⟨List.mem_of_getElem? (i := 1595) (by decide +kernel), Or.inl (by decide +kernel)⟩
theorem qf_X10_242 : x_in (x_fl false RX10 242 RX10 TX10 76) := ⟨List.mem_of_getElem? (i := 1179) (by decide +kernel), Or.inl (by decide +kernel)⟩
theorem qm_X10_275 : x_in (.methodLink RX10 275 yX10_place) := ⟨List.mem_of_getElem? (i := 1428) (by decide +kernel), Or.inl (by decide +kernel)⟩
theorem qd_X10_place : x_in (.code yX10_place cX10_place 2 (some .int)) := ⟨List.mem_of_getElem? (i := 1431) (by decide +kernel), Or.inl (by decide +kernel)⟩
theorem qi_X10_place : x_in (.instanceMethod yX10_place) := ⟨List.mem_of_getElem? (i := 1430) (by decide +kernel), Or.inl (by decide +kernel)⟩
theorem qs_X10_place : x_in (.selects RX10 yX10_place yX10_place) := ⟨List.mem_of_getElem? (i := 38) (by decide +kernel), Or.inl (by decide +kernel)⟩
theorem qm_X10_278 : x_in (.methodLink RX10 278 yX10_takesNumber) := ⟨List.mem_of_getElem? (i := 1412) (by decide +kernel), Or.inl (by decide +kernel)⟩
theorem qd_X10_takesNumber : x_in (.code yX10_takesNumber cX10_takesNumber 2 (some .boolean)) := ⟨List.mem_of_getElem? (i := 1415) (by decide +kernel), Or.inl (by decide +kernel)⟩
theorem qi_X10_takesNumber : x_in (.instanceMethod yX10_takesNumber) := ⟨List.mem_of_getElem? (i := 1414) (by decide +kernel), Or.inl (by decide +kernel)⟩
theorem qs_X10_takesNumber : x_in (.selects RX10 yX10_takesNumber yX10_takesNumber) := ⟨List.mem_of_getElem? (i := 34) (by decide +kernel), Or.inl (by decide +kernel)⟩
theorem qm_X10_281 : x_in (.methodLink RX10 281 yX10_whole) := ⟨List.mem_of_getElem? (i := 1436) (by decide +kernel), Or.inl (by decide +kernel)⟩
theorem qd_X10_whole : x_in (.code yX10_whole cX10_whole 1 none) := ⟨List.mem_of_getElem? (i := 1439) (by decide +kernel), Or.inl (by decide +kernel)⟩
theorem qi_X10_whole : x_in (.instanceMethod yX10_whole) := ⟨List.mem_of_getElem? (i := 1438) (by decide +kernel), Or.inl (by decide +kernel)⟩
theorem qs_X10_whole : x_in (.selects RX10 yX10_whole yX10_whole) := ⟨List.mem_of_getElem? (i := 40) (by decide +kernel), Or.inl (by decide +kernel)⟩
theorem qm_X10_290 : x_in (.methodLink RX10 290 yX10_takesWord) := ⟨List.mem_of_getElem? (i := 1400) (by decide +kernel), Or.inl (by decide +kernel)⟩
theorem qd_X10_takesWord : x_in (.code yX10_takesWord cX10_takesWord 4 (some .boolean)) := ⟨List.mem_of_getElem? (i := 1403) (by decide +kernel), Or.inl (by decide +kernel)⟩
theorem qi_X10_takesWord : x_in (.instanceMethod yX10_takesWord) := ⟨List.mem_of_getElem? (i := 1402) (by decide +kernel), Or.inl (by decide +kernel)⟩
theorem qs_X10_takesWord : x_in (.selects RX10 yX10_takesWord yX10_takesWord) := ⟨List.mem_of_getElem? (i := 31) (by decide +kernel), Or.inl (by decide +kernel)⟩
theorem qm_X10_294 : x_in (.methodLink RX10 294 yX10_second) := ⟨List.mem_of_getElem? (i := 1408) (by decide +kernel), Or.inl (by decide +kernel)⟩
theorem qd_X10_second : x_in (.code yX10_second cX10_second 1 (some .int)) := ⟨List.mem_of_getElem? (i := 1411) (by decide +kernel), Or.inl (by decide +kernel)⟩
theorem qi_X10_second : x_in (.instanceMethod yX10_second) := ⟨List.mem_of_getElem? (i := 1410) (by decide +kernel), Or.inl (by decide +kernel)⟩
theorem qs_X10_second : x_in (.selects RX10 yX10_second yX10_second) := ⟨List.mem_of_getElem? (i := 33) (by decide +kernel), Or.inl (by decide +kernel)⟩
theorem qf_X10_108 : x_in (x_fl false RX10 108 RX10 TX10 32) := ⟨List.mem_of_getElem? (i := 1135) (by decide +kernel), Or.inl (by decide +kernel)⟩
theorem qm_X10_334 : x_in (.methodLink RX10 334 yX10_sumOf) := ⟨List.mem_of_getElem? (i := 1480) (by decide +kernel), Or.inl (by decide +kernel)⟩
theorem qd_X10_sumOf : x_in (.code yX10_sumOf cX10_sumOf 5 (some .int)) := ⟨List.mem_of_getElem? (i := 1483) (by decide +kernel), Or.inl (by decide +kernel)⟩
theorem qi_X10_sumOf : x_in (.instanceMethod yX10_sumOf) := ⟨List.mem_of_getElem? (i := 1482) (by decide +kernel), Or.inl (by decide +kernel)⟩
theorem qs_X10_sumOf : x_in (.selects RX10 yX10_sumOf yX10_sumOf) := ⟨List.mem_of_getElem? (i := 50) (by decide +kernel), Or.inl (by decide +kernel)⟩
theorem qf_X10_105 : x_in (x_fl false RX10 105 RX10 TX10 31) := ⟨List.mem_of_getElem? (i := 1134) (by decide +kernel), Or.inl (by decide +kernel)⟩
theorem qm_X10_346 : x_in (.methodLink RX10 346 yX10_floor) := ⟨List.mem_of_getElem? (i := 1500) (by decide +kernel), Or.inl (by decide +kernel)⟩
theorem qd_X10_floor : x_in (.code yX10_floor cX10_floor 2 (some .int)) := ⟨List.mem_of_getElem? (i := 1503) (by decide +kernel), Or.inl (by decide +kernel)⟩
theorem qi_X10_floor : x_in (.instanceMethod yX10_floor) := ⟨List.mem_of_getElem? (i := 1502) (by decide +kernel), Or.inl (by decide +kernel)⟩
theorem qs_X10_floor : x_in (.selects RX10 yX10_floor yX10_floor) := ⟨List.mem_of_getElem? (i := 54) (by decide +kernel), Or.inl (by decide +kernel)⟩
theorem qm_X10_407 : x_in (.methodLink RX10 407 yX10_keepsAct) := ⟨List.mem_of_getElem? (i := 1668) (by decide +kernel), Or.inl (by decide +kernel)⟩
theorem qd_X10_keepsAct : x_in (.code yX10_keepsAct cX10_keepsAct 3 (some .int)) := ⟨List.mem_of_getElem? (i := 1671) (by decide +kernel), Or.inl (by decide +kernel)⟩
theorem qi_X10_keepsAct : x_in (.instanceMethod yX10_keepsAct) := ⟨List.mem_of_getElem? (i := 1670) (by decide +kernel), Or.inl (by decide +kernel)⟩
theorem qs_X10_keepsAct : x_in (.selects RX10 yX10_keepsAct yX10_keepsAct) := ⟨List.mem_of_getElem? (i := 70) (by decide +kernel), Or.inl (by decide +kernel)⟩
theorem qm_X10_287 : x_in (.methodLink RX10 287 yX10_settle) := ⟨List.mem_of_getElem? (i := 1440) (by decide +kernel), Or.inl (by decide +kernel)⟩
theorem qd_X10_settle : x_in (.code yX10_settle cX10_settle 2 none) := ⟨List.mem_of_getElem? (i := 1443) (by decide +kernel), Or.inl (by decide +kernel)⟩
theorem qi_X10_settle : x_in (.instanceMethod yX10_settle) := ⟨List.mem_of_getElem? (i := 1442) (by decide +kernel), Or.inl (by decide +kernel)⟩
theorem qs_X10_settle : x_in (.selects RX10 yX10_settle yX10_settle) := ⟨List.mem_of_getElem? (i := 41) (by decide +kernel), Or.inl (by decide +kernel)⟩
theorem qm_X10_284 : x_in (.methodLink RX10 284 yX10_takesTest) := ⟨List.mem_of_getElem? (i := 1424) (by decide +kernel), Or.inl (by decide +kernel)⟩
theorem qd_X10_takesTest : x_in (.code yX10_takesTest cX10_takesTest 3 (some .boolean)) := ⟨List.mem_of_getElem? (i := 1427) (by decide +kernel), Or.inl (by decide +kernel)⟩
theorem qi_X10_takesTest : x_in (.instanceMethod yX10_takesTest) := ⟨List.mem_of_getElem? (i := 1426) (by decide +kernel), Or.inl (by decide +kernel)⟩
theorem qs_X10_takesTest : x_in (.selects RX10 yX10_takesTest yX10_takesTest) := ⟨List.mem_of_getElem? (i := 37) (by decide +kernel), Or.inl (by decide +kernel)⟩
theorem qm_X10_337 : x_in (.methodLink RX10 337 yX10_poursOf) := ⟨List.mem_of_getElem? (i := 1452) (by decide +kernel), Or.inl (by decide +kernel)⟩
theorem qd_X10_poursOf : x_in (.code yX10_poursOf cX10_poursOf 3 (some .int)) := ⟨List.mem_of_getElem? (i := 1455) (by decide +kernel), Or.inl (by decide +kernel)⟩
theorem qi_X10_poursOf : x_in (.instanceMethod yX10_poursOf) := ⟨List.mem_of_getElem? (i := 1454) (by decide +kernel), Or.inl (by decide +kernel)⟩
theorem qs_X10_poursOf : x_in (.selects RX10 yX10_poursOf yX10_poursOf) := ⟨List.mem_of_getElem? (i := 43) (by decide +kernel), Or.inl (by decide +kernel)⟩
theorem qm_X10_340 : x_in (.methodLink RX10 340 yX10_sunOf) := ⟨List.mem_of_getElem? (i := 1476) (by decide +kernel), Or.inl (by decide +kernel)⟩
theorem qd_X10_sunOf : x_in (.code yX10_sunOf cX10_sunOf 2 (some .int)) := ⟨List.mem_of_getElem? (i := 1479) (by decide +kernel), Or.inl (by decide +kernel)⟩
theorem qi_X10_sunOf : x_in (.instanceMethod yX10_sunOf) := ⟨List.mem_of_getElem? (i := 1478) (by decide +kernel), Or.inl (by decide +kernel)⟩
theorem qs_X10_sunOf : x_in (.selects RX10 yX10_sunOf yX10_sunOf) := ⟨List.mem_of_getElem? (i := 49) (by decide +kernel), Or.inl (by decide +kernel)⟩
theorem qm_X10_343 : x_in (.methodLink RX10 343 yX10_mark) := ⟨List.mem_of_getElem? (i := 1496) (by decide +kernel), Or.inl (by decide +kernel)⟩
theorem qd_X10_mark : x_in (.code yX10_mark cX10_mark 2 (some .int)) := ⟨List.mem_of_getElem? (i := 1499) (by decide +kernel), Or.inl (by decide +kernel)⟩
theorem qi_X10_mark : x_in (.instanceMethod yX10_mark) := ⟨List.mem_of_getElem? (i := 1498) (by decide +kernel), Or.inl (by decide +kernel)⟩
theorem qs_X10_mark : x_in (.selects RX10 yX10_mark yX10_mark) := ⟨List.mem_of_getElem? (i := 53) (by decide +kernel), Or.inl (by decide +kernel)⟩
theorem qm_X10_349 : x_in (.methodLink RX10 349 yX10_spring) := ⟨List.mem_of_getElem? (i := 1504) (by decide +kernel), Or.inl (by decide +kernel)⟩
theorem qd_X10_spring : x_in (.code yX10_spring cX10_spring 1 (some .int)) := ⟨List.mem_of_getElem? (i := 1507) (by decide +kernel), Or.inl (by decide +kernel)⟩
theorem qi_X10_spring : x_in (.instanceMethod yX10_spring) := ⟨List.mem_of_getElem? (i := 1506) (by decide +kernel), Or.inl (by decide +kernel)⟩
theorem qs_X10_spring : x_in (.selects RX10 yX10_spring yX10_spring) := ⟨List.mem_of_getElem? (i := 55) (by decide +kernel), Or.inl (by decide +kernel)⟩
theorem qf_X10_111 : x_in (x_fl false RX10 111 RX10 TX10 33) := ⟨List.mem_of_getElem? (i := 1136) (by decide +kernel), Or.inl (by decide +kernel)⟩
theorem qf_X10_114 : x_in (x_fl false RX10 114 RX10 TX10 34) := ⟨List.mem_of_getElem? (i := 1137) (by decide +kernel), Or.inl (by decide +kernel)⟩
theorem qm_X10_352 : x_in (.methodLink RX10 352 yX10_pours) := ⟨List.mem_of_getElem? (i := 1516) (by decide +kernel), Or.inl (by decide +kernel)⟩
theorem qd_X10_pours : x_in (.code yX10_pours cX10_pours 5 none) := ⟨List.mem_of_getElem? (i := 1519) (by decide +kernel), Or.inl (by decide +kernel)⟩
theorem qi_X10_pours : x_in (.instanceMethod yX10_pours) := ⟨List.mem_of_getElem? (i := 1518) (by decide +kernel), Or.inl (by decide +kernel)⟩
theorem qs_X10_pours : x_in (.selects RX10 yX10_pours yX10_pours) := ⟨List.mem_of_getElem? (i := 57) (by decide +kernel), Or.inl (by decide +kernel)⟩
theorem qm_X10_357 : x_in (.methodLink RX10 357 yX10_held) := ⟨List.mem_of_getElem? (i := 1521) (by decide +kernel), Or.inl (by decide +kernel)⟩
theorem qd_X10_held : x_in (.code yX10_held cX10_held 2 (some .int)) := ⟨List.mem_of_getElem? (i := 1524) (by decide +kernel), Or.inl (by decide +kernel)⟩
theorem qi_X10_held : x_in (.instanceMethod yX10_held) := ⟨List.mem_of_getElem? (i := 1523) (by decide +kernel), Or.inl (by decide +kernel)⟩
theorem qs_X10_held : x_in (.selects RX10 yX10_held yX10_held) := ⟨List.mem_of_getElem? (i := 58) (by decide +kernel), Or.inl (by decide +kernel)⟩
theorem qk_X10_356 : x_in (.constant RX10 356 (99999)) := ⟨List.mem_of_getElem? (i := 1520) (by decide +kernel), Or.inl (by decide +kernel)⟩
theorem qm_X10_410 : x_in (.methodLink RX10 410 yX10_accountPours) := ⟨List.mem_of_getElem? (i := 1688) (by decide +kernel), Or.inl (by decide +kernel)⟩
theorem qd_X10_accountPours : x_in (.code yX10_accountPours cX10_accountPours 3 (some .int)) := ⟨List.mem_of_getElem? (i := 1691) (by decide +kernel), Or.inl (by decide +kernel)⟩
theorem qi_X10_accountPours : x_in (.instanceMethod yX10_accountPours) := ⟨List.mem_of_getElem? (i := 1690) (by decide +kernel), Or.inl (by decide +kernel)⟩
theorem qs_X10_accountPours : x_in (.selects RX10 yX10_accountPours yX10_accountPours) := ⟨List.mem_of_getElem? (i := 75) (by decide +kernel), Or.inl (by decide +kernel)⟩
theorem qm_X10_297 : x_in (.methodLink RX10 297 yX10_takesHead) := ⟨List.mem_of_getElem? (i := 1392) (by decide +kernel), Or.inl (by decide +kernel)⟩
theorem qd_X10_takesHead : x_in (.code yX10_takesHead cX10_takesHead 2 (some .boolean)) := ⟨List.mem_of_getElem? (i := 1395) (by decide +kernel), Or.inl (by decide +kernel)⟩
theorem qi_X10_takesHead : x_in (.instanceMethod yX10_takesHead) := ⟨List.mem_of_getElem? (i := 1394) (by decide +kernel), Or.inl (by decide +kernel)⟩
theorem qs_X10_takesHead : x_in (.selects RX10 yX10_takesHead yX10_takesHead) := ⟨List.mem_of_getElem? (i := 29) (by decide +kernel), Or.inl (by decide +kernel)⟩
theorem qm_X10_300 : x_in (.methodLink RX10 300 yX10_takesE) := ⟨List.mem_of_getElem? (i := 1420) (by decide +kernel), Or.inl (by decide +kernel)⟩
theorem qd_X10_takesE : x_in (.code yX10_takesE cX10_takesE 4 (some .boolean)) := ⟨List.mem_of_getElem? (i := 1423) (by decide +kernel), Or.inl (by decide +kernel)⟩
theorem qi_X10_takesE : x_in (.instanceMethod yX10_takesE) := ⟨List.mem_of_getElem? (i := 1422) (by decide +kernel), Or.inl (by decide +kernel)⟩
theorem qs_X10_takesE : x_in (.selects RX10 yX10_takesE yX10_takesE) := ⟨List.mem_of_getElem? (i := 36) (by decide +kernel), Or.inl (by decide +kernel)⟩
theorem qm_X10_360 : x_in (.methodLink RX10 360 yX10_goDay) := ⟨List.mem_of_getElem? (i := 1512) (by decide +kernel), Or.inl (by decide +kernel)⟩
theorem qd_X10_goDay : x_in (.code yX10_goDay cX10_goDay 4 none) := ⟨List.mem_of_getElem? (i := 1515) (by decide +kernel), Or.inl (by decide +kernel)⟩
theorem qi_X10_goDay : x_in (.instanceMethod yX10_goDay) := ⟨List.mem_of_getElem? (i := 1514) (by decide +kernel), Or.inl (by decide +kernel)⟩
theorem qs_X10_goDay : x_in (.selects RX10 yX10_goDay yX10_goDay) := ⟨List.mem_of_getElem? (i := 56) (by decide +kernel), Or.inl (by decide +kernel)⟩
theorem qm_X10_366 : x_in (.methodLink RX10 366 yX10_save) := ⟨List.mem_of_getElem? (i := 1533) (by decide +kernel), Or.inl (by decide +kernel)⟩
theorem qd_X10_save : x_in (.code yX10_save cX10_save 2 none) := ⟨List.mem_of_getElem? (i := 1536) (by decide +kernel), Or.inl (by decide +kernel)⟩
theorem qi_X10_save : x_in (.instanceMethod yX10_save) := ⟨List.mem_of_getElem? (i := 1535) (by decide +kernel), Or.inl (by decide +kernel)⟩
theorem qs_X10_save : x_in (.selects RX10 yX10_save yX10_save) := ⟨List.mem_of_getElem? (i := 60) (by decide +kernel), Or.inl (by decide +kernel)⟩
theorem qm_X10_372 : x_in (.methodLink RX10 372 yX10_putBack) := ⟨List.mem_of_getElem? (i := 1541) (by decide +kernel), Or.inl (by decide +kernel)⟩
theorem qd_X10_putBack : x_in (.code yX10_putBack cX10_putBack 2 none) := ⟨List.mem_of_getElem? (i := 1544) (by decide +kernel), Or.inl (by decide +kernel)⟩
theorem qi_X10_putBack : x_in (.instanceMethod yX10_putBack) := ⟨List.mem_of_getElem? (i := 1543) (by decide +kernel), Or.inl (by decide +kernel)⟩
theorem qs_X10_putBack : x_in (.selects RX10 yX10_putBack yX10_putBack) := ⟨List.mem_of_getElem? (i := 62) (by decide +kernel), Or.inl (by decide +kernel)⟩
theorem qm_X10_363 : x_in (.methodLink RX10 363 yX10_isDays) := ⟨List.mem_of_getElem? (i := 1529) (by decide +kernel), Or.inl (by decide +kernel)⟩
theorem qd_X10_isDays : x_in (.code yX10_isDays cX10_isDays 2 (some .boolean)) := ⟨List.mem_of_getElem? (i := 1532) (by decide +kernel), Or.inl (by decide +kernel)⟩
theorem qi_X10_isDays : x_in (.instanceMethod yX10_isDays) := ⟨List.mem_of_getElem? (i := 1531) (by decide +kernel), Or.inl (by decide +kernel)⟩
theorem qs_X10_isDays : x_in (.selects RX10 yX10_isDays yX10_isDays) := ⟨List.mem_of_getElem? (i := 59) (by decide +kernel), Or.inl (by decide +kernel)⟩
theorem qm_X10_375 : x_in (.methodLink RX10 375 yX10_below) := ⟨List.mem_of_getElem? (i := 1557) (by decide +kernel), Or.inl (by decide +kernel)⟩
theorem qd_X10_below : x_in (.code yX10_below cX10_below 3 (some .int)) := ⟨List.mem_of_getElem? (i := 1560) (by decide +kernel), Or.inl (by decide +kernel)⟩
theorem qi_X10_below : x_in (.instanceMethod yX10_below) := ⟨List.mem_of_getElem? (i := 1559) (by decide +kernel), Or.inl (by decide +kernel)⟩
theorem qs_X10_below : x_in (.selects RX10 yX10_below yX10_below) := ⟨List.mem_of_getElem? (i := 63) (by decide +kernel), Or.inl (by decide +kernel)⟩
theorem qm_X10_391 : x_in (.methodLink RX10 391 yX10_lowestTerms) := ⟨List.mem_of_getElem? (i := 1596) (by decide +kernel), Or.inl (by decide +kernel)⟩
theorem qd_X10_lowestTerms : x_in (.code yX10_lowestTerms cX10_lowestTerms 5 (some .long)) := ⟨List.mem_of_getElem? (i := 1599) (by decide +kernel), Or.inl (by decide +kernel)⟩
theorem qi_X10_lowestTerms : x_in (.instanceMethod yX10_lowestTerms) := ⟨List.mem_of_getElem? (i := 1598) (by decide +kernel), Or.inl (by decide +kernel)⟩
theorem qs_X10_lowestTerms : x_in (.selects RX10 yX10_lowestTerms yX10_lowestTerms) := ⟨List.mem_of_getElem? (i := 66) (by decide +kernel), Or.inl (by decide +kernel)⟩
theorem qm_X10_413 : x_in (.methodLink RX10 413 yX10_savingPours) := ⟨List.mem_of_getElem? (i := 1684) (by decide +kernel), Or.inl (by decide +kernel)⟩
theorem qd_X10_savingPours : x_in (.code yX10_savingPours cX10_savingPours 3 (some .int)) := ⟨List.mem_of_getElem? (i := 1687) (by decide +kernel), Or.inl (by decide +kernel)⟩
theorem qi_X10_savingPours : x_in (.instanceMethod yX10_savingPours) := ⟨List.mem_of_getElem? (i := 1686) (by decide +kernel), Or.inl (by decide +kernel)⟩
theorem qs_X10_savingPours : x_in (.selects RX10 yX10_savingPours yX10_savingPours) := ⟨List.mem_of_getElem? (i := 74) (by decide +kernel), Or.inl (by decide +kernel)⟩
theorem qm_X10_303 : x_in (.methodLink RX10 303 yX10_takesClause) := ⟨List.mem_of_getElem? (i := 1388) (by decide +kernel), Or.inl (by decide +kernel)⟩
theorem qd_X10_takesClause : x_in (.code yX10_takesClause cX10_takesClause 2 (some .boolean)) := ⟨List.mem_of_getElem? (i := 1391) (by decide +kernel), Or.inl (by decide +kernel)⟩
theorem qi_X10_takesClause : x_in (.instanceMethod yX10_takesClause) := ⟨List.mem_of_getElem? (i := 1390) (by decide +kernel), Or.inl (by decide +kernel)⟩
theorem qs_X10_takesClause : x_in (.selects RX10 yX10_takesClause yX10_takesClause) := ⟨List.mem_of_getElem? (i := 28) (by decide +kernel), Or.inl (by decide +kernel)⟩
theorem qm_X10_369 : x_in (.methodLink RX10 369 yX10_goDays) := ⟨List.mem_of_getElem? (i := 1537) (by decide +kernel), Or.inl (by decide +kernel)⟩
theorem qd_X10_goDays : x_in (.code yX10_goDays cX10_goDays 3 none) := ⟨List.mem_of_getElem? (i := 1540) (by decide +kernel), Or.inl (by decide +kernel)⟩
theorem qi_X10_goDays : x_in (.instanceMethod yX10_goDays) := ⟨List.mem_of_getElem? (i := 1539) (by decide +kernel), Or.inl (by decide +kernel)⟩
theorem qs_X10_goDays : x_in (.selects RX10 yX10_goDays yX10_goDays) := ⟨List.mem_of_getElem? (i := 61) (by decide +kernel), Or.inl (by decide +kernel)⟩
theorem qm_X10_378 : x_in (.methodLink RX10 378 yX10_isAbove) := ⟨List.mem_of_getElem? (i := 1565) (by decide +kernel), Or.inl (by decide +kernel)⟩
theorem qd_X10_isAbove : x_in (.code yX10_isAbove cX10_isAbove 4 (some .boolean)) := ⟨List.mem_of_getElem? (i := 1568) (by decide +kernel), Or.inl (by decide +kernel)⟩
theorem qi_X10_isAbove : x_in (.instanceMethod yX10_isAbove) := ⟨List.mem_of_getElem? (i := 1567) (by decide +kernel), Or.inl (by decide +kernel)⟩
theorem qs_X10_isAbove : x_in (.selects RX10 yX10_isAbove yX10_isAbove) := ⟨List.mem_of_getElem? (i := 64) (by decide +kernel), Or.inl (by decide +kernel)⟩
theorem qm_X10_416 : x_in (.methodLink RX10 416 yX10_poursAct) := ⟨List.mem_of_getElem? (i := 1680) (by decide +kernel), Or.inl (by decide +kernel)⟩
theorem qd_X10_poursAct : x_in (.code yX10_poursAct cX10_poursAct 4 (some .int)) := ⟨List.mem_of_getElem? (i := 1683) (by decide +kernel), Or.inl (by decide +kernel)⟩
theorem qi_X10_poursAct : x_in (.instanceMethod yX10_poursAct) := ⟨List.mem_of_getElem? (i := 1682) (by decide +kernel), Or.inl (by decide +kernel)⟩
theorem qs_X10_poursAct : x_in (.selects RX10 yX10_poursAct yX10_poursAct) := ⟨List.mem_of_getElem? (i := 73) (by decide +kernel), Or.inl (by decide +kernel)⟩
theorem qm_X10_306 : x_in (.methodLink RX10 306 yX10_goesText) := ⟨List.mem_of_getElem? (i := 1384) (by decide +kernel), Or.inl (by decide +kernel)⟩
theorem qd_X10_goesText : x_in (.code yX10_goesText cX10_goesText 3 (some .boolean)) := ⟨List.mem_of_getElem? (i := 1387) (by decide +kernel), Or.inl (by decide +kernel)⟩
theorem qi_X10_goesText : x_in (.instanceMethod yX10_goesText) := ⟨List.mem_of_getElem? (i := 1386) (by decide +kernel), Or.inl (by decide +kernel)⟩
theorem qs_X10_goesText : x_in (.selects RX10 yX10_goesText yX10_goesText) := ⟨List.mem_of_getElem? (i := 27) (by decide +kernel), Or.inl (by decide +kernel)⟩
theorem qm_X10_383 : x_in (.methodLink RX10 383 yX10_waterBehind) := ⟨List.mem_of_getElem? (i := 1583) (by decide +kernel), Or.inl (by decide +kernel)⟩
theorem qd_X10_waterBehind : x_in (.code yX10_waterBehind cX10_waterBehind 3 (some .int)) := ⟨List.mem_of_getElem? (i := 1586) (by decide +kernel), Or.inl (by decide +kernel)⟩
theorem qi_X10_waterBehind : x_in (.instanceMethod yX10_waterBehind) := ⟨List.mem_of_getElem? (i := 1585) (by decide +kernel), Or.inl (by decide +kernel)⟩
theorem qs_X10_waterBehind : x_in (.selects RX10 yX10_waterBehind yX10_waterBehind) := ⟨List.mem_of_getElem? (i := 65) (by decide +kernel), Or.inl (by decide +kernel)⟩
theorem qk_X10_382 : x_in (.constant RX10 382 (-100002)) := ⟨List.mem_of_getElem? (i := 1582) (by decide +kernel), Or.inl (by decide +kernel)⟩
theorem qk_X10_381 : x_in (.constant RX10 381 (-100001)) := ⟨List.mem_of_getElem? (i := 1581) (by decide +kernel), Or.inl (by decide +kernel)⟩
theorem qm_X10_395 : x_in (.methodLink RX10 395 yX10_isSeen) := ⟨List.mem_of_getElem? (i := 1616) (by decide +kernel), Or.inl (by decide +kernel)⟩
theorem qd_X10_isSeen : x_in (.code yX10_isSeen cX10_isSeen 3 (some .boolean)) := ⟨List.mem_of_getElem? (i := 1619) (by decide +kernel), Or.inl (by decide +kernel)⟩
theorem qi_X10_isSeen : x_in (.instanceMethod yX10_isSeen) := ⟨List.mem_of_getElem? (i := 1618) (by decide +kernel), Or.inl (by decide +kernel)⟩
theorem qs_X10_isSeen : x_in (.selects RX10 yX10_isSeen yX10_isSeen) := ⟨List.mem_of_getElem? (i := 68) (by decide +kernel), Or.inl (by decide +kernel)⟩
theorem qm_X10_419 : x_in (.methodLink RX10 419 yX10_accountTells) := ⟨List.mem_of_getElem? (i := 1696) (by decide +kernel), Or.inl (by decide +kernel)⟩
theorem qd_X10_accountTells : x_in (.code yX10_accountTells cX10_accountTells 3 (some .int)) := ⟨List.mem_of_getElem? (i := 1699) (by decide +kernel), Or.inl (by decide +kernel)⟩
theorem qi_X10_accountTells : x_in (.instanceMethod yX10_accountTells) := ⟨List.mem_of_getElem? (i := 1698) (by decide +kernel), Or.inl (by decide +kernel)⟩
theorem qs_X10_accountTells : x_in (.selects RX10 yX10_accountTells yX10_accountTells) := ⟨List.mem_of_getElem? (i := 77) (by decide +kernel), Or.inl (by decide +kernel)⟩
theorem qm_X10_422 : x_in (.methodLink RX10 422 yX10_tellsAct) := ⟨List.mem_of_getElem? (i := 1692) (by decide +kernel), Or.inl (by decide +kernel)⟩
theorem qd_X10_tellsAct : x_in (.code yX10_tellsAct cX10_tellsAct 4 (some .int)) := ⟨List.mem_of_getElem? (i := 1695) (by decide +kernel), Or.inl (by decide +kernel)⟩
theorem qi_X10_tellsAct : x_in (.instanceMethod yX10_tellsAct) := ⟨List.mem_of_getElem? (i := 1694) (by decide +kernel), Or.inl (by decide +kernel)⟩
theorem qs_X10_tellsAct : x_in (.selects RX10 yX10_tellsAct yX10_tellsAct) := ⟨List.mem_of_getElem? (i := 76) (by decide +kernel), Or.inl (by decide +kernel)⟩
theorem qh_J1_canEncode_9a6ad : yJ1_canEncode_9a6ad.cls ≠ "java/lang/invoke/MethodHandle" ∧ yJ1_canEncode_9a6ad.cls ≠ "java/lang/invoke/VarHandle" ∧ (parseMethodDescriptor yJ1_canEncode_9a6ad.desc).map (fun d => d.parameters.length) = some 1 := by decide +kernel
theorem qh_J1_indexOfChar_4cfef : yJ1_indexOfChar_4cfef.cls ≠ "java/lang/invoke/MethodHandle" ∧ yJ1_indexOfChar_4cfef.cls ≠ "java/lang/invoke/VarHandle" ∧ (parseMethodDescriptor yJ1_indexOfChar_4cfef.desc).map (fun d => d.parameters.length) = some 4 := by decide +kernel
theorem qh_J3_checkIndex_8e157 : yJ3_checkIndex_8e157.cls ≠ "java/lang/invoke/MethodHandle" ∧ yJ3_checkIndex_8e157.cls ≠ "java/lang/invoke/VarHandle" ∧ (parseMethodDescriptor yJ3_checkIndex_8e157.desc).map (fun d => d.parameters.length) = some 3 := by decide +kernel
theorem qh_J0_checkIndex_df160 : yJ0_checkIndex_df160.cls ≠ "java/lang/invoke/MethodHandle" ∧ yJ0_checkIndex_df160.cls ≠ "java/lang/invoke/VarHandle" ∧ (parseMethodDescriptor yJ0_checkIndex_df160.desc).map (fun d => d.parameters.length) = some 2 := by decide +kernel
theorem qh_J0_coder_7d493 : yJ0_coder_7d493.cls ≠ "java/lang/invoke/MethodHandle" ∧ yJ0_coder_7d493.cls ≠ "java/lang/invoke/VarHandle" ∧ (parseMethodDescriptor yJ0_coder_7d493.desc).map (fun d => d.parameters.length) = some 0 := by decide +kernel
theorem qh_J0_isLatin1_aae02 : yJ0_isLatin1_aae02.cls ≠ "java/lang/invoke/MethodHandle" ∧ yJ0_isLatin1_aae02.cls ≠ "java/lang/invoke/VarHandle" ∧ (parseMethodDescriptor yJ0_isLatin1_aae02.desc).map (fun d => d.parameters.length) = some 0 := by decide +kernel
theorem qh_J0_length_8abf5 : yJ0_length_8abf5.cls ≠ "java/lang/invoke/MethodHandle" ∧ yJ0_length_8abf5.cls ≠ "java/lang/invoke/VarHandle" ∧ (parseMethodDescriptor yJ0_length_8abf5.desc).map (fun d => d.parameters.length) = some 0 := by decide +kernel
theorem qh_J1_indexOf_4cfef : yJ1_indexOf_4cfef.cls ≠ "java/lang/invoke/MethodHandle" ∧ yJ1_indexOf_4cfef.cls ≠ "java/lang/invoke/VarHandle" ∧ (parseMethodDescriptor yJ1_indexOf_4cfef.desc).map (fun d => d.parameters.length) = some 4 := by decide +kernel
theorem qh_J1_charAt_3b067 : yJ1_charAt_3b067.cls ≠ "java/lang/invoke/MethodHandle" ∧ yJ1_charAt_3b067.cls ≠ "java/lang/invoke/VarHandle" ∧ (parseMethodDescriptor yJ1_charAt_3b067.desc).map (fun d => d.parameters.length) = some 2 := by decide +kernel
theorem qh_J0_indexOf_7cf53 : yJ0_indexOf_7cf53.cls ≠ "java/lang/invoke/MethodHandle" ∧ yJ0_indexOf_7cf53.cls ≠ "java/lang/invoke/VarHandle" ∧ (parseMethodDescriptor yJ0_indexOf_7cf53.desc).map (fun d => d.parameters.length) = some 2 := by decide +kernel
theorem qh_X9_at : yX9_at.cls ≠ "java/lang/invoke/MethodHandle" ∧ yX9_at.cls ≠ "java/lang/invoke/VarHandle" ∧ (parseMethodDescriptor yX9_at.desc).map (fun d => d.parameters.length) = some 2 := by decide +kernel
theorem qh_X9_within : yX9_within.cls ≠ "java/lang/invoke/MethodHandle" ∧ yX9_within.cls ≠ "java/lang/invoke/VarHandle" ∧ (parseMethodDescriptor yX9_within.desc).map (fun d => d.parameters.length) = some 3 := by decide +kernel
theorem qh_X8_cut : yX8_cut.cls ≠ "java/lang/invoke/MethodHandle" ∧ yX8_cut.cls ≠ "java/lang/invoke/VarHandle" ∧ (parseMethodDescriptor yX8_cut.desc).map (fun d => d.parameters.length) = some 1 := by decide +kernel
theorem qh_J9_floorMod_7cf53 : yJ9_floorMod_7cf53.cls ≠ "java/lang/invoke/MethodHandle" ∧ yJ9_floorMod_7cf53.cls ≠ "java/lang/invoke/VarHandle" ∧ (parseMethodDescriptor yJ9_floorMod_7cf53.desc).map (fun d => d.parameters.length) = some 2 := by decide +kernel
theorem qh_X1_bodyOf : yX1_bodyOf.cls ≠ "java/lang/invoke/MethodHandle" ∧ yX1_bodyOf.cls ≠ "java/lang/invoke/VarHandle" ∧ (parseMethodDescriptor yX1_bodyOf.desc).map (fun d => d.parameters.length) = some 2 := by decide +kernel
theorem qh_X9_kindAbove : yX9_kindAbove.cls ≠ "java/lang/invoke/MethodHandle" ∧ yX9_kindAbove.cls ≠ "java/lang/invoke/VarHandle" ∧ (parseMethodDescriptor yX9_kindAbove.desc).map (fun d => d.parameters.length) = some 1 := by decide +kernel
theorem qh_X1_note : yX1_note.cls ≠ "java/lang/invoke/MethodHandle" ∧ yX1_note.cls ≠ "java/lang/invoke/VarHandle" ∧ (parseMethodDescriptor yX1_note.desc).map (fun d => d.parameters.length) = some 1 := by decide +kernel
theorem qh_X1_runBody : yX1_runBody.cls ≠ "java/lang/invoke/MethodHandle" ∧ yX1_runBody.cls ≠ "java/lang/invoke/VarHandle" ∧ (parseMethodDescriptor yX1_runBody.desc).map (fun d => d.parameters.length) = some 5 := by decide +kernel
theorem qh_X1_run : yX1_run.cls ≠ "java/lang/invoke/MethodHandle" ∧ yX1_run.cls ≠ "java/lang/invoke/VarHandle" ∧ (parseMethodDescriptor yX1_run.desc).map (fun d => d.parameters.length) = some 5 := by decide +kernel
theorem qh_X4_tellValues : yX4_tellValues.cls ≠ "java/lang/invoke/MethodHandle" ∧ yX4_tellValues.cls ≠ "java/lang/invoke/VarHandle" ∧ (parseMethodDescriptor yX4_tellValues.desc).map (fun d => d.parameters.length) = some 3 := by decide +kernel
theorem qh_X4_holds : yX4_holds.cls ≠ "java/lang/invoke/MethodHandle" ∧ yX4_holds.cls ≠ "java/lang/invoke/VarHandle" ∧ (parseMethodDescriptor yX4_holds.desc).map (fun d => d.parameters.length) = some 2 := by decide +kernel
theorem qh_J0_charAt_5068e : yJ0_charAt_5068e.cls ≠ "java/lang/invoke/MethodHandle" ∧ yJ0_charAt_5068e.cls ≠ "java/lang/invoke/VarHandle" ∧ (parseMethodDescriptor yJ0_charAt_5068e.desc).map (fun d => d.parameters.length) = some 1 := by decide +kernel
theorem qh_J0_indexOf_0f7a4 : yJ0_indexOf_0f7a4.cls ≠ "java/lang/invoke/MethodHandle" ∧ yJ0_indexOf_0f7a4.cls ≠ "java/lang/invoke/VarHandle" ∧ (parseMethodDescriptor yJ0_indexOf_0f7a4.desc).map (fun d => d.parameters.length) = some 1 := by decide +kernel
theorem qh_X5_wordOf : yX5_wordOf.cls ≠ "java/lang/invoke/MethodHandle" ∧ yX5_wordOf.cls ≠ "java/lang/invoke/VarHandle" ∧ (parseMethodDescriptor yX5_wordOf.desc).map (fun d => d.parameters.length) = some 1 := by decide +kernel
theorem qh_X5_sameSigns : yX5_sameSigns.cls ≠ "java/lang/invoke/MethodHandle" ∧ yX5_sameSigns.cls ≠ "java/lang/invoke/VarHandle" ∧ (parseMethodDescriptor yX5_sameSigns.desc).map (fun d => d.parameters.length) = some 1 := by decide +kernel
theorem qh_X5_takeOneOf : yX5_takeOneOf.cls ≠ "java/lang/invoke/MethodHandle" ∧ yX5_takeOneOf.cls ≠ "java/lang/invoke/VarHandle" ∧ (parseMethodDescriptor yX5_takeOneOf.desc).map (fun d => d.parameters.length) = some 1 := by decide +kernel
theorem qh_X4_put : yX4_put.cls ≠ "java/lang/invoke/MethodHandle" ∧ yX4_put.cls ≠ "java/lang/invoke/VarHandle" ∧ (parseMethodDescriptor yX4_put.desc).map (fun d => d.parameters.length) = some 1 := by decide +kernel
theorem qh_X5_takeNumber : yX5_takeNumber.cls ≠ "java/lang/invoke/MethodHandle" ∧ yX5_takeNumber.cls ≠ "java/lang/invoke/VarHandle" ∧ (parseMethodDescriptor yX5_takeNumber.desc).map (fun d => d.parameters.length) = some 0 := by decide +kernel
theorem qh_X5_takeBoth : yX5_takeBoth.cls ≠ "java/lang/invoke/MethodHandle" ∧ yX5_takeBoth.cls ≠ "java/lang/invoke/VarHandle" ∧ (parseMethodDescriptor yX5_takeBoth.desc).map (fun d => d.parameters.length) = some 2 := by decide +kernel
theorem qh_X5_take : yX5_take.cls ≠ "java/lang/invoke/MethodHandle" ∧ yX5_take.cls ≠ "java/lang/invoke/VarHandle" ∧ (parseMethodDescriptor yX5_take.desc).map (fun d => d.parameters.length) = some 1 := by decide +kernel
theorem qh_X5_takeFactor : yX5_takeFactor.cls ≠ "java/lang/invoke/MethodHandle" ∧ yX5_takeFactor.cls ≠ "java/lang/invoke/VarHandle" ∧ (parseMethodDescriptor yX5_takeFactor.desc).map (fun d => d.parameters.length) = some 2 := by decide +kernel
theorem qh_X5_takeTest : yX5_takeTest.cls ≠ "java/lang/invoke/MethodHandle" ∧ yX5_takeTest.cls ≠ "java/lang/invoke/VarHandle" ∧ (parseMethodDescriptor yX5_takeTest.desc).map (fun d => d.parameters.length) = some 1 := by decide +kernel
theorem qh_X5_takeEither : yX5_takeEither.cls ≠ "java/lang/invoke/MethodHandle" ∧ yX5_takeEither.cls ≠ "java/lang/invoke/VarHandle" ∧ (parseMethodDescriptor yX5_takeEither.desc).map (fun d => d.parameters.length) = some 2 := by decide +kernel
theorem qh_X4_clear : yX4_clear.cls ≠ "java/lang/invoke/MethodHandle" ∧ yX4_clear.cls ≠ "java/lang/invoke/VarHandle" ∧ (parseMethodDescriptor yX4_clear.desc).map (fun d => d.parameters.length) = some 0 := by decide +kernel
theorem qh_X5_takeWord : yX5_takeWord.cls ≠ "java/lang/invoke/MethodHandle" ∧ yX5_takeWord.cls ≠ "java/lang/invoke/VarHandle" ∧ (parseMethodDescriptor yX5_takeWord.desc).map (fun d => d.parameters.length) = some 0 := by decide +kernel
theorem qh_X4_tell : yX4_tell.cls ≠ "java/lang/invoke/MethodHandle" ∧ yX4_tell.cls ≠ "java/lang/invoke/VarHandle" ∧ (parseMethodDescriptor yX4_tell.desc).map (fun d => d.parameters.length) = some 2 := by decide +kernel
theorem qh_X4_close : yX4_close.cls ≠ "java/lang/invoke/MethodHandle" ∧ yX4_close.cls ≠ "java/lang/invoke/VarHandle" ∧ (parseMethodDescriptor yX4_close.desc).map (fun d => d.parameters.length) = some 2 := by decide +kernel
theorem qh_X3_levelOf : yX3_levelOf.cls ≠ "java/lang/invoke/MethodHandle" ∧ yX3_levelOf.cls ≠ "java/lang/invoke/VarHandle" ∧ (parseMethodDescriptor yX3_levelOf.desc).map (fun d => d.parameters.length) = some 1 := by decide +kernel
theorem qh_X0_lifts : yX0_lifts.cls ≠ "java/lang/invoke/MethodHandle" ∧ yX0_lifts.cls ≠ "java/lang/invoke/VarHandle" ∧ (parseMethodDescriptor yX0_lifts.desc).map (fun d => d.parameters.length) = some 0 := by decide +kernel
theorem qh_X7_find : yX7_find.cls ≠ "java/lang/invoke/MethodHandle" ∧ yX7_find.cls ≠ "java/lang/invoke/VarHandle" ∧ (parseMethodDescriptor yX7_find.desc).map (fun d => d.parameters.length) = some 1 := by decide +kernel
theorem qh_X0_open : yX0_open.cls ≠ "java/lang/invoke/MethodHandle" ∧ yX0_open.cls ≠ "java/lang/invoke/VarHandle" ∧ (parseMethodDescriptor yX0_open.desc).map (fun d => d.parameters.length) = some 3 := by decide +kernel
theorem qh_X3_copyFrom : yX3_copyFrom.cls ≠ "java/lang/invoke/MethodHandle" ∧ yX3_copyFrom.cls ≠ "java/lang/invoke/VarHandle" ∧ (parseMethodDescriptor yX3_copyFrom.desc).map (fun d => d.parameters.length) = some 1 := by decide +kernel
theorem qh_X0_copyFrom : yX0_copyFrom.cls ≠ "java/lang/invoke/MethodHandle" ∧ yX0_copyFrom.cls ≠ "java/lang/invoke/VarHandle" ∧ (parseMethodDescriptor yX0_copyFrom.desc).map (fun d => d.parameters.length) = some 1 := by decide +kernel
theorem qh_X6_copyFrom : yX6_copyFrom.cls ≠ "java/lang/invoke/MethodHandle" ∧ yX6_copyFrom.cls ≠ "java/lang/invoke/VarHandle" ∧ (parseMethodDescriptor yX6_copyFrom.desc).map (fun d => d.parameters.length) = some 1 := by decide +kernel
theorem qh_X7_level : yX7_level.cls ≠ "java/lang/invoke/MethodHandle" ∧ yX7_level.cls ≠ "java/lang/invoke/VarHandle" ∧ (parseMethodDescriptor yX7_level.desc).map (fun d => d.parameters.length) = some 0 := by decide +kernel
theorem qh_X7_bucketsOf : yX7_bucketsOf.cls ≠ "java/lang/invoke/MethodHandle" ∧ yX7_bucketsOf.cls ≠ "java/lang/invoke/VarHandle" ∧ (parseMethodDescriptor yX7_bucketsOf.desc).map (fun d => d.parameters.length) = some 1 := by decide +kernel
theorem qh_X4_together : yX4_together.cls ≠ "java/lang/invoke/MethodHandle" ∧ yX4_together.cls ≠ "java/lang/invoke/VarHandle" ∧ (parseMethodDescriptor yX4_together.desc).map (fun d => d.parameters.length) = some 4 := by decide +kernel
theorem qh_X7_spring : yX7_spring.cls ≠ "java/lang/invoke/MethodHandle" ∧ yX7_spring.cls ≠ "java/lang/invoke/VarHandle" ∧ (parseMethodDescriptor yX7_spring.desc).map (fun d => d.parameters.length) = some 1 := by decide +kernel
theorem qh_X0_pours : yX0_pours.cls ≠ "java/lang/invoke/MethodHandle" ∧ yX0_pours.cls ≠ "java/lang/invoke/VarHandle" ∧ (parseMethodDescriptor yX0_pours.desc).map (fun d => d.parameters.length) = some 3 := by decide +kernel
theorem qh_X7_sunOf : yX7_sunOf.cls ≠ "java/lang/invoke/MethodHandle" ∧ yX7_sunOf.cls ≠ "java/lang/invoke/VarHandle" ∧ (parseMethodDescriptor yX7_sunOf.desc).map (fun d => d.parameters.length) = some 2 := by decide +kernel
theorem qh_X3_volumeOf : yX3_volumeOf.cls ≠ "java/lang/invoke/MethodHandle" ∧ yX3_volumeOf.cls ≠ "java/lang/invoke/VarHandle" ∧ (parseMethodDescriptor yX3_volumeOf.desc).map (fun d => d.parameters.length) = some 1 := by decide +kernel
theorem qh_X7_pourBy : yX7_pourBy.cls ≠ "java/lang/invoke/MethodHandle" ∧ yX7_pourBy.cls ≠ "java/lang/invoke/VarHandle" ∧ (parseMethodDescriptor yX7_pourBy.desc).map (fun d => d.parameters.length) = some 2 := by decide +kernel
theorem qh_X7_spillTo : yX7_spillTo.cls ≠ "java/lang/invoke/MethodHandle" ∧ yX7_spillTo.cls ≠ "java/lang/invoke/VarHandle" ∧ (parseMethodDescriptor yX7_spillTo.desc).map (fun d => d.parameters.length) = some 1 := by decide +kernel
theorem qh_X0_holdBuckets : yX0_holdBuckets.cls ≠ "java/lang/invoke/MethodHandle" ∧ yX0_holdBuckets.cls ≠ "java/lang/invoke/VarHandle" ∧ (parseMethodDescriptor yX0_holdBuckets.desc).map (fun d => d.parameters.length) = some 0 := by decide +kernel
theorem qh_X6_size : yX6_size.cls ≠ "java/lang/invoke/MethodHandle" ∧ yX6_size.cls ≠ "java/lang/invoke/VarHandle" ∧ (parseMethodDescriptor yX6_size.desc).map (fun d => d.parameters.length) = some 0 := by decide +kernel
theorem qh_X6_first : yX6_first.cls ≠ "java/lang/invoke/MethodHandle" ∧ yX6_first.cls ≠ "java/lang/invoke/VarHandle" ∧ (parseMethodDescriptor yX6_first.desc).map (fun d => d.parameters.length) = some 1 := by decide +kernel
theorem qh_X6_second : yX6_second.cls ≠ "java/lang/invoke/MethodHandle" ∧ yX6_second.cls ≠ "java/lang/invoke/VarHandle" ∧ (parseMethodDescriptor yX6_second.desc).map (fun d => d.parameters.length) = some 1 := by decide +kernel
theorem qh_X7_copyFrom : yX7_copyFrom.cls ≠ "java/lang/invoke/MethodHandle" ∧ yX7_copyFrom.cls ≠ "java/lang/invoke/VarHandle" ∧ (parseMethodDescriptor yX7_copyFrom.desc).map (fun d => d.parameters.length) = some 1 := by decide +kernel
theorem qh_X7_pass : yX7_pass.cls ≠ "java/lang/invoke/MethodHandle" ∧ yX7_pass.cls ≠ "java/lang/invoke/VarHandle" ∧ (parseMethodDescriptor yX7_pass.desc).map (fun d => d.parameters.length) = some 0 := by decide +kernel
theorem qh_X7_isDry : yX7_isDry.cls ≠ "java/lang/invoke/MethodHandle" ∧ yX7_isDry.cls ≠ "java/lang/invoke/VarHandle" ∧ (parseMethodDescriptor yX7_isDry.desc).map (fun d => d.parameters.length) = some 0 := by decide +kernel
theorem qh_X7_firstBelow : yX7_firstBelow.cls ≠ "java/lang/invoke/MethodHandle" ∧ yX7_firstBelow.cls ≠ "java/lang/invoke/VarHandle" ∧ (parseMethodDescriptor yX7_firstBelow.desc).map (fun d => d.parameters.length) = some 1 := by decide +kernel
theorem qh_X9_commonDivisor : yX9_commonDivisor.cls ≠ "java/lang/invoke/MethodHandle" ∧ yX9_commonDivisor.cls ≠ "java/lang/invoke/VarHandle" ∧ (parseMethodDescriptor yX9_commonDivisor.desc).map (fun d => d.parameters.length) = some 2 := by decide +kernel
theorem qh_X9_lowestTerms : yX9_lowestTerms.cls ≠ "java/lang/invoke/MethodHandle" ∧ yX9_lowestTerms.cls ≠ "java/lang/invoke/VarHandle" ∧ (parseMethodDescriptor yX9_lowestTerms.desc).map (fun d => d.parameters.length) = some 3 := by decide +kernel
theorem qh_X7_sunOfDay : yX7_sunOfDay.cls ≠ "java/lang/invoke/MethodHandle" ∧ yX7_sunOfDay.cls ≠ "java/lang/invoke/VarHandle" ∧ (parseMethodDescriptor yX7_sunOfDay.desc).map (fun d => d.parameters.length) = some 0 := by decide +kernel
theorem qh_X2_lastSeen : yX2_lastSeen.cls ≠ "java/lang/invoke/MethodHandle" ∧ yX2_lastSeen.cls ≠ "java/lang/invoke/VarHandle" ∧ (parseMethodDescriptor yX2_lastSeen.desc).map (fun d => d.parameters.length) = some 0 := by decide +kernel
theorem qh_X2_isAsSeenOn : yX2_isAsSeenOn.cls ≠ "java/lang/invoke/MethodHandle" ∧ yX2_isAsSeenOn.cls ≠ "java/lang/invoke/VarHandle" ∧ (parseMethodDescriptor yX2_isAsSeenOn.desc).map (fun d => d.parameters.length) = some 1 := by decide +kernel
theorem qh_X2_staysWet : yX2_staysWet.cls ≠ "java/lang/invoke/MethodHandle" ∧ yX2_staysWet.cls ≠ "java/lang/invoke/VarHandle" ∧ (parseMethodDescriptor yX2_staysWet.desc).map (fun d => d.parameters.length) = some 1 := by decide +kernel
theorem qh_X2_after : yX2_after.cls ≠ "java/lang/invoke/MethodHandle" ∧ yX2_after.cls ≠ "java/lang/invoke/VarHandle" ∧ (parseMethodDescriptor yX2_after.desc).map (fun d => d.parameters.length) = some 2 := by decide +kernel
theorem qh_X2_beginWithout : yX2_beginWithout.cls ≠ "java/lang/invoke/MethodHandle" ∧ yX2_beginWithout.cls ≠ "java/lang/invoke/VarHandle" ∧ (parseMethodDescriptor yX2_beginWithout.desc).map (fun d => d.parameters.length) = some 2 := by decide +kernel
theorem qh_X2_goesAsSeen : yX2_goesAsSeen.cls ≠ "java/lang/invoke/MethodHandle" ∧ yX2_goesAsSeen.cls ≠ "java/lang/invoke/VarHandle" ∧ (parseMethodDescriptor yX2_goesAsSeen.desc).map (fun d => d.parameters.length) = some 0 := by decide +kernel
theorem qh_X1_bodyAt : yX1_bodyAt.cls ≠ "java/lang/invoke/MethodHandle" ∧ yX1_bodyAt.cls ≠ "java/lang/invoke/VarHandle" ∧ (parseMethodDescriptor yX1_bodyAt.desc).map (fun d => d.parameters.length) = some 1 := by decide +kernel
theorem qh_X5_length : yX5_length.cls ≠ "java/lang/invoke/MethodHandle" ∧ yX5_length.cls ≠ "java/lang/invoke/VarHandle" ∧ (parseMethodDescriptor yX5_length.desc).map (fun d => d.parameters.length) = some 0 := by decide +kernel
theorem qh_X1_ran : yX1_ran.cls ≠ "java/lang/invoke/MethodHandle" ∧ yX1_ran.cls ≠ "java/lang/invoke/VarHandle" ∧ (parseMethodDescriptor yX1_ran.desc).map (fun d => d.parameters.length) = some 0 := by decide +kernel
theorem qh_X3_change : yX3_change.cls ≠ "java/lang/invoke/MethodHandle" ∧ yX3_change.cls ≠ "java/lang/invoke/VarHandle" ∧ (parseMethodDescriptor yX3_change.desc).map (fun d => d.parameters.length) = some 2 := by decide +kernel
theorem qh_X9_isDaily : yX9_isDaily.cls ≠ "java/lang/invoke/MethodHandle" ∧ yX9_isDaily.cls ≠ "java/lang/invoke/VarHandle" ∧ (parseMethodDescriptor yX9_isDaily.desc).map (fun d => d.parameters.length) = some 1 := by decide +kernel
theorem qh_X7_open : yX7_open.cls ≠ "java/lang/invoke/MethodHandle" ∧ yX7_open.cls ≠ "java/lang/invoke/VarHandle" ∧ (parseMethodDescriptor yX7_open.desc).map (fun d => d.parameters.length) = some 3 := by decide +kernel
theorem qh_X0_changeRow : yX0_changeRow.cls ≠ "java/lang/invoke/MethodHandle" ∧ yX0_changeRow.cls ≠ "java/lang/invoke/VarHandle" ∧ (parseMethodDescriptor yX0_changeRow.desc).map (fun d => d.parameters.length) = some 2 := by decide +kernel
theorem qh_X5_add : yX5_add.cls ≠ "java/lang/invoke/MethodHandle" ∧ yX5_add.cls ≠ "java/lang/invoke/VarHandle" ∧ (parseMethodDescriptor yX5_add.desc).map (fun d => d.parameters.length) = some 1 := by decide +kernel
theorem qh_X6_add : yX6_add.cls ≠ "java/lang/invoke/MethodHandle" ∧ yX6_add.cls ≠ "java/lang/invoke/VarHandle" ∧ (parseMethodDescriptor yX6_add.desc).map (fun d => d.parameters.length) = some 2 := by decide +kernel
theorem qh_X6_clear : yX6_clear.cls ≠ "java/lang/invoke/MethodHandle" ∧ yX6_clear.cls ≠ "java/lang/invoke/VarHandle" ∧ (parseMethodDescriptor yX6_clear.desc).map (fun d => d.parameters.length) = some 0 := by decide +kernel
theorem qh_X9_findTape : yX9_findTape.cls ≠ "java/lang/invoke/MethodHandle" ∧ yX9_findTape.cls ≠ "java/lang/invoke/VarHandle" ∧ (parseMethodDescriptor yX9_findTape.desc).map (fun d => d.parameters.length) = some 1 := by decide +kernel
theorem qh_X8_isEmpty : yX8_isEmpty.cls ≠ "java/lang/invoke/MethodHandle" ∧ yX8_isEmpty.cls ≠ "java/lang/invoke/VarHandle" ∧ (parseMethodDescriptor yX8_isEmpty.desc).map (fun d => d.parameters.length) = some 0 := by decide +kernel
theorem qh_X8_get : yX8_get.cls ≠ "java/lang/invoke/MethodHandle" ∧ yX8_get.cls ≠ "java/lang/invoke/VarHandle" ∧ (parseMethodDescriptor yX8_get.desc).map (fun d => d.parameters.length) = some 1 := by decide +kernel
theorem qh_X9_isOrUnder : yX9_isOrUnder.cls ≠ "java/lang/invoke/MethodHandle" ∧ yX9_isOrUnder.cls ≠ "java/lang/invoke/VarHandle" ∧ (parseMethodDescriptor yX9_isOrUnder.desc).map (fun d => d.parameters.length) = some 2 := by decide +kernel
theorem qh_X8_become : yX8_become.cls ≠ "java/lang/invoke/MethodHandle" ∧ yX8_become.cls ≠ "java/lang/invoke/VarHandle" ∧ (parseMethodDescriptor yX8_become.desc).map (fun d => d.parameters.length) = some 2 := by decide +kernel
theorem qh_X8_put : yX8_put.cls ≠ "java/lang/invoke/MethodHandle" ∧ yX8_put.cls ≠ "java/lang/invoke/VarHandle" ∧ (parseMethodDescriptor yX8_put.desc).map (fun d => d.parameters.length) = some 2 := by decide +kernel
theorem qh_X8_takeFrom : yX8_takeFrom.cls ≠ "java/lang/invoke/MethodHandle" ∧ yX8_takeFrom.cls ≠ "java/lang/invoke/VarHandle" ∧ (parseMethodDescriptor yX8_takeFrom.desc).map (fun d => d.parameters.length) = some 4 := by decide +kernel
theorem qh_X9_maySet : yX9_maySet.cls ≠ "java/lang/invoke/MethodHandle" ∧ yX9_maySet.cls ≠ "java/lang/invoke/VarHandle" ∧ (parseMethodDescriptor yX9_maySet.desc).map (fun d => d.parameters.length) = some 2 := by decide +kernel
theorem qh_X0_change : yX0_change.cls ≠ "java/lang/invoke/MethodHandle" ∧ yX0_change.cls ≠ "java/lang/invoke/VarHandle" ∧ (parseMethodDescriptor yX0_change.desc).map (fun d => d.parameters.length) = some 2 := by decide +kernel
theorem qh_X3_areaOf : yX3_areaOf.cls ≠ "java/lang/invoke/MethodHandle" ∧ yX3_areaOf.cls ≠ "java/lang/invoke/VarHandle" ∧ (parseMethodDescriptor yX3_areaOf.desc).map (fun d => d.parameters.length) = some 1 := by decide +kernel
theorem qh_X2_daysTillDry : yX2_daysTillDry.cls ≠ "java/lang/invoke/MethodHandle" ∧ yX2_daysTillDry.cls ≠ "java/lang/invoke/VarHandle" ∧ (parseMethodDescriptor yX2_daysTillDry.desc).map (fun d => d.parameters.length) = some 1 := by decide +kernel
theorem qh_X2_daysTillLowest : yX2_daysTillLowest.cls ≠ "java/lang/invoke/MethodHandle" ∧ yX2_daysTillLowest.cls ≠ "java/lang/invoke/VarHandle" ∧ (parseMethodDescriptor yX2_daysTillLowest.desc).map (fun d => d.parameters.length) = some 2 := by decide +kernel
theorem qh_X2_firstBelow : yX2_firstBelow.cls ≠ "java/lang/invoke/MethodHandle" ∧ yX2_firstBelow.cls ≠ "java/lang/invoke/VarHandle" ∧ (parseMethodDescriptor yX2_firstBelow.desc).map (fun d => d.parameters.length) = some 2 := by decide +kernel
theorem qh_X2_daysTillEnough : yX2_daysTillEnough.cls ≠ "java/lang/invoke/MethodHandle" ∧ yX2_daysTillEnough.cls ≠ "java/lang/invoke/VarHandle" ∧ (parseMethodDescriptor yX2_daysTillEnough.desc).map (fun d => d.parameters.length) = some 3 := by decide +kernel
theorem qh_X9_isPart : yX9_isPart.cls ≠ "java/lang/invoke/MethodHandle" ∧ yX9_isPart.cls ≠ "java/lang/invoke/VarHandle" ∧ (parseMethodDescriptor yX9_isPart.desc).map (fun d => d.parameters.length) = some 1 := by decide +kernel
theorem qh_X2_sunShare : yX2_sunShare.cls ≠ "java/lang/invoke/MethodHandle" ∧ yX2_sunShare.cls ≠ "java/lang/invoke/VarHandle" ∧ (parseMethodDescriptor yX2_sunShare.desc).map (fun d => d.parameters.length) = some 4 := by decide +kernel
theorem qh_X7_richestNow : yX7_richestNow.cls ≠ "java/lang/invoke/MethodHandle" ∧ yX7_richestNow.cls ≠ "java/lang/invoke/VarHandle" ∧ (parseMethodDescriptor yX7_richestNow.desc).map (fun d => d.parameters.length) = some 0 := by decide +kernel
theorem qh_X2_meanLevel : yX2_meanLevel.cls ≠ "java/lang/invoke/MethodHandle" ∧ yX2_meanLevel.cls ≠ "java/lang/invoke/VarHandle" ∧ (parseMethodDescriptor yX2_meanLevel.desc).map (fun d => d.parameters.length) = some 3 := by decide +kernel
theorem qh_X2_afterPlan : yX2_afterPlan.cls ≠ "java/lang/invoke/MethodHandle" ∧ yX2_afterPlan.cls ≠ "java/lang/invoke/VarHandle" ∧ (parseMethodDescriptor yX2_afterPlan.desc).map (fun d => d.parameters.length) = some 1 := by decide +kernel
theorem qh_X2_leastDaily : yX2_leastDaily.cls ≠ "java/lang/invoke/MethodHandle" ∧ yX2_leastDaily.cls ≠ "java/lang/invoke/VarHandle" ∧ (parseMethodDescriptor yX2_leastDaily.desc).map (fun d => d.parameters.length) = some 3 := by decide +kernel
theorem qh_X2_waterBy : yX2_waterBy.cls ≠ "java/lang/invoke/MethodHandle" ∧ yX2_waterBy.cls ≠ "java/lang/invoke/VarHandle" ∧ (parseMethodDescriptor yX2_waterBy.desc).map (fun d => d.parameters.length) = some 3 := by decide +kernel
theorem qh_X2_leastWell : yX2_leastWell.cls ≠ "java/lang/invoke/MethodHandle" ∧ yX2_leastWell.cls ≠ "java/lang/invoke/VarHandle" ∧ (parseMethodDescriptor yX2_leastWell.desc).map (fun d => d.parameters.length) = some 2 := by decide +kernel
theorem qh_X2_isAsSeenWith : yX2_isAsSeenWith.cls ≠ "java/lang/invoke/MethodHandle" ∧ yX2_isAsSeenWith.cls ≠ "java/lang/invoke/VarHandle" ∧ (parseMethodDescriptor yX2_isAsSeenWith.desc).map (fun d => d.parameters.length) = some 3 := by decide +kernel
theorem qh_X2_absencesAsSeen : yX2_absencesAsSeen.cls ≠ "java/lang/invoke/MethodHandle" ∧ yX2_absencesAsSeen.cls ≠ "java/lang/invoke/VarHandle" ∧ (parseMethodDescriptor yX2_absencesAsSeen.desc).map (fun d => d.parameters.length) = some 1 := by decide +kernel
theorem qh_X2_springlessOdds : yX2_springlessOdds.cls ≠ "java/lang/invoke/MethodHandle" ∧ yX2_springlessOdds.cls ≠ "java/lang/invoke/VarHandle" ∧ (parseMethodDescriptor yX2_springlessOdds.desc).map (fun d => d.parameters.length) = some 3 := by decide +kernel
theorem qh_X1_perform : yX1_perform.cls ≠ "java/lang/invoke/MethodHandle" ∧ yX1_perform.cls ≠ "java/lang/invoke/VarHandle" ∧ (parseMethodDescriptor yX1_perform.desc).map (fun d => d.parameters.length) = some 3 := by decide +kernel
theorem qh_X5_parse : yX5_parse.cls ≠ "java/lang/invoke/MethodHandle" ∧ yX5_parse.cls ≠ "java/lang/invoke/VarHandle" ∧ (parseMethodDescriptor yX5_parse.desc).map (fun d => d.parameters.length) = some 1 := by decide +kernel
theorem qh_X5_clear : yX5_clear.cls ≠ "java/lang/invoke/MethodHandle" ∧ yX5_clear.cls ≠ "java/lang/invoke/VarHandle" ∧ (parseMethodDescriptor yX5_clear.desc).map (fun d => d.parameters.length) = some 0 := by decide +kernel
theorem qh_X10_in : yX10_in.cls ≠ "java/lang/invoke/MethodHandle" ∧ yX10_in.cls ≠ "java/lang/invoke/VarHandle" ∧ (parseMethodDescriptor yX10_in.desc).map (fun d => d.parameters.length) = some 3 := by decide +kernel
theorem qh_X10_volumeOf : yX10_volumeOf.cls ≠ "java/lang/invoke/MethodHandle" ∧ yX10_volumeOf.cls ≠ "java/lang/invoke/VarHandle" ∧ (parseMethodDescriptor yX10_volumeOf.desc).map (fun d => d.parameters.length) = some 1 := by decide +kernel
theorem qh_X10_next : yX10_next.cls ≠ "java/lang/invoke/MethodHandle" ∧ yX10_next.cls ≠ "java/lang/invoke/VarHandle" ∧ (parseMethodDescriptor yX10_next.desc).map (fun d => d.parameters.length) = some 0 := by decide +kernel
theorem qh_X10_emits : yX10_emits.cls ≠ "java/lang/invoke/MethodHandle" ∧ yX10_emits.cls ≠ "java/lang/invoke/VarHandle" ∧ (parseMethodDescriptor yX10_emits.desc).map (fun d => d.parameters.length) = some 1 := by decide +kernel
theorem qh_X10_begin : yX10_begin.cls ≠ "java/lang/invoke/MethodHandle" ∧ yX10_begin.cls ≠ "java/lang/invoke/VarHandle" ∧ (parseMethodDescriptor yX10_begin.desc).map (fun d => d.parameters.length) = some 0 := by decide +kernel
theorem qh_X10_behind : yX10_behind.cls ≠ "java/lang/invoke/MethodHandle" ∧ yX10_behind.cls ≠ "java/lang/invoke/VarHandle" ∧ (parseMethodDescriptor yX10_behind.desc).map (fun d => d.parameters.length) = some 0 := by decide +kernel
theorem qh_X10_factOf : yX10_factOf.cls ≠ "java/lang/invoke/MethodHandle" ∧ yX10_factOf.cls ≠ "java/lang/invoke/VarHandle" ∧ (parseMethodDescriptor yX10_factOf.desc).map (fun d => d.parameters.length) = some 2 := by decide +kernel
theorem qh_X10_levelOf : yX10_levelOf.cls ≠ "java/lang/invoke/MethodHandle" ∧ yX10_levelOf.cls ≠ "java/lang/invoke/VarHandle" ∧ (parseMethodDescriptor yX10_levelOf.desc).map (fun d => d.parameters.length) = some 1 := by decide +kernel
theorem qh_X10_liftsOf : yX10_liftsOf.cls ≠ "java/lang/invoke/MethodHandle" ∧ yX10_liftsOf.cls ≠ "java/lang/invoke/VarHandle" ∧ (parseMethodDescriptor yX10_liftsOf.desc).map (fun d => d.parameters.length) = some 1 := by decide +kernel
theorem qh_X10_divisor : yX10_divisor.cls ≠ "java/lang/invoke/MethodHandle" ∧ yX10_divisor.cls ≠ "java/lang/invoke/VarHandle" ∧ (parseMethodDescriptor yX10_divisor.desc).map (fun d => d.parameters.length) = some 2 := by decide +kernel
theorem qh_X10_body : yX10_body.cls ≠ "java/lang/invoke/MethodHandle" ∧ yX10_body.cls ≠ "java/lang/invoke/VarHandle" ∧ (parseMethodDescriptor yX10_body.desc).map (fun d => d.parameters.length) = some 1 := by decide +kernel
theorem qh_X10_isDaily : yX10_isDaily.cls ≠ "java/lang/invoke/MethodHandle" ∧ yX10_isDaily.cls ≠ "java/lang/invoke/VarHandle" ∧ (parseMethodDescriptor yX10_isDaily.desc).map (fun d => d.parameters.length) = some 1 := by decide +kernel
theorem qh_X10_isAccount : yX10_isAccount.cls ≠ "java/lang/invoke/MethodHandle" ∧ yX10_isAccount.cls ≠ "java/lang/invoke/VarHandle" ∧ (parseMethodDescriptor yX10_isAccount.desc).map (fun d => d.parameters.length) = some 1 := by decide +kernel
theorem qh_X10_takes : yX10_takes.cls ≠ "java/lang/invoke/MethodHandle" ∧ yX10_takes.cls ≠ "java/lang/invoke/VarHandle" ∧ (parseMethodDescriptor yX10_takes.desc).map (fun d => d.parameters.length) = some 1 := by decide +kernel
theorem qh_X10_isDigit : yX10_isDigit.cls ≠ "java/lang/invoke/MethodHandle" ∧ yX10_isDigit.cls ≠ "java/lang/invoke/VarHandle" ∧ (parseMethodDescriptor yX10_isDigit.desc).map (fun d => d.parameters.length) = some 0 := by decide +kernel
theorem qh_X10_lastOf : yX10_lastOf.cls ≠ "java/lang/invoke/MethodHandle" ∧ yX10_lastOf.cls ≠ "java/lang/invoke/VarHandle" ∧ (parseMethodDescriptor yX10_lastOf.desc).map (fun d => d.parameters.length) = some 2 := by decide +kernel
theorem qh_X10_level : yX10_level.cls ≠ "java/lang/invoke/MethodHandle" ∧ yX10_level.cls ≠ "java/lang/invoke/VarHandle" ∧ (parseMethodDescriptor yX10_level.desc).map (fun d => d.parameters.length) = some 0 := by decide +kernel
theorem qh_X10_holds : yX10_holds.cls ≠ "java/lang/invoke/MethodHandle" ∧ yX10_holds.cls ≠ "java/lang/invoke/VarHandle" ∧ (parseMethodDescriptor yX10_holds.desc).map (fun d => d.parameters.length) = some 2 := by decide +kernel
theorem qh_X10_isTape : yX10_isTape.cls ≠ "java/lang/invoke/MethodHandle" ∧ yX10_isTape.cls ≠ "java/lang/invoke/VarHandle" ∧ (parseMethodDescriptor yX10_isTape.desc).map (fun d => d.parameters.length) = some 1 := by decide +kernel
theorem qh_X10_accountKeeps : yX10_accountKeeps.cls ≠ "java/lang/invoke/MethodHandle" ∧ yX10_accountKeeps.cls ≠ "java/lang/invoke/VarHandle" ∧ (parseMethodDescriptor yX10_accountKeeps.desc).map (fun d => d.parameters.length) = some 2 := by decide +kernel
theorem qh_X10_narrow : yX10_narrow.cls ≠ "java/lang/invoke/MethodHandle" ∧ yX10_narrow.cls ≠ "java/lang/invoke/VarHandle" ∧ (parseMethodDescriptor yX10_narrow.desc).map (fun d => d.parameters.length) = some 2 := by decide +kernel
theorem qh_X10_place : yX10_place.cls ≠ "java/lang/invoke/MethodHandle" ∧ yX10_place.cls ≠ "java/lang/invoke/VarHandle" ∧ (parseMethodDescriptor yX10_place.desc).map (fun d => d.parameters.length) = some 1 := by decide +kernel
theorem qh_X10_takesNumber : yX10_takesNumber.cls ≠ "java/lang/invoke/MethodHandle" ∧ yX10_takesNumber.cls ≠ "java/lang/invoke/VarHandle" ∧ (parseMethodDescriptor yX10_takesNumber.desc).map (fun d => d.parameters.length) = some 0 := by decide +kernel
theorem qh_X10_whole : yX10_whole.cls ≠ "java/lang/invoke/MethodHandle" ∧ yX10_whole.cls ≠ "java/lang/invoke/VarHandle" ∧ (parseMethodDescriptor yX10_whole.desc).map (fun d => d.parameters.length) = some 0 := by decide +kernel
theorem qh_X10_takesWord : yX10_takesWord.cls ≠ "java/lang/invoke/MethodHandle" ∧ yX10_takesWord.cls ≠ "java/lang/invoke/VarHandle" ∧ (parseMethodDescriptor yX10_takesWord.desc).map (fun d => d.parameters.length) = some 2 := by decide +kernel
theorem qh_X10_second : yX10_second.cls ≠ "java/lang/invoke/MethodHandle" ∧ yX10_second.cls ≠ "java/lang/invoke/VarHandle" ∧ (parseMethodDescriptor yX10_second.desc).map (fun d => d.parameters.length) = some 0 := by decide +kernel
theorem qh_X10_sumOf : yX10_sumOf.cls ≠ "java/lang/invoke/MethodHandle" ∧ yX10_sumOf.cls ≠ "java/lang/invoke/VarHandle" ∧ (parseMethodDescriptor yX10_sumOf.desc).map (fun d => d.parameters.length) = some 2 := by decide +kernel
theorem qh_X10_floor : yX10_floor.cls ≠ "java/lang/invoke/MethodHandle" ∧ yX10_floor.cls ≠ "java/lang/invoke/VarHandle" ∧ (parseMethodDescriptor yX10_floor.desc).map (fun d => d.parameters.length) = some 0 := by decide +kernel
theorem qh_X10_keepsAct : yX10_keepsAct.cls ≠ "java/lang/invoke/MethodHandle" ∧ yX10_keepsAct.cls ≠ "java/lang/invoke/VarHandle" ∧ (parseMethodDescriptor yX10_keepsAct.desc).map (fun d => d.parameters.length) = some 2 := by decide +kernel
theorem qh_X10_settle : yX10_settle.cls ≠ "java/lang/invoke/MethodHandle" ∧ yX10_settle.cls ≠ "java/lang/invoke/VarHandle" ∧ (parseMethodDescriptor yX10_settle.desc).map (fun d => d.parameters.length) = some 1 := by decide +kernel
theorem qh_X10_takesTest : yX10_takesTest.cls ≠ "java/lang/invoke/MethodHandle" ∧ yX10_takesTest.cls ≠ "java/lang/invoke/VarHandle" ∧ (parseMethodDescriptor yX10_takesTest.desc).map (fun d => d.parameters.length) = some 0 := by decide +kernel
theorem qh_X10_poursOf : yX10_poursOf.cls ≠ "java/lang/invoke/MethodHandle" ∧ yX10_poursOf.cls ≠ "java/lang/invoke/VarHandle" ∧ (parseMethodDescriptor yX10_poursOf.desc).map (fun d => d.parameters.length) = some 1 := by decide +kernel
theorem qh_X10_sunOf : yX10_sunOf.cls ≠ "java/lang/invoke/MethodHandle" ∧ yX10_sunOf.cls ≠ "java/lang/invoke/VarHandle" ∧ (parseMethodDescriptor yX10_sunOf.desc).map (fun d => d.parameters.length) = some 1 := by decide +kernel
theorem qh_X10_mark : yX10_mark.cls ≠ "java/lang/invoke/MethodHandle" ∧ yX10_mark.cls ≠ "java/lang/invoke/VarHandle" ∧ (parseMethodDescriptor yX10_mark.desc).map (fun d => d.parameters.length) = some 0 := by decide +kernel
theorem qh_X10_spring : yX10_spring.cls ≠ "java/lang/invoke/MethodHandle" ∧ yX10_spring.cls ≠ "java/lang/invoke/VarHandle" ∧ (parseMethodDescriptor yX10_spring.desc).map (fun d => d.parameters.length) = some 0 := by decide +kernel
theorem qh_X10_pours : yX10_pours.cls ≠ "java/lang/invoke/MethodHandle" ∧ yX10_pours.cls ≠ "java/lang/invoke/VarHandle" ∧ (parseMethodDescriptor yX10_pours.desc).map (fun d => d.parameters.length) = some 2 := by decide +kernel
theorem qh_X10_held : yX10_held.cls ≠ "java/lang/invoke/MethodHandle" ∧ yX10_held.cls ≠ "java/lang/invoke/VarHandle" ∧ (parseMethodDescriptor yX10_held.desc).map (fun d => d.parameters.length) = some 1 := by decide +kernel
theorem qh_X10_accountPours : yX10_accountPours.cls ≠ "java/lang/invoke/MethodHandle" ∧ yX10_accountPours.cls ≠ "java/lang/invoke/VarHandle" ∧ (parseMethodDescriptor yX10_accountPours.desc).map (fun d => d.parameters.length) = some 2 := by decide +kernel
theorem qh_X10_takesHead : yX10_takesHead.cls ≠ "java/lang/invoke/MethodHandle" ∧ yX10_takesHead.cls ≠ "java/lang/invoke/VarHandle" ∧ (parseMethodDescriptor yX10_takesHead.desc).map (fun d => d.parameters.length) = some 1 := by decide +kernel
theorem qh_X10_takesE : yX10_takesE.cls ≠ "java/lang/invoke/MethodHandle" ∧ yX10_takesE.cls ≠ "java/lang/invoke/VarHandle" ∧ (parseMethodDescriptor yX10_takesE.desc).map (fun d => d.parameters.length) = some 1 := by decide +kernel
theorem qh_X10_goDay : yX10_goDay.cls ≠ "java/lang/invoke/MethodHandle" ∧ yX10_goDay.cls ≠ "java/lang/invoke/VarHandle" ∧ (parseMethodDescriptor yX10_goDay.desc).map (fun d => d.parameters.length) = some 0 := by decide +kernel
theorem qh_X10_save : yX10_save.cls ≠ "java/lang/invoke/MethodHandle" ∧ yX10_save.cls ≠ "java/lang/invoke/VarHandle" ∧ (parseMethodDescriptor yX10_save.desc).map (fun d => d.parameters.length) = some 0 := by decide +kernel
theorem qh_X10_putBack : yX10_putBack.cls ≠ "java/lang/invoke/MethodHandle" ∧ yX10_putBack.cls ≠ "java/lang/invoke/VarHandle" ∧ (parseMethodDescriptor yX10_putBack.desc).map (fun d => d.parameters.length) = some 0 := by decide +kernel
theorem qh_X10_isDays : yX10_isDays.cls ≠ "java/lang/invoke/MethodHandle" ∧ yX10_isDays.cls ≠ "java/lang/invoke/VarHandle" ∧ (parseMethodDescriptor yX10_isDays.desc).map (fun d => d.parameters.length) = some 1 := by decide +kernel
theorem qh_X10_below : yX10_below.cls ≠ "java/lang/invoke/MethodHandle" ∧ yX10_below.cls ≠ "java/lang/invoke/VarHandle" ∧ (parseMethodDescriptor yX10_below.desc).map (fun d => d.parameters.length) = some 1 := by decide +kernel
theorem qh_X10_lowestTerms : yX10_lowestTerms.cls ≠ "java/lang/invoke/MethodHandle" ∧ yX10_lowestTerms.cls ≠ "java/lang/invoke/VarHandle" ∧ (parseMethodDescriptor yX10_lowestTerms.desc).map (fun d => d.parameters.length) = some 3 := by decide +kernel
theorem qh_X10_savingPours : yX10_savingPours.cls ≠ "java/lang/invoke/MethodHandle" ∧ yX10_savingPours.cls ≠ "java/lang/invoke/VarHandle" ∧ (parseMethodDescriptor yX10_savingPours.desc).map (fun d => d.parameters.length) = some 2 := by decide +kernel
theorem qh_X10_takesClause : yX10_takesClause.cls ≠ "java/lang/invoke/MethodHandle" ∧ yX10_takesClause.cls ≠ "java/lang/invoke/VarHandle" ∧ (parseMethodDescriptor yX10_takesClause.desc).map (fun d => d.parameters.length) = some 1 := by decide +kernel
theorem qh_X10_goDays : yX10_goDays.cls ≠ "java/lang/invoke/MethodHandle" ∧ yX10_goDays.cls ≠ "java/lang/invoke/VarHandle" ∧ (parseMethodDescriptor yX10_goDays.desc).map (fun d => d.parameters.length) = some 1 := by decide +kernel
theorem qh_X10_isAbove : yX10_isAbove.cls ≠ "java/lang/invoke/MethodHandle" ∧ yX10_isAbove.cls ≠ "java/lang/invoke/VarHandle" ∧ (parseMethodDescriptor yX10_isAbove.desc).map (fun d => d.parameters.length) = some 1 := by decide +kernel
theorem qh_X10_poursAct : yX10_poursAct.cls ≠ "java/lang/invoke/MethodHandle" ∧ yX10_poursAct.cls ≠ "java/lang/invoke/VarHandle" ∧ (parseMethodDescriptor yX10_poursAct.desc).map (fun d => d.parameters.length) = some 2 := by decide +kernel
theorem qh_X10_goesText : yX10_goesText.cls ≠ "java/lang/invoke/MethodHandle" ∧ yX10_goesText.cls ≠ "java/lang/invoke/VarHandle" ∧ (parseMethodDescriptor yX10_goesText.desc).map (fun d => d.parameters.length) = some 1 := by decide +kernel
theorem qh_X10_waterBehind : yX10_waterBehind.cls ≠ "java/lang/invoke/MethodHandle" ∧ yX10_waterBehind.cls ≠ "java/lang/invoke/VarHandle" ∧ (parseMethodDescriptor yX10_waterBehind.desc).map (fun d => d.parameters.length) = some 1 := by decide +kernel
theorem qh_X10_isSeen : yX10_isSeen.cls ≠ "java/lang/invoke/MethodHandle" ∧ yX10_isSeen.cls ≠ "java/lang/invoke/VarHandle" ∧ (parseMethodDescriptor yX10_isSeen.desc).map (fun d => d.parameters.length) = some 0 := by decide +kernel
theorem qh_X10_accountTells : yX10_accountTells.cls ≠ "java/lang/invoke/MethodHandle" ∧ yX10_accountTells.cls ≠ "java/lang/invoke/VarHandle" ∧ (parseMethodDescriptor yX10_accountTells.desc).map (fun d => d.parameters.length) = some 2 := by decide +kernel
theorem qh_X10_tellsAct : yX10_tellsAct.cls ≠ "java/lang/invoke/MethodHandle" ∧ yX10_tellsAct.cls ≠ "java/lang/invoke/VarHandle" ∧ (parseMethodDescriptor yX10_tellsAct.desc).map (fun d => d.parameters.length) = some 2 := by decide +kernel
