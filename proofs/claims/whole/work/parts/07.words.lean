theorem kl_RX0_37 : Cond.constantLong RX0 37 (1000000001) ∈ Tb := tb_mem 943 (by decide +kernel) (by decide +kernel)
theorem ml_RX0_26 : ML RX0 26 yX0_join cX0_join 5 (some .long) 3 := ⟨tb_mem 940 (by decide +kernel) (by decide +kernel), tb_mem 126 (by decide +kernel) (by decide +kernel), tb_mem 942 (by decide +kernel) (by decide +kernel), by decide +kernel⟩
theorem mv_X0_join : Cond.static yX0_join ∈ Tb := tb_mem 941 (by decide +kernel) (by decide +kernel)
theorem kc_RX0_25 : Cond.constant RX0 25 (65535) ∈ Tb := tb_mem 939 (by decide +kernel) (by decide +kernel)
theorem kl_RX0_30 : Cond.constantLong RX0 30 (-1000000000) ∈ Tb := tb_mem 944 (by decide +kernel) (by decide +kernel)
theorem kl_RX0_32 : Cond.constantLong RX0 32 (1000000000) ∈ Tb := tb_mem 945 (by decide +kernel) (by decide +kernel)
theorem fl_RX0_13 : FL RX0 13 0 2 := ⟨by decide, by decide, tb_mem 379 (by decide +kernel) (by decide +kernel)⟩
theorem fl_RX0_16 : FL RX0 16 9 6 := ⟨by decide, by decide, tb_mem 286 (by decide +kernel) (by decide +kernel)⟩
theorem fl_RX0_22 : FL RX0 22 9 0 := ⟨by decide, by decide, tb_mem 265 (by decide +kernel) (by decide +kernel)⟩
theorem fl_RX0_34 : FL RX0 34 0 1 := ⟨by decide, by decide, tb_mem 377 (by decide +kernel) (by decide +kernel)⟩
theorem fl_RX0_9 : FL RX0 9 0 0 := ⟨by decide, by decide, tb_mem 373 (by decide +kernel) (by decide +kernel)⟩
theorem mc_RX1_49 : MC RX1 49 := ⟨tb_mem 919 (by decide +kernel) (by decide +kernel), tb_mem 909 (by decide +kernel) (by decide +kernel), tb_mem 908 (by decide +kernel) (by decide +kernel), tb_mem 139 (by decide +kernel) (by decide +kernel)⟩
theorem fl_RX1_15 : FL RX1 15 1 2 := ⟨by decide, by decide, tb_mem 164 (by decide +kernel) (by decide +kernel)⟩
theorem fl_RX1_18 : FL RX1 18 1 3 := ⟨by decide, by decide, tb_mem 168 (by decide +kernel) (by decide +kernel)⟩
theorem fl_RX1_21 : FL RX1 21 1 4 := ⟨by decide, by decide, tb_mem 174 (by decide +kernel) (by decide +kernel)⟩
theorem fl_RX1_24 : FL RX1 24 1 5 := ⟨by decide, by decide, tb_mem 180 (by decide +kernel) (by decide +kernel)⟩
theorem fl_RX1_27 : FL RX1 27 1 6 := ⟨by decide, by decide, tb_mem 185 (by decide +kernel) (by decide +kernel)⟩
theorem fl_RX1_30 : FL RX1 30 1 7 := ⟨by decide, by decide, tb_mem 187 (by decide +kernel) (by decide +kernel)⟩
theorem fl_RX1_33 : FL RX1 33 1 8 := ⟨by decide, by decide, tb_mem 189 (by decide +kernel) (by decide +kernel)⟩
theorem fl_RX1_38 : FL RX1 38 1 9 := ⟨by decide, by decide, tb_mem 196 (by decide +kernel) (by decide +kernel)⟩
theorem fl_RX1_42 : FL RX1 42 1 11 := ⟨by decide, by decide, tb_mem 201 (by decide +kernel) (by decide +kernel)⟩
theorem fl_RX1_46 : FL RX1 46 1 0 := ⟨by decide, by decide, tb_mem 157 (by decide +kernel) (by decide +kernel)⟩
theorem fl_RX1_55 : FL RX1 55 1 10 := ⟨by decide, by decide, tb_mem 199 (by decide +kernel) (by decide +kernel)⟩
theorem fl_RX1_58 : FL RX1 58 1 12 := ⟨by decide, by decide, tb_mem 204 (by decide +kernel) (by decide +kernel)⟩
theorem fl_RX1_61 : FL RX1 61 1 13 := ⟨by decide, by decide, tb_mem 209 (by decide +kernel) (by decide +kernel)⟩
theorem fl_RX1_64 : FL RX1 64 1 14 := ⟨by decide, by decide, tb_mem 215 (by decide +kernel) (by decide +kernel)⟩
theorem fl_RX1_9 : FL RX1 9 1 1 := ⟨by decide, by decide, tb_mem 161 (by decide +kernel) (by decide +kernel)⟩
theorem kc_RJ6_265 : Cond.constant RJ6 265 (1431655765) ∈ Tb := tb_mem 1150 (by decide +kernel) (by decide +kernel)
theorem kc_RJ6_266 : Cond.constant RJ6 266 (858993459) ∈ Tb := tb_mem 1151 (by decide +kernel) (by decide +kernel)
theorem kc_RJ6_267 : Cond.constant RJ6 267 (252645135) ∈ Tb := tb_mem 1152 (by decide +kernel) (by decide +kernel)
theorem ml_RX1_67 : ML RX1 67 yJ6_bitCount_0f7a4 cJ6_bitCount_0f7a4 1 (some .int) 1 := ⟨tb_mem 1322 (by decide +kernel) (by decide +kernel), tb_mem 140 (by decide +kernel) (by decide +kernel), tb_mem 1149 (by decide +kernel) (by decide +kernel), by decide +kernel⟩
theorem mv_J6_bitCount_0f7a4 : Cond.static yJ6_bitCount_0f7a4 ∈ Tb := tb_mem 1148 (by decide +kernel) (by decide +kernel)
theorem fl_RX3_12 : FL RX3 12 3 1 := ⟨by decide, by decide, tb_mem 388 (by decide +kernel) (by decide +kernel)⟩
theorem fl_RX3_18 : FL RX3 18 3 0 := ⟨by decide, by decide, tb_mem 387 (by decide +kernel) (by decide +kernel)⟩
theorem fl_RX3_26 : FL RX3 26 1 1 := ⟨by decide, by decide, tb_mem 162 (by decide +kernel) (by decide +kernel)⟩
theorem fl_RX3_40 : FL RX3 40 0 0 := ⟨by decide, by decide, tb_mem 375 (by decide +kernel) (by decide +kernel)⟩
theorem fl_RX3_43 : FL RX3 43 1 2 := ⟨by decide, by decide, tb_mem 167 (by decide +kernel) (by decide +kernel)⟩
theorem fl_RX3_46 : FL RX3 46 1 8 := ⟨by decide, by decide, tb_mem 195 (by decide +kernel) (by decide +kernel)⟩
theorem ml_RX3_36 : ML RX3 36 yX3_setPerson cX3_setPerson 6 none 4 := ⟨tb_mem 963 (by decide +kernel) (by decide +kernel), tb_mem 125 (by decide +kernel) (by decide +kernel), tb_mem 966 (by decide +kernel) (by decide +kernel), by decide +kernel⟩
theorem mv_X3_setPerson : yX3_setPerson.cls = clC 3 ∧ Cond.instanceMethod yX3_setPerson ∈ Tb ∧ Cond.selects (clC 3) yX3_setPerson yX3_setPerson ∈ Tb := ⟨rfl, tb_mem 965 (by decide +kernel) (by decide +kernel), tb_mem 22 (by decide +kernel) (by decide +kernel)⟩
theorem ml_RX3_52 : ML RX3 52 yX1_fogOn cX1_fogOn 2 (some .int) 1 := ⟨tb_mem 959 (by decide +kernel) (by decide +kernel), tb_mem 121 (by decide +kernel) (by decide +kernel), tb_mem 962 (by decide +kernel) (by decide +kernel), by decide +kernel⟩
theorem mv_X1_fogOn : yX1_fogOn.cls = clC 1 ∧ Cond.instanceMethod yX1_fogOn ∈ Tb ∧ Cond.selects (clC 1) yX1_fogOn yX1_fogOn ∈ Tb := ⟨rfl, tb_mem 960 (by decide +kernel) (by decide +kernel), tb_mem 961 (by decide +kernel) (by decide +kernel)⟩
theorem fl_RX3_49 : FL RX3 49 1 3 := ⟨by decide, by decide, tb_mem 173 (by decide +kernel) (by decide +kernel)⟩
theorem ml_RX3_78 : ML RX3 78 yX0_solve cX0_solve 12 (some .boolean) 3 := ⟨tb_mem 971 (by decide +kernel) (by decide +kernel), tb_mem 126 (by decide +kernel) (by decide +kernel), tb_mem 938 (by decide +kernel) (by decide +kernel), by decide +kernel⟩
theorem mv_X0_solve : yX0_solve.cls = clC 0 ∧ Cond.instanceMethod yX0_solve ∈ Tb ∧ Cond.selects (clC 0) yX0_solve yX0_solve ∈ Tb := ⟨rfl, tb_mem 936 (by decide +kernel) (by decide +kernel), tb_mem 937 (by decide +kernel) (by decide +kernel)⟩
theorem fl_RX3_56 : FL RX3 56 1 11 := ⟨by decide, by decide, tb_mem 202 (by decide +kernel) (by decide +kernel)⟩
theorem fl_RX3_60 : FL RX3 60 1 9 := ⟨by decide, by decide, tb_mem 197 (by decide +kernel) (by decide +kernel)⟩
theorem fl_RX3_64 : FL RX3 64 9 7 := ⟨by decide, by decide, tb_mem 291 (by decide +kernel) (by decide +kernel)⟩
theorem fl_RX3_69 : FL RX3 69 9 1 := ⟨by decide, by decide, tb_mem 269 (by decide +kernel) (by decide +kernel)⟩
theorem fl_RX3_72 : FL RX3 72 9 3 := ⟨by decide, by decide, tb_mem 277 (by decide +kernel) (by decide +kernel)⟩
theorem fl_RX3_75 : FL RX3 75 9 4 := ⟨by decide, by decide, tb_mem 281 (by decide +kernel) (by decide +kernel)⟩
theorem fl_RX3_82 : FL RX3 82 0 1 := ⟨by decide, by decide, tb_mem 378 (by decide +kernel) (by decide +kernel)⟩
theorem fl_RX3_85 : FL RX3 85 9 2 := ⟨by decide, by decide, tb_mem 273 (by decide +kernel) (by decide +kernel)⟩
theorem mm_RX3_88 : MM RX3 88 Lib.Math.min.name Lib.Math.min.code := ⟨tb_mem 972 (by decide +kernel) (by decide +kernel), tb_mem 701 (by decide +kernel) (by decide +kernel), tb_mem 132 (by decide +kernel) (by decide +kernel), tb_mem 702 (by decide +kernel) (by decide +kernel)⟩
theorem mm_RX3_94 : MM RX3 94 Lib.Math.max.name Lib.Math.max.code := ⟨tb_mem 973 (by decide +kernel) (by decide +kernel), tb_mem 819 (by decide +kernel) (by decide +kernel), tb_mem 132 (by decide +kernel) (by decide +kernel), tb_mem 820 (by decide +kernel) (by decide +kernel)⟩
theorem ml_RX3_22 : ML RX3 22 yX3_setNow cX3_setNow 3 none 1 := ⟨tb_mem 955 (by decide +kernel) (by decide +kernel), tb_mem 125 (by decide +kernel) (by decide +kernel), tb_mem 958 (by decide +kernel) (by decide +kernel), by decide +kernel⟩
theorem mv_X3_setNow : yX3_setNow.cls = clC 3 ∧ Cond.instanceMethod yX3_setNow ∈ Tb ∧ Cond.selects (clC 3) yX3_setNow yX3_setNow ∈ Tb := ⟨rfl, tb_mem 957 (by decide +kernel) (by decide +kernel), tb_mem 21 (by decide +kernel) (by decide +kernel)⟩
theorem ml_RX3_32 : ML RX3 32 yX3_tells cX3_tells 9 (some .int) 3 := ⟨tb_mem 967 (by decide +kernel) (by decide +kernel), tb_mem 125 (by decide +kernel) (by decide +kernel), tb_mem 970 (by decide +kernel) (by decide +kernel), by decide +kernel⟩
theorem mv_X3_tells : yX3_tells.cls = clC 3 ∧ Cond.instanceMethod yX3_tells ∈ Tb ∧ Cond.selects (clC 3) yX3_tells yX3_tells ∈ Tb := ⟨rfl, tb_mem 969 (by decide +kernel) (by decide +kernel), tb_mem 23 (by decide +kernel) (by decide +kernel)⟩
theorem ml_RX4_55 : ML RX4 55 yJ9_floorMod_7cf53 cJ9_floorMod_7cf53 3 (some .int) 2 := ⟨tb_mem 986 (by decide +kernel) (by decide +kernel), tb_mem 132 (by decide +kernel) (by decide +kernel), tb_mem 988 (by decide +kernel) (by decide +kernel), by decide +kernel⟩
theorem mv_J9_floorMod_7cf53 : Cond.static yJ9_floorMod_7cf53 ∈ Tb := tb_mem 987 (by decide +kernel) (by decide +kernel)
theorem fl_RX4_19 : FL RX4 19 4 1 := ⟨by decide, by decide, tb_mem 352 (by decide +kernel) (by decide +kernel)⟩
theorem ml_RX4_28 : ML RX4 28 yX4_placeOf cX4_placeOf 2 (some .int) 1 := ⟨tb_mem 982 (by decide +kernel) (by decide +kernel), tb_mem 124 (by decide +kernel) (by decide +kernel), tb_mem 985 (by decide +kernel) (by decide +kernel), by decide +kernel⟩
theorem mv_X4_placeOf : yX4_placeOf.cls = clC 4 ∧ Cond.instanceMethod yX4_placeOf ∈ Tb ∧ Cond.selects (clC 4) yX4_placeOf yX4_placeOf ∈ Tb := ⟨rfl, tb_mem 984 (by decide +kernel) (by decide +kernel), tb_mem 24 (by decide +kernel) (by decide +kernel)⟩
theorem mc_RX4_22 : MC RX4 22 := ⟨tb_mem 924 (by decide +kernel) (by decide +kernel), tb_mem 909 (by decide +kernel) (by decide +kernel), tb_mem 908 (by decide +kernel) (by decide +kernel), tb_mem 139 (by decide +kernel) (by decide +kernel)⟩
theorem fl_RX4_11 : FL RX4 11 4 2 := ⟨by decide, by decide, tb_mem 353 (by decide +kernel) (by decide +kernel)⟩
theorem fl_RX4_15 : FL RX4 15 4 0 := ⟨by decide, by decide, tb_mem 350 (by decide +kernel) (by decide +kernel)⟩
theorem fl_RX4_32 : FL RX4 32 1 8 := ⟨by decide, by decide, tb_mem 193 (by decide +kernel) (by decide +kernel)⟩
theorem fl_RX4_37 : FL RX4 37 1 12 := ⟨by decide, by decide, tb_mem 207 (by decide +kernel) (by decide +kernel)⟩
theorem fl_RX4_40 : FL RX4 40 1 13 := ⟨by decide, by decide, tb_mem 212 (by decide +kernel) (by decide +kernel)⟩
theorem fl_RX4_43 : FL RX4 43 1 14 := ⟨by decide, by decide, tb_mem 217 (by decide +kernel) (by decide +kernel)⟩
theorem fl_RX4_46 : FL RX4 46 1 3 := ⟨by decide, by decide, tb_mem 171 (by decide +kernel) (by decide +kernel)⟩
theorem fl_RX4_49 : FL RX4 49 1 4 := ⟨by decide, by decide, tb_mem 179 (by decide +kernel) (by decide +kernel)⟩
theorem fl_RX4_52 : FL RX4 52 1 5 := ⟨by decide, by decide, tb_mem 183 (by decide +kernel) (by decide +kernel)⟩
theorem ml_RX2_23 : ML RX2 23 yX1_has cX1_has 2 (some .boolean) 1 := ⟨tb_mem 950 (by decide +kernel) (by decide +kernel), tb_mem 121 (by decide +kernel) (by decide +kernel), tb_mem 633 (by decide +kernel) (by decide +kernel), by decide +kernel⟩
theorem mv_X1_has : yX1_has.cls = clC 1 ∧ Cond.instanceMethod yX1_has ∈ Tb ∧ Cond.selects (clC 1) yX1_has yX1_has ∈ Tb := ⟨rfl, tb_mem 631 (by decide +kernel) (by decide +kernel), tb_mem 632 (by decide +kernel) (by decide +kernel)⟩
theorem ml_RX2_33 : ML RX2 33 yX3_costs cX3_costs 2 (some .int) 1 := ⟨tb_mem 951 (by decide +kernel) (by decide +kernel), tb_mem 125 (by decide +kernel) (by decide +kernel), tb_mem 954 (by decide +kernel) (by decide +kernel), by decide +kernel⟩
theorem mv_X3_costs : yX3_costs.cls = clC 3 ∧ Cond.instanceMethod yX3_costs ∈ Tb ∧ Cond.selects (clC 3) yX3_costs yX3_costs ∈ Tb := ⟨rfl, tb_mem 952 (by decide +kernel) (by decide +kernel), tb_mem 953 (by decide +kernel) (by decide +kernel)⟩
theorem ml_RX2_39 : ML RX2 39 yX3_takes cX3_takes 2 (some .int) 1 := ⟨tb_mem 974 (by decide +kernel) (by decide +kernel), tb_mem 125 (by decide +kernel) (by decide +kernel), tb_mem 977 (by decide +kernel) (by decide +kernel), by decide +kernel⟩
theorem mv_X3_takes : yX3_takes.cls = clC 3 ∧ Cond.instanceMethod yX3_takes ∈ Tb ∧ Cond.selects (clC 3) yX3_takes yX3_takes ∈ Tb := ⟨rfl, tb_mem 975 (by decide +kernel) (by decide +kernel), tb_mem 976 (by decide +kernel) (by decide +kernel)⟩
theorem ml_RX2_42 : ML RX2 42 yX4_keep cX4_keep 4 none 2 := ⟨tb_mem 978 (by decide +kernel) (by decide +kernel), tb_mem 124 (by decide +kernel) (by decide +kernel), tb_mem 981 (by decide +kernel) (by decide +kernel), by decide +kernel⟩
theorem mv_X4_keep : yX4_keep.cls = clC 4 ∧ Cond.instanceMethod yX4_keep ∈ Tb ∧ Cond.selects (clC 4) yX4_keep yX4_keep ∈ Tb := ⟨rfl, tb_mem 979 (by decide +kernel) (by decide +kernel), tb_mem 980 (by decide +kernel) (by decide +kernel)⟩
theorem fl_RX2_15 : FL RX2 15 2 1 := ⟨by decide, by decide, tb_mem 401 (by decide +kernel) (by decide +kernel)⟩
theorem fl_RX2_19 : FL RX2 19 2 2 := ⟨by decide, by decide, tb_mem 402 (by decide +kernel) (by decide +kernel)⟩
theorem fl_RX2_29 : FL RX2 29 1 4 := ⟨by decide, by decide, tb_mem 175 (by decide +kernel) (by decide +kernel)⟩
theorem fl_RX2_48 : FL RX2 48 1 14 := ⟨by decide, by decide, tb_mem 214 (by decide +kernel) (by decide +kernel)⟩
theorem fl_RX2_52 : FL RX2 52 1 5 := ⟨by decide, by decide, tb_mem 181 (by decide +kernel) (by decide +kernel)⟩
theorem fl_RX2_55 : FL RX2 55 1 8 := ⟨by decide, by decide, tb_mem 190 (by decide +kernel) (by decide +kernel)⟩
theorem fl_RX2_9 : FL RX2 9 2 0 := ⟨by decide, by decide, tb_mem 400 (by decide +kernel) (by decide +kernel)⟩
theorem ml_RX2_107 : ML RX2 107 yX3_lodges cX3_lodges 2 (some .int) 1 := ⟨tb_mem 1023 (by decide +kernel) (by decide +kernel), tb_mem 125 (by decide +kernel) (by decide +kernel), tb_mem 1026 (by decide +kernel) (by decide +kernel), by decide +kernel⟩
theorem mv_X3_lodges : yX3_lodges.cls = clC 3 ∧ Cond.instanceMethod yX3_lodges ∈ Tb ∧ Cond.selects (clC 3) yX3_lodges yX3_lodges ∈ Tb := ⟨rfl, tb_mem 1024 (by decide +kernel) (by decide +kernel), tb_mem 1025 (by decide +kernel) (by decide +kernel)⟩
theorem fl_RX2_58 : FL RX2 58 1 0 := ⟨by decide, by decide, tb_mem 160 (by decide +kernel) (by decide +kernel)⟩
theorem ml_RX2_91 : ML RX2 91 yX1_talks cX1_talks 3 (some .boolean) 2 := ⟨tb_mem 1010 (by decide +kernel) (by decide +kernel), tb_mem 121 (by decide +kernel) (by decide +kernel), tb_mem 1013 (by decide +kernel) (by decide +kernel), by decide +kernel⟩
theorem mv_X1_talks : yX1_talks.cls = clC 1 ∧ Cond.instanceMethod yX1_talks ∈ Tb ∧ Cond.selects (clC 1) yX1_talks yX1_talks ∈ Tb := ⟨rfl, tb_mem 1011 (by decide +kernel) (by decide +kernel), tb_mem 1012 (by decide +kernel) (by decide +kernel)⟩
theorem ml_RX2_98 : ML RX2 98 yX3_spoils cX3_spoils 3 (some .int) 2 := ⟨tb_mem 1014 (by decide +kernel) (by decide +kernel), tb_mem 125 (by decide +kernel) (by decide +kernel), tb_mem 1017 (by decide +kernel) (by decide +kernel), by decide +kernel⟩
theorem mv_X3_spoils : yX3_spoils.cls = clC 3 ∧ Cond.instanceMethod yX3_spoils ∈ Tb ∧ Cond.selects (clC 3) yX3_spoils yX3_spoils ∈ Tb := ⟨rfl, tb_mem 1015 (by decide +kernel) (by decide +kernel), tb_mem 1016 (by decide +kernel) (by decide +kernel)⟩
theorem fl_RX2_95 : FL RX2 95 1 3 := ⟨by decide, by decide, tb_mem 172 (by decide +kernel) (by decide +kernel)⟩
theorem mm_RX2_102 : MM RX2 102 Lib.Math.min.name Lib.Math.min.code := ⟨tb_mem 1018 (by decide +kernel) (by decide +kernel), tb_mem 701 (by decide +kernel) (by decide +kernel), tb_mem 132 (by decide +kernel) (by decide +kernel), tb_mem 702 (by decide +kernel) (by decide +kernel)⟩
theorem ml_RX2_85 : ML RX2 85 yX1_worth cX1_worth 2 (some .int) 1 := ⟨tb_mem 997 (by decide +kernel) (by decide +kernel), tb_mem 121 (by decide +kernel) (by decide +kernel), tb_mem 641 (by decide +kernel) (by decide +kernel), by decide +kernel⟩
theorem mv_X1_worth : yX1_worth.cls = clC 1 ∧ Cond.instanceMethod yX1_worth ∈ Tb ∧ Cond.selects (clC 1) yX1_worth yX1_worth ∈ Tb := ⟨rfl, tb_mem 639 (by decide +kernel) (by decide +kernel), tb_mem 640 (by decide +kernel) (by decide +kernel)⟩
theorem ml_RX2_88 : ML RX2 88 yX3_barsNow cX3_barsNow 2 (some .boolean) 1 := ⟨tb_mem 998 (by decide +kernel) (by decide +kernel), tb_mem 125 (by decide +kernel) (by decide +kernel), tb_mem 1001 (by decide +kernel) (by decide +kernel), by decide +kernel⟩
theorem mv_X3_barsNow : yX3_barsNow.cls = clC 3 ∧ Cond.instanceMethod yX3_barsNow ∈ Tb ∧ Cond.selects (clC 3) yX3_barsNow yX3_barsNow ∈ Tb := ⟨rfl, tb_mem 999 (by decide +kernel) (by decide +kernel), tb_mem 1000 (by decide +kernel) (by decide +kernel)⟩
theorem ml_RX2_61 : ML RX2 61 yX2_worthOf cX2_worthOf 4 (some .int) 1 := ⟨tb_mem 993 (by decide +kernel) (by decide +kernel), tb_mem 127 (by decide +kernel) (by decide +kernel), tb_mem 996 (by decide +kernel) (by decide +kernel), by decide +kernel⟩
theorem mv_X2_worthOf : yX2_worthOf.cls = clC 2 ∧ Cond.instanceMethod yX2_worthOf ∈ Tb ∧ Cond.selects (clC 2) yX2_worthOf yX2_worthOf ∈ Tb := ⟨rfl, tb_mem 995 (by decide +kernel) (by decide +kernel), tb_mem 25 (by decide +kernel) (by decide +kernel)⟩
theorem ml_RX2_64 : ML RX2 64 yX1_fogOn cX1_fogOn 2 (some .int) 1 := ⟨tb_mem 1002 (by decide +kernel) (by decide +kernel), tb_mem 121 (by decide +kernel) (by decide +kernel), tb_mem 962 (by decide +kernel) (by decide +kernel), by decide +kernel⟩
theorem ml_RX2_67 : ML RX2 67 yX5_wanted cX5_wanted 1 (some .int) 1 := ⟨tb_mem 1003 (by decide +kernel) (by decide +kernel), tb_mem 128 (by decide +kernel) (by decide +kernel), tb_mem 1005 (by decide +kernel) (by decide +kernel), by decide +kernel⟩
theorem mv_X5_wanted : Cond.static yX5_wanted ∈ Tb := tb_mem 1004 (by decide +kernel) (by decide +kernel)
theorem ml_RX2_72 : ML RX2 72 yX2_spoilBy cX2_spoilBy 4 none 1 := ⟨tb_mem 1006 (by decide +kernel) (by decide +kernel), tb_mem 127 (by decide +kernel) (by decide +kernel), tb_mem 1009 (by decide +kernel) (by decide +kernel), by decide +kernel⟩
theorem mv_X2_spoilBy : yX2_spoilBy.cls = clC 2 ∧ Cond.instanceMethod yX2_spoilBy ∈ Tb ∧ Cond.selects (clC 2) yX2_spoilBy yX2_spoilBy ∈ Tb := ⟨rfl, tb_mem 1008 (by decide +kernel) (by decide +kernel), tb_mem 26 (by decide +kernel) (by decide +kernel)⟩
theorem ml_RX2_79 : ML RX2 79 yX2_passNight cX2_passNight 2 none 0 := ⟨tb_mem 1019 (by decide +kernel) (by decide +kernel), tb_mem 127 (by decide +kernel) (by decide +kernel), tb_mem 1022 (by decide +kernel) (by decide +kernel), by decide +kernel⟩
theorem mv_X2_passNight : yX2_passNight.cls = clC 2 ∧ Cond.instanceMethod yX2_passNight ∈ Tb ∧ Cond.selects (clC 2) yX2_passNight yX2_passNight ∈ Tb := ⟨rfl, tb_mem 1021 (by decide +kernel) (by decide +kernel), tb_mem 27 (by decide +kernel) (by decide +kernel)⟩
theorem fl_RX2_76 : FL RX2 76 1 12 := ⟨by decide, by decide, tb_mem 206 (by decide +kernel) (by decide +kernel)⟩
theorem fl_RX2_82 : FL RX2 82 1 13 := ⟨by decide, by decide, tb_mem 211 (by decide +kernel) (by decide +kernel)⟩
theorem ml_RX5_131 : ML RX5 131 yX1_talks cX1_talks 3 (some .boolean) 2 := ⟨tb_mem 1097 (by decide +kernel) (by decide +kernel), tb_mem 121 (by decide +kernel) (by decide +kernel), tb_mem 1013 (by decide +kernel) (by decide +kernel), by decide +kernel⟩
theorem ml_RX5_135 : ML RX5 135 yX3_spoils cX3_spoils 3 (some .int) 2 := ⟨tb_mem 1098 (by decide +kernel) (by decide +kernel), tb_mem 125 (by decide +kernel) (by decide +kernel), tb_mem 1017 (by decide +kernel) (by decide +kernel), by decide +kernel⟩
theorem fl_RX5_18 : FL RX5 18 5 6 := ⟨by decide, by decide, tb_mem 426 (by decide +kernel) (by decide +kernel)⟩
theorem fl_RX5_21 : FL RX5 21 5 7 := ⟨by decide, by decide, tb_mem 427 (by decide +kernel) (by decide +kernel)⟩
theorem fl_RX5_39 : FL RX5 39 5 2 := ⟨by decide, by decide, tb_mem 422 (by decide +kernel) (by decide +kernel)⟩
theorem fl_RX5_43 : FL RX5 43 5 3 := ⟨by decide, by decide, tb_mem 423 (by decide +kernel) (by decide +kernel)⟩
theorem fl_RX5_54 : FL RX5 54 1 0 := ⟨by decide, by decide, tb_mem 159 (by decide +kernel) (by decide +kernel)⟩
theorem fl_RX5_9 : FL RX5 9 5 4 := ⟨by decide, by decide, tb_mem 424 (by decide +kernel) (by decide +kernel)⟩
theorem ml_RX5_138 : ML RX5 138 yX3_bars cX3_bars 5 (some .boolean) 4 := ⟨tb_mem 1109 (by decide +kernel) (by decide +kernel), tb_mem 125 (by decide +kernel) (by decide +kernel), tb_mem 1112 (by decide +kernel) (by decide +kernel), by decide +kernel⟩
theorem mv_X3_bars : yX3_bars.cls = clC 3 ∧ Cond.instanceMethod yX3_bars ∈ Tb ∧ Cond.selects (clC 3) yX3_bars yX3_bars ∈ Tb := ⟨rfl, tb_mem 1110 (by decide +kernel) (by decide +kernel), tb_mem 1111 (by decide +kernel) (by decide +kernel)⟩
theorem fl_RX5_72 : FL RX5 72 1 8 := ⟨by decide, by decide, tb_mem 192 (by decide +kernel) (by decide +kernel)⟩
theorem ml_RX5_124 : ML RX5 124 yX3_takes cX3_takes 2 (some .int) 1 := ⟨tb_mem 1091 (by decide +kernel) (by decide +kernel), tb_mem 125 (by decide +kernel) (by decide +kernel), tb_mem 977 (by decide +kernel) (by decide +kernel), by decide +kernel⟩
theorem kc_RX5_130 : Cond.constant RX5 130 (1000000) ∈ Tb := tb_mem 1092 (by decide +kernel) (by decide +kernel)
theorem fl_RX5_127 : FL RX5 127 1 5 := ⟨by decide, by decide, tb_mem 184 (by decide +kernel) (by decide +kernel)⟩
theorem fl_RX5_63 : FL RX5 63 1 4 := ⟨by decide, by decide, tb_mem 177 (by decide +kernel) (by decide +kernel)⟩
theorem ml_RX5_59 : ML RX5 59 yX5_nightOf cX5_nightOf 2 (some .int) 1 := ⟨tb_mem 1087 (by decide +kernel) (by decide +kernel), tb_mem 128 (by decide +kernel) (by decide +kernel), tb_mem 1090 (by decide +kernel) (by decide +kernel), by decide +kernel⟩
theorem mv_X5_nightOf : yX5_nightOf.cls = clC 5 ∧ Cond.instanceMethod yX5_nightOf ∈ Tb ∧ Cond.selects (clC 5) yX5_nightOf yX5_nightOf ∈ Tb := ⟨rfl, tb_mem 1089 (by decide +kernel) (by decide +kernel), tb_mem 29 (by decide +kernel) (by decide +kernel)⟩
theorem ml_RX5_68 : ML RX5 68 yX5_askSpoils cX5_askSpoils 4 none 1 := ⟨tb_mem 1093 (by decide +kernel) (by decide +kernel), tb_mem 128 (by decide +kernel) (by decide +kernel), tb_mem 1096 (by decide +kernel) (by decide +kernel), by decide +kernel⟩
theorem mv_X5_askSpoils : yX5_askSpoils.cls = clC 5 ∧ Cond.instanceMethod yX5_askSpoils ∈ Tb ∧ Cond.selects (clC 5) yX5_askSpoils yX5_askSpoils ∈ Tb := ⟨rfl, tb_mem 1095 (by decide +kernel) (by decide +kernel), tb_mem 30 (by decide +kernel) (by decide +kernel)⟩
theorem ml_RX5_75 : ML RX5 75 yX1_fogOn cX1_fogOn 2 (some .int) 1 := ⟨tb_mem 1099 (by decide +kernel) (by decide +kernel), tb_mem 121 (by decide +kernel) (by decide +kernel), tb_mem 962 (by decide +kernel) (by decide +kernel), by decide +kernel⟩
theorem ml_RX5_78 : ML RX5 78 yX5_wanted cX5_wanted 1 (some .int) 1 := ⟨tb_mem 1100 (by decide +kernel) (by decide +kernel), tb_mem 128 (by decide +kernel) (by decide +kernel), tb_mem 1005 (by decide +kernel) (by decide +kernel), by decide +kernel⟩
theorem ml_RX5_81 : ML RX5 81 yX5_comeBy cX5_comeBy 4 (some .int) 1 := ⟨tb_mem 1101 (by decide +kernel) (by decide +kernel), tb_mem 128 (by decide +kernel) (by decide +kernel), tb_mem 1104 (by decide +kernel) (by decide +kernel), by decide +kernel⟩
theorem mv_X5_comeBy : yX5_comeBy.cls = clC 5 ∧ Cond.instanceMethod yX5_comeBy ∈ Tb ∧ Cond.selects (clC 5) yX5_comeBy yX5_comeBy ∈ Tb := ⟨rfl, tb_mem 1103 (by decide +kernel) (by decide +kernel), tb_mem 31 (by decide +kernel) (by decide +kernel)⟩
theorem ml_RX5_84 : ML RX5 84 yX5_freeOn cX5_freeOn 8 (some .int) 4 := ⟨tb_mem 1105 (by decide +kernel) (by decide +kernel), tb_mem 128 (by decide +kernel) (by decide +kernel), tb_mem 1108 (by decide +kernel) (by decide +kernel), by decide +kernel⟩
theorem mv_X5_freeOn : yX5_freeOn.cls = clC 5 ∧ Cond.instanceMethod yX5_freeOn ∈ Tb ∧ Cond.selects (clC 5) yX5_freeOn yX5_freeOn ∈ Tb := ⟨rfl, tb_mem 1107 (by decide +kernel) (by decide +kernel), tb_mem 32 (by decide +kernel) (by decide +kernel)⟩
theorem fl_RX5_24 : FL RX5 24 5 8 := ⟨by decide, by decide, tb_mem 428 (by decide +kernel) (by decide +kernel)⟩
theorem fl_RX5_27 : FL RX5 27 5 9 := ⟨by decide, by decide, tb_mem 429 (by decide +kernel) (by decide +kernel)⟩
theorem fl_RX5_30 : FL RX5 30 5 10 := ⟨by decide, by decide, tb_mem 430 (by decide +kernel) (by decide +kernel)⟩
theorem fl_RX5_33 : FL RX5 33 5 11 := ⟨by decide, by decide, tb_mem 431 (by decide +kernel) (by decide +kernel)⟩
theorem fl_RX5_47 : FL RX5 47 5 0 := ⟨by decide, by decide, tb_mem 416 (by decide +kernel) (by decide +kernel)⟩
theorem fl_RX5_51 : FL RX5 51 5 1 := ⟨by decide, by decide, tb_mem 420 (by decide +kernel) (by decide +kernel)⟩
theorem fl_RX5_66 : FL RX5 66 1 3 := ⟨by decide, by decide, tb_mem 170 (by decide +kernel) (by decide +kernel)⟩
theorem ml_RX5_88 : ML RX5 88 yX3_costs cX3_costs 2 (some .int) 1 := ⟨tb_mem 1194 (by decide +kernel) (by decide +kernel), tb_mem 125 (by decide +kernel) (by decide +kernel), tb_mem 954 (by decide +kernel) (by decide +kernel), by decide +kernel⟩
theorem fl_RX5_15 : FL RX5 15 5 5 := ⟨by decide, by decide, tb_mem 425 (by decide +kernel) (by decide +kernel)⟩
theorem fl_RX5_93 : FL RX5 93 1 2 := ⟨by decide, by decide, tb_mem 166 (by decide +kernel) (by decide +kernel)⟩
theorem mm_RX5_102 : MM RX5 102 Lib.Math.max.name Lib.Math.max.code := ⟨tb_mem 1153 (by decide +kernel) (by decide +kernel), tb_mem 819 (by decide +kernel) (by decide +kernel), tb_mem 132 (by decide +kernel) (by decide +kernel), tb_mem 820 (by decide +kernel) (by decide +kernel)⟩
theorem mm_RX5_96 : MM RX5 96 Lib.Math.min.name Lib.Math.min.code := ⟨tb_mem 1212 (by decide +kernel) (by decide +kernel), tb_mem 701 (by decide +kernel) (by decide +kernel), tb_mem 132 (by decide +kernel) (by decide +kernel), tb_mem 702 (by decide +kernel) (by decide +kernel)⟩
theorem ml_RX5_105 : ML RX5 105 yJ6_bitCount_0f7a4 cJ6_bitCount_0f7a4 1 (some .int) 1 := ⟨tb_mem 1147 (by decide +kernel) (by decide +kernel), tb_mem 140 (by decide +kernel) (by decide +kernel), tb_mem 1149 (by decide +kernel) (by decide +kernel), by decide +kernel⟩
theorem ml_RX5_148 : ML RX5 148 yX5_pick cX5_pick 7 none 3 := ⟨tb_mem 1162 (by decide +kernel) (by decide +kernel), tb_mem 128 (by decide +kernel) (by decide +kernel), tb_mem 1165 (by decide +kernel) (by decide +kernel), by decide +kernel⟩
theorem mv_X5_pick : yX5_pick.cls = clC 5 ∧ Cond.instanceMethod yX5_pick ∈ Tb ∧ Cond.selects (clC 5) yX5_pick yX5_pick ∈ Tb := ⟨rfl, tb_mem 1164 (by decide +kernel) (by decide +kernel), tb_mem 38 (by decide +kernel) (by decide +kernel)⟩
theorem fl_RX5_110 : FL RX5 110 5 15 := ⟨by decide, by decide, tb_mem 435 (by decide +kernel) (by decide +kernel)⟩
theorem fl_RX5_113 : FL RX5 113 5 16 := ⟨by decide, by decide, tb_mem 436 (by decide +kernel) (by decide +kernel)⟩
theorem fl_RX5_142 : FL RX5 142 5 13 := ⟨by decide, by decide, tb_mem 433 (by decide +kernel) (by decide +kernel)⟩
theorem fl_RX5_145 : FL RX5 145 5 14 := ⟨by decide, by decide, tb_mem 434 (by decide +kernel) (by decide +kernel)⟩
theorem fl_RX5_36 : FL RX5 36 5 12 := ⟨by decide, by decide, tb_mem 432 (by decide +kernel) (by decide +kernel)⟩
theorem ml_RX5_116 : ML RX5 116 yX5_fill cX5_fill 3 (some .int) 2 := ⟨tb_mem 1158 (by decide +kernel) (by decide +kernel), tb_mem 128 (by decide +kernel) (by decide +kernel), tb_mem 1161 (by decide +kernel) (by decide +kernel), by decide +kernel⟩
theorem mv_X5_fill : yX5_fill.cls = clC 5 ∧ Cond.instanceMethod yX5_fill ∈ Tb ∧ Cond.selects (clC 5) yX5_fill yX5_fill ∈ Tb := ⟨rfl, tb_mem 1160 (by decide +kernel) (by decide +kernel), tb_mem 37 (by decide +kernel) (by decide +kernel)⟩
theorem ml_RX5_120 : ML RX5 120 yX5_spoiled cX5_spoiled 8 (some .int) 3 := ⟨tb_mem 1301 (by decide +kernel) (by decide +kernel), tb_mem 128 (by decide +kernel) (by decide +kernel), tb_mem 1181 (by decide +kernel) (by decide +kernel), by decide +kernel⟩
theorem mv_X5_spoiled : yX5_spoiled.cls = clC 5 ∧ Cond.instanceMethod yX5_spoiled ∈ Tb ∧ Cond.selects (clC 5) yX5_spoiled yX5_spoiled ∈ Tb := ⟨rfl, tb_mem 1179 (by decide +kernel) (by decide +kernel), tb_mem 1180 (by decide +kernel) (by decide +kernel)⟩
theorem kc_RX5_119 : Cond.constant RX5 119 (1000003) ∈ Tb := tb_mem 1300 (by decide +kernel) (by decide +kernel)
theorem fl_RX6_26 : FL RX6 26 6 1 := ⟨by decide, by decide, tb_mem 311 (by decide +kernel) (by decide +kernel)⟩
theorem fl_RX6_9 : FL RX6 9 6 0 := ⟨by decide, by decide, tb_mem 309 (by decide +kernel) (by decide +kernel)⟩
theorem ml_RX6_160 : ML RX6 160 yX6_kindOf cX6_kindOf 1 (some .int) 1 := ⟨tb_mem 697 (by decide +kernel) (by decide +kernel), tb_mem 122 (by decide +kernel) (by decide +kernel), tb_mem 699 (by decide +kernel) (by decide +kernel), by decide +kernel⟩
theorem mv_X6_kindOf : Cond.static yX6_kindOf ∈ Tb := tb_mem 698 (by decide +kernel) (by decide +kernel)
theorem fl_RX6_101 : FL RX6 101 6 8 := ⟨by decide, by decide, tb_mem 321 (by decide +kernel) (by decide +kernel)⟩
theorem fl_RX6_40 : FL RX6 40 6 7 := ⟨by decide, by decide, tb_mem 320 (by decide +kernel) (by decide +kernel)⟩
theorem fl_RX6_50 : FL RX6 50 6 5 := ⟨by decide, by decide, tb_mem 318 (by decide +kernel) (by decide +kernel)⟩
theorem fl_RX6_61 : FL RX6 61 6 6 := ⟨by decide, by decide, tb_mem 319 (by decide +kernel) (by decide +kernel)⟩
theorem mm_RX6_163 : MM RX6 163 Lib.Math.min.name Lib.Math.min.code := ⟨tb_mem 700 (by decide +kernel) (by decide +kernel), tb_mem 701 (by decide +kernel) (by decide +kernel), tb_mem 132 (by decide +kernel) (by decide +kernel), tb_mem 702 (by decide +kernel) (by decide +kernel)⟩
theorem fl_RX6_22 : FL RX6 22 6 3 := ⟨by decide, by decide, tb_mem 315 (by decide +kernel) (by decide +kernel)⟩
theorem ml_RX6_136 : ML RX6 136 yX6_sign cX6_sign 1 (some .int) 0 := ⟨tb_mem 790 (by decide +kernel) (by decide +kernel), tb_mem 122 (by decide +kernel) (by decide +kernel), tb_mem 793 (by decide +kernel) (by decide +kernel), by decide +kernel⟩
theorem mv_X6_sign : yX6_sign.cls = clC 6 ∧ Cond.instanceMethod yX6_sign ∈ Tb ∧ Cond.selects (clC 6) yX6_sign yX6_sign ∈ Tb := ⟨rfl, tb_mem 792 (by decide +kernel) (by decide +kernel), tb_mem 13 (by decide +kernel) (by decide +kernel)⟩
theorem gl_RJ0_15 : GL RJ0 15 "java/lang/String" "coder" "B" := tb_mem 1975 (by decide +kernel) (by decide +kernel)
theorem gl_RJ0_38 : GL RJ0 38 "java/lang/String" "COMPACT_STRINGS" "Z" := tb_mem 721 (by decide +kernel) (by decide +kernel)
theorem ml_RJ0_335 : ML RJ0 335 yJ0_coder_7d493 cJ0_coder_7d493 1 (some .byte) 0 := ⟨tb_mem 717 (by decide +kernel) (by decide +kernel), tb_mem 133 (by decide +kernel) (by decide +kernel), tb_mem 720 (by decide +kernel) (by decide +kernel), by decide +kernel⟩
theorem mv_J0_coder_7d493 : yJ0_coder_7d493.cls = "java/lang/String" ∧ Cond.instanceMethod yJ0_coder_7d493 ∈ Tb ∧ Cond.selects "java/lang/String" yJ0_coder_7d493 yJ0_coder_7d493 ∈ Tb := ⟨rfl, tb_mem 718 (by decide +kernel) (by decide +kernel), tb_mem 719 (by decide +kernel) (by decide +kernel)⟩
theorem gl_RJ0_9 : GL RJ0 9 "java/lang/String" "value" "[B" := tb_mem 1974 (by decide +kernel) (by decide +kernel)
theorem ml_RJ0_1059 : ML RJ0 1059 yJ3_checkIndex_8e157 cJ3_checkIndex_8e157 3 (some .int) 3 := ⟨tb_mem 739 (by decide +kernel) (by decide +kernel), tb_mem 135 (by decide +kernel) (by decide +kernel), tb_mem 741 (by decide +kernel) (by decide +kernel), by decide +kernel⟩
theorem mv_J3_checkIndex_8e157 : Cond.static yJ3_checkIndex_8e157 ∈ Tb := tb_mem 740 (by decide +kernel) (by decide +kernel)
theorem gl_RJ0_1053 : GL RJ0 1053 "jdk/internal/util/Preconditions" "SIOOBE_FORMATTER" "Ljava/util/function/BiFunction;" := tb_mem 737 (by decide +kernel) (by decide +kernel)
theorem ml_RJ1_9 : ML RJ1 9 yJ0_checkIndex_df160 cJ0_checkIndex_df160 2 none 2 := ⟨tb_mem 734 (by decide +kernel) (by decide +kernel), tb_mem 133 (by decide +kernel) (by decide +kernel), tb_mem 736 (by decide +kernel) (by decide +kernel), by decide +kernel⟩
theorem mv_J0_checkIndex_df160 : Cond.static yJ0_checkIndex_df160 ∈ Tb := tb_mem 735 (by decide +kernel) (by decide +kernel)
theorem ml_RJ0_492 : ML RJ0 492 yJ0_isLatin1_aae02 cJ0_isLatin1_aae02 1 (some .boolean) 0 := ⟨tb_mem 727 (by decide +kernel) (by decide +kernel), tb_mem 133 (by decide +kernel) (by decide +kernel), tb_mem 730 (by decide +kernel) (by decide +kernel), by decide +kernel⟩
theorem mv_J0_isLatin1_aae02 : yJ0_isLatin1_aae02.cls = "java/lang/String" ∧ Cond.instanceMethod yJ0_isLatin1_aae02 ∈ Tb ∧ Cond.selects "java/lang/String" yJ0_isLatin1_aae02 yJ0_isLatin1_aae02 ∈ Tb := ⟨rfl, tb_mem 728 (by decide +kernel) (by decide +kernel), tb_mem 729 (by decide +kernel) (by decide +kernel)⟩
theorem ml_RJ0_495 : ML RJ0 495 yJ1_charAt_3b067 cJ1_charAt_3b067 2 (some .char) 2 := ⟨tb_mem 731 (by decide +kernel) (by decide +kernel), tb_mem 134 (by decide +kernel) (by decide +kernel), tb_mem 733 (by decide +kernel) (by decide +kernel), by decide +kernel⟩
theorem mv_J1_charAt_3b067 : Cond.static yJ1_charAt_3b067 ∈ Tb := tb_mem 732 (by decide +kernel) (by decide +kernel)
theorem ml_RX6_175 : ML RX6 175 yJ0_charAt_5068e cJ0_charAt_5068e 2 (some .char) 1 := ⟨tb_mem 723 (by decide +kernel) (by decide +kernel), tb_mem 133 (by decide +kernel) (by decide +kernel), tb_mem 726 (by decide +kernel) (by decide +kernel), by decide +kernel⟩
theorem mv_J0_charAt_5068e : yJ0_charAt_5068e.cls = "java/lang/String" ∧ Cond.instanceMethod yJ0_charAt_5068e ∈ Tb ∧ Cond.selects "java/lang/String" yJ0_charAt_5068e yJ0_charAt_5068e ∈ Tb := ⟨rfl, tb_mem 724 (by decide +kernel) (by decide +kernel), tb_mem 725 (by decide +kernel) (by decide +kernel)⟩
theorem ml_RX6_169 : ML RX6 169 yJ0_length_8abf5 cJ0_length_8abf5 1 (some .int) 0 := ⟨tb_mem 713 (by decide +kernel) (by decide +kernel), tb_mem 133 (by decide +kernel) (by decide +kernel), tb_mem 716 (by decide +kernel) (by decide +kernel), by decide +kernel⟩
theorem mv_J0_length_8abf5 : yJ0_length_8abf5.cls = "java/lang/String" ∧ Cond.instanceMethod yJ0_length_8abf5 ∈ Tb ∧ Cond.selects "java/lang/String" yJ0_length_8abf5 yJ0_length_8abf5 ∈ Tb := ⟨rfl, tb_mem 714 (by decide +kernel) (by decide +kernel), tb_mem 715 (by decide +kernel) (by decide +kernel)⟩
theorem ml_RX6_171 : ML RX6 171 yX6_isWithin cX6_isWithin 5 (some .boolean) 3 := ⟨tb_mem 761 (by decide +kernel) (by decide +kernel), tb_mem 122 (by decide +kernel) (by decide +kernel), tb_mem 764 (by decide +kernel) (by decide +kernel), by decide +kernel⟩
theorem mv_X6_isWithin : yX6_isWithin.cls = clC 6 ∧ Cond.instanceMethod yX6_isWithin ∈ Tb ∧ Cond.selects (clC 6) yX6_isWithin yX6_isWithin ∈ Tb := ⟨rfl, tb_mem 763 (by decide +kernel) (by decide +kernel), tb_mem 6 (by decide +kernel) (by decide +kernel)⟩
theorem ml_RJ1_88 : ML RJ1 88 yJ1_canEncode_9a6ad cJ1_canEncode_9a6ad 1 (some .boolean) 1 := ⟨tb_mem 815 (by decide +kernel) (by decide +kernel), tb_mem 134 (by decide +kernel) (by decide +kernel), tb_mem 817 (by decide +kernel) (by decide +kernel), by decide +kernel⟩
theorem mv_J1_canEncode_9a6ad : Cond.static yJ1_canEncode_9a6ad ∈ Tb := tb_mem 816 (by decide +kernel) (by decide +kernel)
theorem ml_RJ1_95 : ML RJ1 95 yJ1_indexOfChar_4cfef cJ1_indexOfChar_4cfef 6 (some .int) 4 := ⟨tb_mem 822 (by decide +kernel) (by decide +kernel), tb_mem 134 (by decide +kernel) (by decide +kernel), tb_mem 824 (by decide +kernel) (by decide +kernel), by decide +kernel⟩
theorem mv_J1_indexOfChar_4cfef : Cond.static yJ1_indexOfChar_4cfef ∈ Tb := tb_mem 823 (by decide +kernel) (by decide +kernel)
theorem mm_RJ1_38 : MM RJ1 38 Lib.Math.min.name Lib.Math.min.code := ⟨tb_mem 821 (by decide +kernel) (by decide +kernel), tb_mem 701 (by decide +kernel) (by decide +kernel), tb_mem 132 (by decide +kernel) (by decide +kernel), tb_mem 702 (by decide +kernel) (by decide +kernel)⟩
theorem mm_RJ1_92 : MM RJ1 92 Lib.Math.max.name Lib.Math.max.code := ⟨tb_mem 818 (by decide +kernel) (by decide +kernel), tb_mem 819 (by decide +kernel) (by decide +kernel), tb_mem 132 (by decide +kernel) (by decide +kernel), tb_mem 820 (by decide +kernel) (by decide +kernel)⟩
theorem ml_RJ0_505 : ML RJ0 505 yJ0_length_8abf5 cJ0_length_8abf5 1 (some .int) 0 := ⟨tb_mem 811 (by decide +kernel) (by decide +kernel), tb_mem 133 (by decide +kernel) (by decide +kernel), tb_mem 716 (by decide +kernel) (by decide +kernel), by decide +kernel⟩
theorem ml_RJ0_637 : ML RJ0 637 yJ1_indexOf_4cfef cJ1_indexOf_4cfef 4 (some .int) 4 := ⟨tb_mem 812 (by decide +kernel) (by decide +kernel), tb_mem 134 (by decide +kernel) (by decide +kernel), tb_mem 814 (by decide +kernel) (by decide +kernel), by decide +kernel⟩
theorem mv_J1_indexOf_4cfef : Cond.static yJ1_indexOf_4cfef ∈ Tb := tb_mem 813 (by decide +kernel) (by decide +kernel)
theorem ml_RJ0_633 : ML RJ0 633 yJ0_indexOf_7cf53 cJ0_indexOf_7cf53 3 (some .int) 2 := ⟨tb_mem 807 (by decide +kernel) (by decide +kernel), tb_mem 133 (by decide +kernel) (by decide +kernel), tb_mem 810 (by decide +kernel) (by decide +kernel), by decide +kernel⟩
theorem mv_J0_indexOf_7cf53 : yJ0_indexOf_7cf53.cls = "java/lang/String" ∧ Cond.instanceMethod yJ0_indexOf_7cf53 ∈ Tb ∧ Cond.selects "java/lang/String" yJ0_indexOf_7cf53 yJ0_indexOf_7cf53 ∈ Tb := ⟨rfl, tb_mem 808 (by decide +kernel) (by decide +kernel), tb_mem 809 (by decide +kernel) (by decide +kernel)⟩
theorem ml_RX6_140 : ML RX6 140 yJ0_indexOf_0f7a4 cJ0_indexOf_0f7a4 2 (some .int) 1 := ⟨tb_mem 803 (by decide +kernel) (by decide +kernel), tb_mem 133 (by decide +kernel) (by decide +kernel), tb_mem 806 (by decide +kernel) (by decide +kernel), by decide +kernel⟩
theorem mv_J0_indexOf_0f7a4 : yJ0_indexOf_0f7a4.cls = "java/lang/String" ∧ Cond.instanceMethod yJ0_indexOf_0f7a4 ∈ Tb ∧ Cond.selects "java/lang/String" yJ0_indexOf_0f7a4 yJ0_indexOf_0f7a4 ∈ Tb := ⟨rfl, tb_mem 804 (by decide +kernel) (by decide +kernel), tb_mem 805 (by decide +kernel) (by decide +kernel)⟩
theorem ml_RX6_89 : ML RX6 89 yX6_isWord cX6_isWord 2 (some .boolean) 1 := ⟨tb_mem 782 (by decide +kernel) (by decide +kernel), tb_mem 122 (by decide +kernel) (by decide +kernel), tb_mem 785 (by decide +kernel) (by decide +kernel), by decide +kernel⟩
theorem mv_X6_isWord : yX6_isWord.cls = clC 6 ∧ Cond.instanceMethod yX6_isWord ∈ Tb ∧ Cond.selects (clC 6) yX6_isWord yX6_isWord ∈ Tb := ⟨rfl, tb_mem 784 (by decide +kernel) (by decide +kernel), tb_mem 11 (by decide +kernel) (by decide +kernel)⟩
theorem fl_RX9_30 : FL RX9 30 9 6 := ⟨by decide, by decide, tb_mem 285 (by decide +kernel) (by decide +kernel)⟩
theorem fl_RX9_9 : FL RX9 9 9 0 := ⟨by decide, by decide, tb_mem 264 (by decide +kernel) (by decide +kernel)⟩
theorem ml_RX6_111 : ML RX6 111 yX9_add cX9_add 3 none 2 := ⟨tb_mem 860 (by decide +kernel) (by decide +kernel), tb_mem 123 (by decide +kernel) (by decide +kernel), tb_mem 863 (by decide +kernel) (by decide +kernel), by decide +kernel⟩
theorem mv_X9_add : yX9_add.cls = clC 9 ∧ Cond.instanceMethod yX9_add ∈ Tb ∧ Cond.selects (clC 9) yX9_add yX9_add ∈ Tb := ⟨rfl, tb_mem 861 (by decide +kernel) (by decide +kernel), tb_mem 862 (by decide +kernel) (by decide +kernel)⟩
theorem ml_RX6_43 : ML RX6 43 yX6_advance cX6_advance 1 none 0 := ⟨tb_mem 693 (by decide +kernel) (by decide +kernel), tb_mem 122 (by decide +kernel) (by decide +kernel), tb_mem 696 (by decide +kernel) (by decide +kernel), by decide +kernel⟩
theorem mv_X6_advance : yX6_advance.cls = clC 6 ∧ Cond.instanceMethod yX6_advance ∈ Tb ∧ Cond.selects (clC 6) yX6_advance yX6_advance ∈ Tb := ⟨rfl, tb_mem 695 (by decide +kernel) (by decide +kernel), tb_mem 3 (by decide +kernel) (by decide +kernel)⟩
theorem ml_RX6_57 : ML RX6 57 yX6_fail cX6_fail 1 (some .boolean) 0 := ⟨tb_mem 765 (by decide +kernel) (by decide +kernel), tb_mem 122 (by decide +kernel) (by decide +kernel), tb_mem 768 (by decide +kernel) (by decide +kernel), by decide +kernel⟩
theorem mv_X6_fail : yX6_fail.cls = clC 6 ∧ Cond.instanceMethod yX6_fail ∈ Tb ∧ Cond.selects (clC 6) yX6_fail yX6_fail ∈ Tb := ⟨rfl, tb_mem 767 (by decide +kernel) (by decide +kernel), tb_mem 7 (by decide +kernel) (by decide +kernel)⟩
theorem fl_RX6_18 : FL RX6 18 6 2 := ⟨by decide, by decide, tb_mem 313 (by decide +kernel) (by decide +kernel)⟩
theorem fl_RX6_29 : FL RX6 29 6 4 := ⟨by decide, by decide, tb_mem 317 (by decide +kernel) (by decide +kernel)⟩
theorem ml_RX6_104 : ML RX6 104 yX6_readLink cX6_readLink 3 (some .boolean) 2 := ⟨tb_mem 773 (by decide +kernel) (by decide +kernel), tb_mem 122 (by decide +kernel) (by decide +kernel), tb_mem 776 (by decide +kernel) (by decide +kernel), by decide +kernel⟩
theorem mv_X6_readLink : yX6_readLink.cls = clC 6 ∧ Cond.instanceMethod yX6_readLink ∈ Tb ∧ Cond.selects (clC 6) yX6_readLink yX6_readLink ∈ Tb := ⟨rfl, tb_mem 775 (by decide +kernel) (by decide +kernel), tb_mem 9 (by decide +kernel) (by decide +kernel)⟩
theorem ml_RX6_107 : ML RX6 107 yX6_joint cX6_joint 3 (some .int) 1 := ⟨tb_mem 874 (by decide +kernel) (by decide +kernel), tb_mem 122 (by decide +kernel) (by decide +kernel), tb_mem 877 (by decide +kernel) (by decide +kernel), by decide +kernel⟩
theorem mv_X6_joint : yX6_joint.cls = clC 6 ∧ Cond.instanceMethod yX6_joint ∈ Tb ∧ Cond.selects (clC 6) yX6_joint yX6_joint ∈ Tb := ⟨rfl, tb_mem 876 (by decide +kernel) (by decide +kernel), tb_mem 18 (by decide +kernel) (by decide +kernel)⟩
theorem ml_RX6_115 : ML RX6 115 yX9_replace cX9_replace 4 none 3 := ⟨tb_mem 882 (by decide +kernel) (by decide +kernel), tb_mem 123 (by decide +kernel) (by decide +kernel), tb_mem 885 (by decide +kernel) (by decide +kernel), by decide +kernel⟩
theorem mv_X9_replace : yX9_replace.cls = clC 9 ∧ Cond.instanceMethod yX9_replace ∈ Tb ∧ Cond.selects (clC 9) yX9_replace yX9_replace ∈ Tb := ⟨rfl, tb_mem 883 (by decide +kernel) (by decide +kernel), tb_mem 884 (by decide +kernel) (by decide +kernel)⟩
theorem ml_RX6_119 : ML RX6 119 yX6_readPlain cX6_readPlain 4 (some .boolean) 1 := ⟨tb_mem 777 (by decide +kernel) (by decide +kernel), tb_mem 122 (by decide +kernel) (by decide +kernel), tb_mem 780 (by decide +kernel) (by decide +kernel), by decide +kernel⟩
theorem mv_X6_readPlain : yX6_readPlain.cls = clC 6 ∧ Cond.instanceMethod yX6_readPlain ∈ Tb ∧ Cond.selects (clC 6) yX6_readPlain yX6_readPlain ∈ Tb := ⟨rfl, tb_mem 779 (by decide +kernel) (by decide +kernel), tb_mem 10 (by decide +kernel) (by decide +kernel)⟩
theorem ml_RX6_122 : ML RX6 122 yX6_readPart cX6_readPart 4 (some .boolean) 1 := ⟨tb_mem 864 (by decide +kernel) (by decide +kernel), tb_mem 122 (by decide +kernel) (by decide +kernel), tb_mem 867 (by decide +kernel) (by decide +kernel), by decide +kernel⟩
theorem mv_X6_readPart : yX6_readPart.cls = clC 6 ∧ Cond.instanceMethod yX6_readPart ∈ Tb ∧ Cond.selects (clC 6) yX6_readPart yX6_readPart ∈ Tb := ⟨rfl, tb_mem 866 (by decide +kernel) (by decide +kernel), tb_mem 16 (by decide +kernel) (by decide +kernel)⟩
theorem ml_RX6_127 : ML RX6 127 yX6_readBracket cX6_readBracket 4 (some .boolean) 3 := ⟨tb_mem 794 (by decide +kernel) (by decide +kernel), tb_mem 122 (by decide +kernel) (by decide +kernel), tb_mem 797 (by decide +kernel) (by decide +kernel), by decide +kernel⟩
theorem mv_X6_readBracket : yX6_readBracket.cls = clC 6 ∧ Cond.instanceMethod yX6_readBracket ∈ Tb ∧ Cond.selects (clC 6) yX6_readBracket yX6_readBracket ∈ Tb := ⟨rfl, tb_mem 796 (by decide +kernel) (by decide +kernel), tb_mem 14 (by decide +kernel) (by decide +kernel)⟩
theorem ml_RX6_131 : ML RX6 131 yX6_readComparison cX6_readComparison 3 (some .boolean) 1 := ⟨tb_mem 798 (by decide +kernel) (by decide +kernel), tb_mem 122 (by decide +kernel) (by decide +kernel), tb_mem 801 (by decide +kernel) (by decide +kernel), by decide +kernel⟩
theorem mv_X6_readComparison : yX6_readComparison.cls = clC 6 ∧ Cond.instanceMethod yX6_readComparison ∈ Tb ∧ Cond.selects (clC 6) yX6_readComparison yX6_readComparison ∈ Tb := ⟨rfl, tb_mem 800 (by decide +kernel) (by decide +kernel), tb_mem 15 (by decide +kernel) (by decide +kernel)⟩
theorem ml_RX6_149 : ML RX6 149 yX6_readWord cX6_readWord 2 (some .boolean) 1 := ⟨tb_mem 870 (by decide +kernel) (by decide +kernel), tb_mem 122 (by decide +kernel) (by decide +kernel), tb_mem 873 (by decide +kernel) (by decide +kernel), by decide +kernel⟩
theorem mv_X6_readWord : yX6_readWord.cls = clC 6 ∧ Cond.instanceMethod yX6_readWord ∈ Tb ∧ Cond.selects (clC 6) yX6_readWord yX6_readWord ∈ Tb := ⟨rfl, tb_mem 872 (by decide +kernel) (by decide +kernel), tb_mem 17 (by decide +kernel) (by decide +kernel)⟩
theorem ml_RX6_53 : ML RX6 53 yX6_isSign cX6_isSign 2 (some .boolean) 1 := ⟨tb_mem 786 (by decide +kernel) (by decide +kernel), tb_mem 122 (by decide +kernel) (by decide +kernel), tb_mem 789 (by decide +kernel) (by decide +kernel), by decide +kernel⟩
theorem mv_X6_isSign : yX6_isSign.cls = clC 6 ∧ Cond.instanceMethod yX6_isSign ∈ Tb ∧ Cond.selects (clC 6) yX6_isSign yX6_isSign ∈ Tb := ⟨rfl, tb_mem 788 (by decide +kernel) (by decide +kernel), tb_mem 12 (by decide +kernel) (by decide +kernel)⟩
theorem ml_RX6_68 : ML RX6 68 yX6_place cX6_place 5 (some .int) 1 := ⟨tb_mem 709 (by decide +kernel) (by decide +kernel), tb_mem 122 (by decide +kernel) (by decide +kernel), tb_mem 712 (by decide +kernel) (by decide +kernel), by decide +kernel⟩
theorem mv_X6_place : yX6_place.cls = clC 6 ∧ Cond.instanceMethod yX6_place ∈ Tb ∧ Cond.selects (clC 6) yX6_place yX6_place ∈ Tb := ⟨rfl, tb_mem 711 (by decide +kernel) (by decide +kernel), tb_mem 5 (by decide +kernel) (by decide +kernel)⟩
theorem ml_RX6_81 : ML RX6 81 yX6_readChain cX6_readChain 7 (some .boolean) 2 := ⟨tb_mem 769 (by decide +kernel) (by decide +kernel), tb_mem 122 (by decide +kernel) (by decide +kernel), tb_mem 772 (by decide +kernel) (by decide +kernel), by decide +kernel⟩
theorem mv_X6_readChain : yX6_readChain.cls = clC 6 ∧ Cond.instanceMethod yX6_readChain ∈ Tb ∧ Cond.selects (clC 6) yX6_readChain yX6_readChain ∈ Tb := ⟨rfl, tb_mem 771 (by decide +kernel) (by decide +kernel), tb_mem 8 (by decide +kernel) (by decide +kernel)⟩
theorem fl_RX6_33 : FL RX6 33 9 6 := ⟨by decide, by decide, tb_mem 287 (by decide +kernel) (by decide +kernel)⟩
theorem fl_RX6_37 : FL RX6 37 6 9 := ⟨by decide, by decide, tb_mem 322 (by decide +kernel) (by decide +kernel)⟩
theorem fl_RX6_75 : FL RX6 75 9 5 := ⟨by decide, by decide, tb_mem 284 (by decide +kernel) (by decide +kernel)⟩
theorem ml_RX6_93 : ML RX6 93 yX6_readTimes cX6_readTimes 2 (some .boolean) 1 := ⟨tb_mem 887 (by decide +kernel) (by decide +kernel), tb_mem 122 (by decide +kernel) (by decide +kernel), tb_mem 890 (by decide +kernel) (by decide +kernel), by decide +kernel⟩
theorem mv_X6_readTimes : yX6_readTimes.cls = clC 6 ∧ Cond.instanceMethod yX6_readTimes ∈ Tb ∧ Cond.selects (clC 6) yX6_readTimes yX6_readTimes ∈ Tb := ⟨rfl, tb_mem 889 (by decide +kernel) (by decide +kernel), tb_mem 19 (by decide +kernel) (by decide +kernel)⟩
theorem fl_RX6_34 : FL RX6 34 9 7 := ⟨by decide, by decide, tb_mem 290 (by decide +kernel) (by decide +kernel)⟩
theorem fl_RX6_72 : FL RX6 72 9 1 := ⟨by decide, by decide, tb_mem 268 (by decide +kernel) (by decide +kernel)⟩
theorem fl_RX6_78 : FL RX6 78 9 2 := ⟨by decide, by decide, tb_mem 272 (by decide +kernel) (by decide +kernel)⟩
theorem fl_RX6_85 : FL RX6 85 9 3 := ⟨by decide, by decide, tb_mem 276 (by decide +kernel) (by decide +kernel)⟩
theorem fl_RX6_98 : FL RX6 98 9 4 := ⟨by decide, by decide, tb_mem 280 (by decide +kernel) (by decide +kernel)⟩
theorem ml_RX6_46 : ML RX6 46 yX6_readClause cX6_readClause 3 (some .boolean) 1 := ⟨tb_mem 703 (by decide +kernel) (by decide +kernel), tb_mem 122 (by decide +kernel) (by decide +kernel), tb_mem 706 (by decide +kernel) (by decide +kernel), by decide +kernel⟩
theorem mv_X6_readClause : yX6_readClause.cls = clC 6 ∧ Cond.instanceMethod yX6_readClause ∈ Tb ∧ Cond.selects (clC 6) yX6_readClause yX6_readClause ∈ Tb := ⟨rfl, tb_mem 705 (by decide +kernel) (by decide +kernel), tb_mem 4 (by decide +kernel) (by decide +kernel)⟩
theorem ml_RX7_92 : ML RX7 92 yX1_has cX1_has 2 (some .boolean) 1 := ⟨tb_mem 933 (by decide +kernel) (by decide +kernel), tb_mem 121 (by decide +kernel) (by decide +kernel), tb_mem 633 (by decide +kernel) (by decide +kernel), by decide +kernel⟩
theorem ml_RX7_96 : ML RX7 96 yX1_worth cX1_worth 2 (some .int) 1 := ⟨tb_mem 934 (by decide +kernel) (by decide +kernel), tb_mem 121 (by decide +kernel) (by decide +kernel), tb_mem 641 (by decide +kernel) (by decide +kernel), by decide +kernel⟩
theorem fl_RX7_18 : FL RX7 18 7 3 := ⟨by decide, by decide, tb_mem 484 (by decide +kernel) (by decide +kernel)⟩
theorem fl_RX7_22 : FL RX7 22 7 1 := ⟨by decide, by decide, tb_mem 482 (by decide +kernel) (by decide +kernel)⟩
theorem fl_RX7_75 : FL RX7 75 0 0 := ⟨by decide, by decide, tb_mem 374 (by decide +kernel) (by decide +kernel)⟩
theorem fl_RX7_78 : FL RX7 78 1 8 := ⟨by decide, by decide, tb_mem 191 (by decide +kernel) (by decide +kernel)⟩
theorem fl_RX7_83 : FL RX7 83 1 12 := ⟨by decide, by decide, tb_mem 205 (by decide +kernel) (by decide +kernel)⟩
theorem fl_RX7_86 : FL RX7 86 1 13 := ⟨by decide, by decide, tb_mem 210 (by decide +kernel) (by decide +kernel)⟩
theorem fl_RX7_89 : FL RX7 89 1 14 := ⟨by decide, by decide, tb_mem 216 (by decide +kernel) (by decide +kernel)⟩
theorem fl_RX7_99 : FL RX7 99 1 4 := ⟨by decide, by decide, tb_mem 178 (by decide +kernel) (by decide +kernel)⟩
theorem ml_RX7_42 : ML RX7 42 yX7_setWords cX7_setWords 5 none 1 := ⟨tb_mem 929 (by decide +kernel) (by decide +kernel), tb_mem 129 (by decide +kernel) (by decide +kernel), tb_mem 932 (by decide +kernel) (by decide +kernel), by decide +kernel⟩
theorem mv_X7_setWords : yX7_setWords.cls = clC 7 ∧ Cond.instanceMethod yX7_setWords ∈ Tb ∧ Cond.selects (clC 7) yX7_setWords yX7_setWords ∈ Tb := ⟨rfl, tb_mem 931 (by decide +kernel) (by decide +kernel), tb_mem 20 (by decide +kernel) (by decide +kernel)⟩
theorem ml_RX7_49 : ML RX7 49 yX0_solve cX0_solve 12 (some .boolean) 3 := ⟨tb_mem 935 (by decide +kernel) (by decide +kernel), tb_mem 126 (by decide +kernel) (by decide +kernel), tb_mem 938 (by decide +kernel) (by decide +kernel), by decide +kernel⟩
theorem ml_RX7_62 : ML RX7 62 yX2_summon cX2_summon 4 (some .int) 1 := ⟨tb_mem 946 (by decide +kernel) (by decide +kernel), tb_mem 127 (by decide +kernel) (by decide +kernel), tb_mem 949 (by decide +kernel) (by decide +kernel), by decide +kernel⟩
theorem mv_X2_summon : yX2_summon.cls = clC 2 ∧ Cond.instanceMethod yX2_summon ∈ Tb ∧ Cond.selects (clC 2) yX2_summon yX2_summon ∈ Tb := ⟨rfl, tb_mem 947 (by decide +kernel) (by decide +kernel), tb_mem 948 (by decide +kernel) (by decide +kernel)⟩
theorem ml_RX7_68 : ML RX7 68 yX2_kindle cX2_kindle 5 (some .int) 1 := ⟨tb_mem 989 (by decide +kernel) (by decide +kernel), tb_mem 127 (by decide +kernel) (by decide +kernel), tb_mem 992 (by decide +kernel) (by decide +kernel), by decide +kernel⟩
theorem mv_X2_kindle : yX2_kindle.cls = clC 2 ∧ Cond.instanceMethod yX2_kindle ∈ Tb ∧ Cond.selects (clC 2) yX2_kindle yX2_kindle ∈ Tb := ⟨rfl, tb_mem 990 (by decide +kernel) (by decide +kernel), tb_mem 991 (by decide +kernel) (by decide +kernel)⟩
theorem ml_RX7_71 : ML RX7 71 yX2_idle cX2_idle 1 (some .int) 0 := ⟨tb_mem 1027 (by decide +kernel) (by decide +kernel), tb_mem 127 (by decide +kernel) (by decide +kernel), tb_mem 1030 (by decide +kernel) (by decide +kernel), by decide +kernel⟩
theorem mv_X2_idle : yX2_idle.cls = clC 2 ∧ Cond.instanceMethod yX2_idle ∈ Tb ∧ Cond.selects (clC 2) yX2_idle yX2_idle ∈ Tb := ⟨rfl, tb_mem 1028 (by decide +kernel) (by decide +kernel), tb_mem 1029 (by decide +kernel) (by decide +kernel)⟩
theorem fl_RX7_26 : FL RX7 26 7 2 := ⟨by decide, by decide, tb_mem 483 (by decide +kernel) (by decide +kernel)⟩
theorem fl_RX7_30 : FL RX7 30 9 7 := ⟨by decide, by decide, tb_mem 288 (by decide +kernel) (by decide +kernel)⟩
theorem fl_RX7_35 : FL RX7 35 9 3 := ⟨by decide, by decide, tb_mem 275 (by decide +kernel) (by decide +kernel)⟩
theorem fl_RX7_39 : FL RX7 39 9 5 := ⟨by decide, by decide, tb_mem 283 (by decide +kernel) (by decide +kernel)⟩
theorem fl_RX7_46 : FL RX7 46 9 4 := ⟨by decide, by decide, tb_mem 279 (by decide +kernel) (by decide +kernel)⟩
theorem fl_RX7_53 : FL RX7 53 0 1 := ⟨by decide, by decide, tb_mem 376 (by decide +kernel) (by decide +kernel)⟩
theorem fl_RX7_56 : FL RX7 56 9 2 := ⟨by decide, by decide, tb_mem 271 (by decide +kernel) (by decide +kernel)⟩
theorem fl_RX7_59 : FL RX7 59 9 1 := ⟨by decide, by decide, tb_mem 267 (by decide +kernel) (by decide +kernel)⟩
theorem fl_RX7_9 : FL RX7 9 7 0 := ⟨by decide, by decide, tb_mem 480 (by decide +kernel) (by decide +kernel)⟩
theorem fl_RX8_18 : FL RX8 18 8 4 := ⟨by decide, by decide, tb_mem 505 (by decide +kernel) (by decide +kernel)⟩
theorem fl_RX8_69 : FL RX8 69 8 16 := ⟨by decide, by decide, tb_mem 517 (by decide +kernel) (by decide +kernel)⟩
theorem fl_RX8_9 : FL RX8 9 8 2 := ⟨by decide, by decide, tb_mem 503 (by decide +kernel) (by decide +kernel)⟩
theorem ml_RX8_147 : ML RX8 147 yX5_priceOf cX5_priceOf 4 (some .int) 1 := ⟨tb_mem 1133 (by decide +kernel) (by decide +kernel), tb_mem 128 (by decide +kernel) (by decide +kernel), tb_mem 1136 (by decide +kernel) (by decide +kernel), by decide +kernel⟩
theorem mv_X5_priceOf : yX5_priceOf.cls = clC 5 ∧ Cond.instanceMethod yX5_priceOf ∈ Tb ∧ Cond.selects (clC 5) yX5_priceOf yX5_priceOf ∈ Tb := ⟨rfl, tb_mem 1134 (by decide +kernel) (by decide +kernel), tb_mem 1135 (by decide +kernel) (by decide +kernel)⟩
theorem ml_RX8_156 : ML RX8 156 yX5_nightsFrom cX5_nightsFrom 8 (some .int) 3 := ⟨tb_mem 1143 (by decide +kernel) (by decide +kernel), tb_mem 128 (by decide +kernel) (by decide +kernel), tb_mem 1146 (by decide +kernel) (by decide +kernel), by decide +kernel⟩
theorem mv_X5_nightsFrom : yX5_nightsFrom.cls = clC 5 ∧ Cond.instanceMethod yX5_nightsFrom ∈ Tb ∧ Cond.selects (clC 5) yX5_nightsFrom yX5_nightsFrom ∈ Tb := ⟨rfl, tb_mem 1144 (by decide +kernel) (by decide +kernel), tb_mem 1145 (by decide +kernel) (by decide +kernel)⟩
theorem fl_RX8_123 : FL RX8 123 8 10 := ⟨by decide, by decide, tb_mem 511 (by decide +kernel) (by decide +kernel)⟩
theorem fl_RX8_132 : FL RX8 132 8 12 := ⟨by decide, by decide, tb_mem 513 (by decide +kernel) (by decide +kernel)⟩
theorem fl_RX8_37 : FL RX8 37 8 1 := ⟨by decide, by decide, tb_mem 502 (by decide +kernel) (by decide +kernel)⟩
theorem fl_RX8_55 : FL RX8 55 8 13 := ⟨by decide, by decide, tb_mem 514 (by decide +kernel) (by decide +kernel)⟩
theorem fl_RX8_61 : FL RX8 61 8 14 := ⟨by decide, by decide, tb_mem 515 (by decide +kernel) (by decide +kernel)⟩
theorem fl_RX8_65 : FL RX8 65 8 15 := ⟨by decide, by decide, tb_mem 516 (by decide +kernel) (by decide +kernel)⟩
theorem kc_RX8_68 : Cond.constant RX8 68 (1000000) ∈ Tb := tb_mem 1137 (by decide +kernel) (by decide +kernel)
theorem mc_RX8_150 : MC RX8 150 := ⟨tb_mem 1138 (by decide +kernel) (by decide +kernel), tb_mem 909 (by decide +kernel) (by decide +kernel), tb_mem 908 (by decide +kernel) (by decide +kernel), tb_mem 139 (by decide +kernel) (by decide +kernel)⟩
theorem fl_RX8_21 : FL RX8 21 8 5 := ⟨by decide, by decide, tb_mem 506 (by decide +kernel) (by decide +kernel)⟩
theorem fl_RX8_24 : FL RX8 24 8 6 := ⟨by decide, by decide, tb_mem 507 (by decide +kernel) (by decide +kernel)⟩
theorem ml_RX8_112 : ML RX8 112 yX5_spoiled cX5_spoiled 8 (some .int) 3 := ⟨tb_mem 1178 (by decide +kernel) (by decide +kernel), tb_mem 128 (by decide +kernel) (by decide +kernel), tb_mem 1181 (by decide +kernel) (by decide +kernel), by decide +kernel⟩
theorem ml_RX8_116 : ML RX8 116 yX5_list cX5_list 4 (some .int) 3 := ⟨tb_mem 1154 (by decide +kernel) (by decide +kernel), tb_mem 128 (by decide +kernel) (by decide +kernel), tb_mem 1157 (by decide +kernel) (by decide +kernel), by decide +kernel⟩
theorem mv_X5_list : yX5_list.cls = clC 5 ∧ Cond.instanceMethod yX5_list ∈ Tb ∧ Cond.selects (clC 5) yX5_list yX5_list ∈ Tb := ⟨rfl, tb_mem 1155 (by decide +kernel) (by decide +kernel), tb_mem 1156 (by decide +kernel) (by decide +kernel)⟩
theorem ml_RX8_119 : ML RX8 119 yX5_crewAt cX5_crewAt 4 (some .int) 2 := ⟨tb_mem 1166 (by decide +kernel) (by decide +kernel), tb_mem 128 (by decide +kernel) (by decide +kernel), tb_mem 1169 (by decide +kernel) (by decide +kernel), by decide +kernel⟩
theorem mv_X5_crewAt : yX5_crewAt.cls = clC 5 ∧ Cond.instanceMethod yX5_crewAt ∈ Tb ∧ Cond.selects (clC 5) yX5_crewAt yX5_crewAt ∈ Tb := ⟨rfl, tb_mem 1167 (by decide +kernel) (by decide +kernel), tb_mem 1168 (by decide +kernel) (by decide +kernel)⟩
theorem ml_RX8_135 : ML RX8 135 yX8_note cX8_note 4 none 2 := ⟨tb_mem 1129 (by decide +kernel) (by decide +kernel), tb_mem 130 (by decide +kernel) (by decide +kernel), tb_mem 1132 (by decide +kernel) (by decide +kernel), by decide +kernel⟩
theorem mv_X8_note : yX8_note.cls = clC 8 ∧ Cond.instanceMethod yX8_note ∈ Tb ∧ Cond.selects (clC 8) yX8_note yX8_note ∈ Tb := ⟨rfl, tb_mem 1131 (by decide +kernel) (by decide +kernel), tb_mem 35 (by decide +kernel) (by decide +kernel)⟩
theorem ml_RX8_138 : ML RX8 138 yX8_isVain cX8_isVain 5 (some .boolean) 3 := ⟨tb_mem 1139 (by decide +kernel) (by decide +kernel), tb_mem 130 (by decide +kernel) (by decide +kernel), tb_mem 1142 (by decide +kernel) (by decide +kernel), by decide +kernel⟩
theorem mv_X8_isVain : yX8_isVain.cls = clC 8 ∧ Cond.instanceMethod yX8_isVain ∈ Tb ∧ Cond.selects (clC 8) yX8_isVain yX8_isVain ∈ Tb := ⟨rfl, tb_mem 1141 (by decide +kernel) (by decide +kernel), tb_mem 36 (by decide +kernel) (by decide +kernel)⟩
theorem ml_RX8_141 : ML RX8 141 yX5_landsOf cX5_landsOf 4 (some .int) 1 := ⟨tb_mem 1170 (by decide +kernel) (by decide +kernel), tb_mem 128 (by decide +kernel) (by decide +kernel), tb_mem 1173 (by decide +kernel) (by decide +kernel), by decide +kernel⟩
theorem mv_X5_landsOf : yX5_landsOf.cls = clC 5 ∧ Cond.instanceMethod yX5_landsOf ∈ Tb ∧ Cond.selects (clC 5) yX5_landsOf yX5_landsOf ∈ Tb := ⟨rfl, tb_mem 1171 (by decide +kernel) (by decide +kernel), tb_mem 1172 (by decide +kernel) (by decide +kernel)⟩
theorem ml_RX8_144 : ML RX8 144 yX8_isSeen cX8_isSeen 8 (some .boolean) 3 := ⟨tb_mem 1174 (by decide +kernel) (by decide +kernel), tb_mem 130 (by decide +kernel) (by decide +kernel), tb_mem 1177 (by decide +kernel) (by decide +kernel), by decide +kernel⟩
theorem mv_X8_isSeen : yX8_isSeen.cls = clC 8 ∧ Cond.instanceMethod yX8_isSeen ∈ Tb ∧ Cond.selects (clC 8) yX8_isSeen yX8_isSeen ∈ Tb := ⟨rfl, tb_mem 1176 (by decide +kernel) (by decide +kernel), tb_mem 39 (by decide +kernel) (by decide +kernel)⟩
theorem ml_RX8_51 : ML RX8 51 yX8_climb cX8_climb 9 none 4 := ⟨tb_mem 1125 (by decide +kernel) (by decide +kernel), tb_mem 130 (by decide +kernel) (by decide +kernel), tb_mem 1128 (by decide +kernel) (by decide +kernel), by decide +kernel⟩
theorem mv_X8_climb : yX8_climb.cls = clC 8 ∧ Cond.instanceMethod yX8_climb ∈ Tb ∧ Cond.selects (clC 8) yX8_climb yX8_climb ∈ Tb := ⟨rfl, tb_mem 1127 (by decide +kernel) (by decide +kernel), tb_mem 34 (by decide +kernel) (by decide +kernel)⟩
theorem fl_RX8_124 : FL RX8 124 8 11 := ⟨by decide, by decide, tb_mem 512 (by decide +kernel) (by decide +kernel)⟩
theorem ml_RX8_72 : ML RX8 72 yJ7_fill_53178 cJ7_fill_53178 4 none 2 := ⟨tb_mem 1122 (by decide +kernel) (by decide +kernel), tb_mem 138 (by decide +kernel) (by decide +kernel), tb_mem 1124 (by decide +kernel) (by decide +kernel), by decide +kernel⟩
theorem mv_J7_fill_53178 : Cond.static yJ7_fill_53178 ∈ Tb := tb_mem 1123 (by decide +kernel) (by decide +kernel)
theorem mm_RX8_127 : MM RX8 127 Lib.Math.min.name Lib.Math.min.code := ⟨tb_mem 1121 (by decide +kernel) (by decide +kernel), tb_mem 701 (by decide +kernel) (by decide +kernel), tb_mem 132 (by decide +kernel) (by decide +kernel), tb_mem 702 (by decide +kernel) (by decide +kernel)⟩
theorem ml_RX8_41 : ML RX8 41 yX8_set cX8_set 4 none 3 := ⟨tb_mem 1117 (by decide +kernel) (by decide +kernel), tb_mem 130 (by decide +kernel) (by decide +kernel), tb_mem 1120 (by decide +kernel) (by decide +kernel), by decide +kernel⟩
theorem mv_X8_set : yX8_set.cls = clC 8 ∧ Cond.instanceMethod yX8_set ∈ Tb ∧ Cond.selects (clC 8) yX8_set yX8_set ∈ Tb := ⟨rfl, tb_mem 1119 (by decide +kernel) (by decide +kernel), tb_mem 33 (by decide +kernel) (by decide +kernel)⟩
theorem fl_RX8_45 : FL RX8 45 5 1 := ⟨by decide, by decide, tb_mem 419 (by decide +kernel) (by decide +kernel)⟩
theorem fl_RX8_58 : FL RX8 58 5 0 := ⟨by decide, by decide, tb_mem 417 (by decide +kernel) (by decide +kernel)⟩
theorem fl_RX8_27 : FL RX8 27 8 7 := ⟨by decide, by decide, tb_mem 508 (by decide +kernel) (by decide +kernel)⟩
theorem mm_RX8_162 : MM RX8 162 Lib.Math.max.name Lib.Math.max.code := ⟨tb_mem 1237 (by decide +kernel) (by decide +kernel), tb_mem 819 (by decide +kernel) (by decide +kernel), tb_mem 132 (by decide +kernel) (by decide +kernel), tb_mem 820 (by decide +kernel) (by decide +kernel)⟩
theorem ml_RX8_159 : ML RX8 159 yX8_tellLate cX8_tellLate 4 none 2 := ⟨tb_mem 1233 (by decide +kernel) (by decide +kernel), tb_mem 130 (by decide +kernel) (by decide +kernel), tb_mem 1236 (by decide +kernel) (by decide +kernel), by decide +kernel⟩
theorem mv_X8_tellLate : yX8_tellLate.cls = clC 8 ∧ Cond.instanceMethod yX8_tellLate ∈ Tb ∧ Cond.selects (clC 8) yX8_tellLate yX8_tellLate ∈ Tb := ⟨rfl, tb_mem 1235 (by decide +kernel) (by decide +kernel), tb_mem 42 (by decide +kernel) (by decide +kernel)⟩
theorem ml_RX8_82 : ML RX8 82 yX8_trace cX8_trace 8 (some .boolean) 3 := ⟨tb_mem 1229 (by decide +kernel) (by decide +kernel), tb_mem 130 (by decide +kernel) (by decide +kernel), tb_mem 1232 (by decide +kernel) (by decide +kernel), by decide +kernel⟩
theorem mv_X8_trace : yX8_trace.cls = clC 8 ∧ Cond.instanceMethod yX8_trace ∈ Tb ∧ Cond.selects (clC 8) yX8_trace yX8_trace ∈ Tb := ⟨rfl, tb_mem 1231 (by decide +kernel) (by decide +kernel), tb_mem 41 (by decide +kernel) (by decide +kernel)⟩
theorem fl_RX8_15 : FL RX8 15 8 3 := ⟨by decide, by decide, tb_mem 504 (by decide +kernel) (by decide +kernel)⟩
theorem ml_RX8_78 : ML RX8 78 yX8_longest cX8_longest 2 (some .int) 1 := ⟨tb_mem 1228 (by decide +kernel) (by decide +kernel), tb_mem 130 (by decide +kernel) (by decide +kernel), tb_mem 1116 (by decide +kernel) (by decide +kernel), by decide +kernel⟩
theorem mv_X8_longest : yX8_longest.cls = clC 8 ∧ Cond.instanceMethod yX8_longest ∈ Tb ∧ Cond.selects (clC 8) yX8_longest yX8_longest ∈ Tb := ⟨rfl, tb_mem 1114 (by decide +kernel) (by decide +kernel), tb_mem 1115 (by decide +kernel) (by decide +kernel)⟩
theorem ml_RX8_86 : ML RX8 86 yX5_thoseWhoMatter cX5_thoseWhoMatter 4 (some .int) 0 := ⟨tb_mem 1278 (by decide +kernel) (by decide +kernel), tb_mem 128 (by decide +kernel) (by decide +kernel), tb_mem 1281 (by decide +kernel) (by decide +kernel), by decide +kernel⟩
theorem mv_X5_thoseWhoMatter : yX5_thoseWhoMatter.cls = clC 5 ∧ Cond.instanceMethod yX5_thoseWhoMatter ∈ Tb ∧ Cond.selects (clC 5) yX5_thoseWhoMatter yX5_thoseWhoMatter ∈ Tb := ⟨rfl, tb_mem 1279 (by decide +kernel) (by decide +kernel), tb_mem 1280 (by decide +kernel) (by decide +kernel)⟩
theorem ml_RX8_90 : ML RX8 90 yX5_sets cX5_sets 1 (some .int) 0 := ⟨tb_mem 1208 (by decide +kernel) (by decide +kernel), tb_mem 128 (by decide +kernel) (by decide +kernel), tb_mem 1211 (by decide +kernel) (by decide +kernel), by decide +kernel⟩
theorem mv_X5_sets : yX5_sets.cls = clC 5 ∧ Cond.instanceMethod yX5_sets ∈ Tb ∧ Cond.selects (clC 5) yX5_sets yX5_sets ∈ Tb := ⟨rfl, tb_mem 1209 (by decide +kernel) (by decide +kernel), tb_mem 1210 (by decide +kernel) (by decide +kernel)⟩
theorem ml_RX8_93 : ML RX8 93 yJ6_bitCount_0f7a4 cJ6_bitCount_0f7a4 1 (some .int) 1 := ⟨tb_mem 1282 (by decide +kernel) (by decide +kernel), tb_mem 140 (by decide +kernel) (by decide +kernel), tb_mem 1149 (by decide +kernel) (by decide +kernel), by decide +kernel⟩
theorem ml_RX8_98 : ML RX8 98 yX8_canReach cX8_canReach 3 (some .boolean) 2 := ⟨tb_mem 1283 (by decide +kernel) (by decide +kernel), tb_mem 130 (by decide +kernel) (by decide +kernel), tb_mem 1286 (by decide +kernel) (by decide +kernel), by decide +kernel⟩
theorem mv_X8_canReach : yX8_canReach.cls = clC 8 ∧ Cond.instanceMethod yX8_canReach ∈ Tb ∧ Cond.selects (clC 8) yX8_canReach yX8_canReach ∈ Tb := ⟨rfl, tb_mem 1285 (by decide +kernel) (by decide +kernel), tb_mem 43 (by decide +kernel) (by decide +kernel)⟩
theorem fl_RX8_102 : FL RX8 102 8 0 := ⟨by decide, by decide, tb_mem 500 (by decide +kernel) (by decide +kernel)⟩
theorem fl_RX8_30 : FL RX8 30 8 8 := ⟨by decide, by decide, tb_mem 509 (by decide +kernel) (by decide +kernel)⟩
theorem fl_RX8_34 : FL RX8 34 8 9 := ⟨by decide, by decide, tb_mem 510 (by decide +kernel) (by decide +kernel)⟩
theorem ml_RX8_105 : ML RX8 105 yJ7_fill_d0a16 cJ7_fill_d0a16 5 none 2 := ⟨tb_mem 1213 (by decide +kernel) (by decide +kernel), tb_mem 138 (by decide +kernel) (by decide +kernel), tb_mem 1215 (by decide +kernel) (by decide +kernel), by decide +kernel⟩
theorem mv_J7_fill_d0a16 : Cond.static yJ7_fill_d0a16 ∈ Tb := tb_mem 1214 (by decide +kernel) (by decide +kernel)
theorem ml_RX8_108 : ML RX8 108 yX8_spread cX8_spread 5 none 2 := ⟨tb_mem 1216 (by decide +kernel) (by decide +kernel), tb_mem 130 (by decide +kernel) (by decide +kernel), tb_mem 1219 (by decide +kernel) (by decide +kernel), by decide +kernel⟩
theorem mv_X8_spread : yX8_spread.cls = clC 8 ∧ Cond.instanceMethod yX8_spread ∈ Tb ∧ Cond.selects (clC 8) yX8_spread yX8_spread ∈ Tb := ⟨rfl, tb_mem 1218 (by decide +kernel) (by decide +kernel), tb_mem 40 (by decide +kernel) (by decide +kernel)⟩
theorem fl_RX10_320 : FL RX10 320 10 14 := ⟨by decide, by decide, tb_mem 568 (by decide +kernel) (by decide +kernel)⟩
theorem fl_RX10_38 : FL RX10 38 10 15 := ⟨by decide, by decide, tb_mem 569 (by decide +kernel) (by decide +kernel)⟩
theorem ml_RX10_104 : ML RX10 104 yX4_clear cX4_clear 1 none 0 := ⟨tb_mem 614 (by decide +kernel) (by decide +kernel), tb_mem 124 (by decide +kernel) (by decide +kernel), tb_mem 617 (by decide +kernel) (by decide +kernel), by decide +kernel⟩
theorem mv_X4_clear : yX4_clear.cls = clC 4 ∧ Cond.instanceMethod yX4_clear ∈ Tb ∧ Cond.selects (clC 4) yX4_clear yX4_clear ∈ Tb := ⟨rfl, tb_mem 615 (by decide +kernel) (by decide +kernel), tb_mem 616 (by decide +kernel) (by decide +kernel)⟩
theorem ml_RX10_107 : ML RX10 107 yX1_join cX1_join 4 (some .int) 3 := ⟨tb_mem 618 (by decide +kernel) (by decide +kernel), tb_mem 121 (by decide +kernel) (by decide +kernel), tb_mem 621 (by decide +kernel) (by decide +kernel), by decide +kernel⟩
theorem mv_X1_join : yX1_join.cls = clC 1 ∧ Cond.instanceMethod yX1_join ∈ Tb ∧ Cond.selects (clC 1) yX1_join yX1_join ∈ Tb := ⟨rfl, tb_mem 619 (by decide +kernel) (by decide +kernel), tb_mem 620 (by decide +kernel) (by decide +kernel)⟩
theorem ml_RX10_111 : ML RX10 111 yX10_accept cX10_accept 2 (some .int) 1 := ⟨tb_mem 622 (by decide +kernel) (by decide +kernel), tb_mem 120 (by decide +kernel) (by decide +kernel), tb_mem 625 (by decide +kernel) (by decide +kernel), by decide +kernel⟩
theorem mv_X10_accept : yX10_accept.cls = clC 10 ∧ Cond.instanceMethod yX10_accept ∈ Tb ∧ Cond.selects (clC 10) yX10_accept yX10_accept ∈ Tb := ⟨rfl, tb_mem 624 (by decide +kernel) (by decide +kernel), tb_mem 1 (by decide +kernel) (by decide +kernel)⟩
theorem ml_RX10_92 : ML RX10 92 yX10_canBe cX10_canBe 3 (some .boolean) 3 := ⟨tb_mem 607 (by decide +kernel) (by decide +kernel), tb_mem 120 (by decide +kernel) (by decide +kernel), tb_mem 609 (by decide +kernel) (by decide +kernel), by decide +kernel⟩
theorem mv_X10_canBe : Cond.static yX10_canBe ∈ Tb := tb_mem 608 (by decide +kernel) (by decide +kernel)
theorem ml_RX10_96 : ML RX10 96 yX10_refuse cX10_refuse 2 (some .int) 1 := ⟨tb_mem 610 (by decide +kernel) (by decide +kernel), tb_mem 120 (by decide +kernel) (by decide +kernel), tb_mem 613 (by decide +kernel) (by decide +kernel), by decide +kernel⟩
theorem mv_X10_refuse : yX10_refuse.cls = clC 10 ∧ Cond.instanceMethod yX10_refuse ∈ Tb ∧ Cond.selects (clC 10) yX10_refuse yX10_refuse ∈ Tb := ⟨rfl, tb_mem 612 (by decide +kernel) (by decide +kernel), tb_mem 0 (by decide +kernel) (by decide +kernel)⟩
theorem fl_RX10_100 : FL RX10 100 1 0 := ⟨by decide, by decide, tb_mem 158 (by decide +kernel) (by decide +kernel)⟩
theorem fl_RX10_56 : FL RX10 56 10 0 := ⟨by decide, by decide, tb_mem 554 (by decide +kernel) (by decide +kernel)⟩
theorem fl_RX10_63 : FL RX10 63 10 5 := ⟨by decide, by decide, tb_mem 559 (by decide +kernel) (by decide +kernel)⟩
theorem ml_RX10_114 : ML RX10 114 yX1_has cX1_has 2 (some .boolean) 1 := ⟨tb_mem 630 (by decide +kernel) (by decide +kernel), tb_mem 121 (by decide +kernel) (by decide +kernel), tb_mem 633 (by decide +kernel) (by decide +kernel), by decide +kernel⟩
theorem fl_RX10_118 : FL RX10 118 1 4 := ⟨by decide, by decide, tb_mem 176 (by decide +kernel) (by decide +kernel)⟩
theorem fl_RX10_121 : FL RX10 121 1 3 := ⟨by decide, by decide, tb_mem 169 (by decide +kernel) (by decide +kernel)⟩
theorem ml_RX10_133 : ML RX10 133 yX1_worth cX1_worth 2 (some .int) 1 := ⟨tb_mem 638 (by decide +kernel) (by decide +kernel), tb_mem 121 (by decide +kernel) (by decide +kernel), tb_mem 641 (by decide +kernel) (by decide +kernel), by decide +kernel⟩
theorem fl_RX10_124 : FL RX10 124 1 1 := ⟨by decide, by decide, tb_mem 163 (by decide +kernel) (by decide +kernel)⟩
theorem fl_RX10_127 : FL RX10 127 1 2 := ⟨by decide, by decide, tb_mem 165 (by decide +kernel) (by decide +kernel)⟩
theorem fl_RX10_130 : FL RX10 130 1 5 := ⟨by decide, by decide, tb_mem 182 (by decide +kernel) (by decide +kernel)⟩
theorem fl_RX10_136 : FL RX10 136 1 6 := ⟨by decide, by decide, tb_mem 186 (by decide +kernel) (by decide +kernel)⟩
theorem fl_RX10_139 : FL RX10 139 1 7 := ⟨by decide, by decide, tb_mem 188 (by decide +kernel) (by decide +kernel)⟩
theorem ml_RX10_142 : ML RX10 142 yX10_mostOfTerm cX10_mostOfTerm 1 (some .int) 1 := ⟨tb_mem 654 (by decide +kernel) (by decide +kernel), tb_mem 120 (by decide +kernel) (by decide +kernel), tb_mem 656 (by decide +kernel) (by decide +kernel), by decide +kernel⟩
theorem mv_X10_mostOfTerm : Cond.static yX10_mostOfTerm ∈ Tb := tb_mem 655 (by decide +kernel) (by decide +kernel)
theorem ml_RX10_145 : ML RX10 145 yX1_anyOnRoad cX1_anyOnRoad 2 (some .boolean) 0 := ⟨tb_mem 657 (by decide +kernel) (by decide +kernel), tb_mem 121 (by decide +kernel) (by decide +kernel), tb_mem 660 (by decide +kernel) (by decide +kernel), by decide +kernel⟩
theorem mv_X1_anyOnRoad : yX1_anyOnRoad.cls = clC 1 ∧ Cond.instanceMethod yX1_anyOnRoad ∈ Tb ∧ Cond.selects (clC 1) yX1_anyOnRoad yX1_anyOnRoad ∈ Tb := ⟨rfl, tb_mem 658 (by decide +kernel) (by decide +kernel), tb_mem 659 (by decide +kernel) (by decide +kernel)⟩
theorem fl_RX10_149 : FL RX10 149 1 8 := ⟨by decide, by decide, tb_mem 194 (by decide +kernel) (by decide +kernel)⟩
theorem ml_RX10_155 : ML RX10 155 yX6_append cX6_append 3 none 1 := ⟨tb_mem 665 (by decide +kernel) (by decide +kernel), tb_mem 122 (by decide +kernel) (by decide +kernel), tb_mem 668 (by decide +kernel) (by decide +kernel), by decide +kernel⟩
theorem mv_X6_append : yX6_append.cls = clC 6 ∧ Cond.instanceMethod yX6_append ∈ Tb ∧ Cond.selects (clC 6) yX6_append yX6_append ∈ Tb := ⟨rfl, tb_mem 666 (by decide +kernel) (by decide +kernel), tb_mem 667 (by decide +kernel) (by decide +kernel)⟩
theorem fl_RX10_152 : FL RX10 152 6 1 := ⟨by decide, by decide, tb_mem 312 (by decide +kernel) (by decide +kernel)⟩
theorem fl_RX10_23 : FL RX10 23 10 3 := ⟨by decide, by decide, tb_mem 557 (by decide +kernel) (by decide +kernel)⟩
theorem ml_RX10_162 : ML RX10 162 yX10_joins cX10_joins 4 (some .boolean) 3 := ⟨tb_mem 677 (by decide +kernel) (by decide +kernel), tb_mem 120 (by decide +kernel) (by decide +kernel), tb_mem 680 (by decide +kernel) (by decide +kernel), by decide +kernel⟩
theorem mv_X10_joins : yX10_joins.cls = clC 10 ∧ Cond.instanceMethod yX10_joins ∈ Tb ∧ Cond.selects (clC 10) yX10_joins yX10_joins ∈ Tb := ⟨rfl, tb_mem 679 (by decide +kernel) (by decide +kernel), tb_mem 2 (by decide +kernel) (by decide +kernel)⟩
theorem fl_RX10_159 : FL RX10 159 6 0 := ⟨by decide, by decide, tb_mem 310 (by decide +kernel) (by decide +kernel)⟩
theorem fl_RX10_165 : FL RX10 165 10 13 := ⟨by decide, by decide, tb_mem 567 (by decide +kernel) (by decide +kernel)⟩
theorem ml_RX10_171 : ML RX10 171 yX6_read cX6_read 3 (some .boolean) 1 := ⟨tb_mem 689 (by decide +kernel) (by decide +kernel), tb_mem 122 (by decide +kernel) (by decide +kernel), tb_mem 692 (by decide +kernel) (by decide +kernel), by decide +kernel⟩
theorem mv_X6_read : yX6_read.cls = clC 6 ∧ Cond.instanceMethod yX6_read ∈ Tb ∧ Cond.selects (clC 6) yX6_read yX6_read ∈ Tb := ⟨rfl, tb_mem 690 (by decide +kernel) (by decide +kernel), tb_mem 691 (by decide +kernel) (by decide +kernel)⟩
theorem ml_RX10_191 : ML RX10 191 yX1_copyFrom cX1_copyFrom 3 none 1 := ⟨tb_mem 915 (by decide +kernel) (by decide +kernel), tb_mem 121 (by decide +kernel) (by decide +kernel), tb_mem 918 (by decide +kernel) (by decide +kernel), by decide +kernel⟩
theorem mv_X1_copyFrom : yX1_copyFrom.cls = clC 1 ∧ Cond.instanceMethod yX1_copyFrom ∈ Tb ∧ Cond.selects (clC 1) yX1_copyFrom yX1_copyFrom ∈ Tb := ⟨rfl, tb_mem 916 (by decide +kernel) (by decide +kernel), tb_mem 917 (by decide +kernel) (by decide +kernel)⟩
theorem ml_RX10_194 : ML RX10 194 yX4_copyFrom cX4_copyFrom 2 none 1 := ⟨tb_mem 920 (by decide +kernel) (by decide +kernel), tb_mem 124 (by decide +kernel) (by decide +kernel), tb_mem 923 (by decide +kernel) (by decide +kernel), by decide +kernel⟩
theorem mv_X4_copyFrom : yX4_copyFrom.cls = clC 4 ∧ Cond.instanceMethod yX4_copyFrom ∈ Tb ∧ Cond.selects (clC 4) yX4_copyFrom yX4_copyFrom ∈ Tb := ⟨rfl, tb_mem 921 (by decide +kernel) (by decide +kernel), tb_mem 922 (by decide +kernel) (by decide +kernel)⟩
theorem ml_RX10_197 : ML RX10 197 yX7_run cX7_run 8 (some .int) 1 := ⟨tb_mem 925 (by decide +kernel) (by decide +kernel), tb_mem 129 (by decide +kernel) (by decide +kernel), tb_mem 928 (by decide +kernel) (by decide +kernel), by decide +kernel⟩
theorem mv_X7_run : yX7_run.cls = clC 7 ∧ Cond.instanceMethod yX7_run ∈ Tb ∧ Cond.selects (clC 7) yX7_run yX7_run ∈ Tb := ⟨rfl, tb_mem 926 (by decide +kernel) (by decide +kernel), tb_mem 927 (by decide +kernel) (by decide +kernel)⟩
theorem fl_RX10_12 : FL RX10 12 10 1 := ⟨by decide, by decide, tb_mem 555 (by decide +kernel) (by decide +kernel)⟩
theorem fl_RX10_181 : FL RX10 181 6 2 := ⟨by decide, by decide, tb_mem 314 (by decide +kernel) (by decide +kernel)⟩
theorem fl_RX10_188 : FL RX10 188 7 0 := ⟨by decide, by decide, tb_mem 481 (by decide +kernel) (by decide +kernel)⟩
theorem fl_RX10_30 : FL RX10 30 10 6 := ⟨by decide, by decide, tb_mem 560 (by decide +kernel) (by decide +kernel)⟩
theorem fl_RX10_75 : FL RX10 75 10 8 := ⟨by decide, by decide, tb_mem 562 (by decide +kernel) (by decide +kernel)⟩
theorem fl_RX10_201 : FL RX10 201 6 3 := ⟨by decide, by decide, tb_mem 316 (by decide +kernel) (by decide +kernel)⟩
theorem fl_RX10_168 : FL RX10 168 1 10 := ⟨by decide, by decide, tb_mem 200 (by decide +kernel) (by decide +kernel)⟩
theorem fl_RX10_204 : FL RX10 204 1 11 := ⟨by decide, by decide, tb_mem 203 (by decide +kernel) (by decide +kernel)⟩
theorem ml_RX10_207 : ML RX10 207 yX3_takes cX3_takes 2 (some .int) 1 := ⟨tb_mem 1047 (by decide +kernel) (by decide +kernel), tb_mem 125 (by decide +kernel) (by decide +kernel), tb_mem 977 (by decide +kernel) (by decide +kernel), by decide +kernel⟩
theorem ml_RX10_210 : ML RX10 210 yX3_costs cX3_costs 2 (some .int) 1 := ⟨tb_mem 1048 (by decide +kernel) (by decide +kernel), tb_mem 125 (by decide +kernel) (by decide +kernel), tb_mem 954 (by decide +kernel) (by decide +kernel), by decide +kernel⟩
theorem ml_RX10_213 : ML RX10 213 yX3_lodges cX3_lodges 2 (some .int) 1 := ⟨tb_mem 1049 (by decide +kernel) (by decide +kernel), tb_mem 125 (by decide +kernel) (by decide +kernel), tb_mem 1026 (by decide +kernel) (by decide +kernel), by decide +kernel⟩
theorem ml_RX10_216 : ML RX10 216 yX3_barsNow cX3_barsNow 2 (some .boolean) 1 := ⟨tb_mem 1050 (by decide +kernel) (by decide +kernel), tb_mem 125 (by decide +kernel) (by decide +kernel), tb_mem 1001 (by decide +kernel) (by decide +kernel), by decide +kernel⟩
theorem ml_RX10_219 : ML RX10 219 yX3_spoils cX3_spoils 3 (some .int) 2 := ⟨tb_mem 1051 (by decide +kernel) (by decide +kernel), tb_mem 125 (by decide +kernel) (by decide +kernel), tb_mem 1017 (by decide +kernel) (by decide +kernel), by decide +kernel⟩
theorem fl_RX10_59 : FL RX10 59 10 4 := ⟨by decide, by decide, tb_mem 558 (by decide +kernel) (by decide +kernel)⟩
theorem ml_RX10_223 : ML RX10 223 yX2_summon cX2_summon 4 (some .int) 1 := ⟨tb_mem 1056 (by decide +kernel) (by decide +kernel), tb_mem 127 (by decide +kernel) (by decide +kernel), tb_mem 949 (by decide +kernel) (by decide +kernel), by decide +kernel⟩
theorem ml_RX10_226 : ML RX10 226 yX10_told cX10_told 2 (some .int) 1 := ⟨tb_mem 1057 (by decide +kernel) (by decide +kernel), tb_mem 120 (by decide +kernel) (by decide +kernel), tb_mem 1060 (by decide +kernel) (by decide +kernel), by decide +kernel⟩
theorem mv_X10_told : yX10_told.cls = clC 10 ∧ Cond.instanceMethod yX10_told ∈ Tb ∧ Cond.selects (clC 10) yX10_told yX10_told ∈ Tb := ⟨rfl, tb_mem 1059 (by decide +kernel) (by decide +kernel), tb_mem 28 (by decide +kernel) (by decide +kernel)⟩
theorem fl_RX10_66 : FL RX10 66 10 7 := ⟨by decide, by decide, tb_mem 561 (by decide +kernel) (by decide +kernel)⟩
theorem ml_RX10_229 : ML RX10 229 yX2_kindle cX2_kindle 5 (some .int) 1 := ⟨tb_mem 1065 (by decide +kernel) (by decide +kernel), tb_mem 127 (by decide +kernel) (by decide +kernel), tb_mem 992 (by decide +kernel) (by decide +kernel), by decide +kernel⟩
theorem ml_RX10_232 : ML RX10 232 yX2_idle cX2_idle 1 (some .int) 0 := ⟨tb_mem 1070 (by decide +kernel) (by decide +kernel), tb_mem 127 (by decide +kernel) (by decide +kernel), tb_mem 1030 (by decide +kernel) (by decide +kernel), by decide +kernel⟩
theorem ml_RX10_236 : ML RX10 236 yX4_takeBack cX4_takeBack 3 (some .int) 1 := ⟨tb_mem 1075 (by decide +kernel) (by decide +kernel), tb_mem 124 (by decide +kernel) (by decide +kernel), tb_mem 1078 (by decide +kernel) (by decide +kernel), by decide +kernel⟩
theorem mv_X4_takeBack : yX4_takeBack.cls = clC 4 ∧ Cond.instanceMethod yX4_takeBack ∈ Tb ∧ Cond.selects (clC 4) yX4_takeBack yX4_takeBack ∈ Tb := ⟨rfl, tb_mem 1076 (by decide +kernel) (by decide +kernel), tb_mem 1077 (by decide +kernel) (by decide +kernel)⟩
theorem ml_RX10_240 : ML RX10 240 yX5_prepare cX5_prepare 3 none 0 := ⟨tb_mem 1083 (by decide +kernel) (by decide +kernel), tb_mem 128 (by decide +kernel) (by decide +kernel), tb_mem 1086 (by decide +kernel) (by decide +kernel), by decide +kernel⟩
theorem mv_X5_prepare : yX5_prepare.cls = clC 5 ∧ Cond.instanceMethod yX5_prepare ∈ Tb ∧ Cond.selects (clC 5) yX5_prepare yX5_prepare ∈ Tb := ⟨rfl, tb_mem 1084 (by decide +kernel) (by decide +kernel), tb_mem 1085 (by decide +kernel) (by decide +kernel)⟩
theorem ml_RX10_246 : ML RX10 246 yX8_longest cX8_longest 2 (some .int) 1 := ⟨tb_mem 1113 (by decide +kernel) (by decide +kernel), tb_mem 130 (by decide +kernel) (by decide +kernel), tb_mem 1116 (by decide +kernel) (by decide +kernel), by decide +kernel⟩
theorem ml_RX10_249 : ML RX10 249 yX8_crewOf cX8_crewOf 3 (some .int) 2 := ⟨tb_mem 1182 (by decide +kernel) (by decide +kernel), tb_mem 130 (by decide +kernel) (by decide +kernel), tb_mem 1185 (by decide +kernel) (by decide +kernel), by decide +kernel⟩
theorem mv_X8_crewOf : yX8_crewOf.cls = clC 8 ∧ Cond.instanceMethod yX8_crewOf ∈ Tb ∧ Cond.selects (clC 8) yX8_crewOf yX8_crewOf ∈ Tb := ⟨rfl, tb_mem 1183 (by decide +kernel) (by decide +kernel), tb_mem 1184 (by decide +kernel) (by decide +kernel)⟩
theorem fl_RX10_243 : FL RX10 243 5 0 := ⟨by decide, by decide, tb_mem 418 (by decide +kernel) (by decide +kernel)⟩
theorem fl_RX10_79 : FL RX10 79 10 9 := ⟨by decide, by decide, tb_mem 563 (by decide +kernel) (by decide +kernel)⟩
theorem fl_RX10_88 : FL RX10 88 10 10 := ⟨by decide, by decide, tb_mem 564 (by decide +kernel) (by decide +kernel)⟩
theorem ml_RX10_252 : ML RX10 252 yX5_askPrices cX5_askPrices 2 none 0 := ⟨tb_mem 1190 (by decide +kernel) (by decide +kernel), tb_mem 128 (by decide +kernel) (by decide +kernel), tb_mem 1193 (by decide +kernel) (by decide +kernel), by decide +kernel⟩
theorem mv_X5_askPrices : yX5_askPrices.cls = clC 5 ∧ Cond.instanceMethod yX5_askPrices ∈ Tb ∧ Cond.selects (clC 5) yX5_askPrices yX5_askPrices ∈ Tb := ⟨rfl, tb_mem 1191 (by decide +kernel) (by decide +kernel), tb_mem 1192 (by decide +kernel) (by decide +kernel)⟩
theorem ml_RX10_255 : ML RX10 255 yX8_cheapest cX8_cheapest 2 (some .int) 1 := ⟨tb_mem 1195 (by decide +kernel) (by decide +kernel), tb_mem 130 (by decide +kernel) (by decide +kernel), tb_mem 1198 (by decide +kernel) (by decide +kernel), by decide +kernel⟩
theorem mv_X8_cheapest : yX8_cheapest.cls = clC 8 ∧ Cond.instanceMethod yX8_cheapest ∈ Tb ∧ Cond.selects (clC 8) yX8_cheapest yX8_cheapest ∈ Tb := ⟨rfl, tb_mem 1196 (by decide +kernel) (by decide +kernel), tb_mem 1197 (by decide +kernel) (by decide +kernel)⟩
theorem ml_RX10_260 : ML RX10 260 yX8_rowsOf cX8_rowsOf 6 (some .long) 1 := ⟨tb_mem 1204 (by decide +kernel) (by decide +kernel), tb_mem 130 (by decide +kernel) (by decide +kernel), tb_mem 1207 (by decide +kernel) (by decide +kernel), by decide +kernel⟩
theorem mv_X8_rowsOf : yX8_rowsOf.cls = clC 8 ∧ Cond.instanceMethod yX8_rowsOf ∈ Tb ∧ Cond.selects (clC 8) yX8_rowsOf yX8_rowsOf ∈ Tb := ⟨rfl, tb_mem 1205 (by decide +kernel) (by decide +kernel), tb_mem 1206 (by decide +kernel) (by decide +kernel)⟩
theorem kl_RX10_258 : Cond.constantLong RX10 258 (-1) ∈ Tb := tb_mem 1203 (by decide +kernel) (by decide +kernel)
theorem ml_RX10_264 : ML RX10 264 yX8_latestOf cX8_latestOf 3 (some .int) 1 := ⟨tb_mem 1224 (by decide +kernel) (by decide +kernel), tb_mem 130 (by decide +kernel) (by decide +kernel), tb_mem 1227 (by decide +kernel) (by decide +kernel), by decide +kernel⟩
theorem mv_X8_latestOf : yX8_latestOf.cls = clC 8 ∧ Cond.instanceMethod yX8_latestOf ∈ Tb ∧ Cond.selects (clC 8) yX8_latestOf yX8_latestOf ∈ Tb := ⟨rfl, tb_mem 1225 (by decide +kernel) (by decide +kernel), tb_mem 1226 (by decide +kernel) (by decide +kernel)⟩
theorem ml_RX10_267 : ML RX10 267 yX8_turns cX8_turns 1 (some .int) 0 := ⟨tb_mem 1242 (by decide +kernel) (by decide +kernel), tb_mem 130 (by decide +kernel) (by decide +kernel), tb_mem 1245 (by decide +kernel) (by decide +kernel), by decide +kernel⟩
theorem mv_X8_turns : yX8_turns.cls = clC 8 ∧ Cond.instanceMethod yX8_turns ∈ Tb ∧ Cond.selects (clC 8) yX8_turns yX8_turns ∈ Tb := ⟨rfl, tb_mem 1243 (by decide +kernel) (by decide +kernel), tb_mem 1244 (by decide +kernel) (by decide +kernel)⟩
theorem ml_RX10_270 : ML RX10 270 yX1_here cX1_here 3 (some .int) 0 := ⟨tb_mem 1250 (by decide +kernel) (by decide +kernel), tb_mem 121 (by decide +kernel) (by decide +kernel), tb_mem 1253 (by decide +kernel) (by decide +kernel), by decide +kernel⟩
theorem mv_X1_here : yX1_here.cls = clC 1 ∧ Cond.instanceMethod yX1_here ∈ Tb ∧ Cond.selects (clC 1) yX1_here yX1_here ∈ Tb := ⟨rfl, tb_mem 1251 (by decide +kernel) (by decide +kernel), tb_mem 1252 (by decide +kernel) (by decide +kernel)⟩
theorem ml_RX10_275 : ML RX10 275 yX5_list cX5_list 4 (some .int) 3 := ⟨tb_mem 1254 (by decide +kernel) (by decide +kernel), tb_mem 128 (by decide +kernel) (by decide +kernel), tb_mem 1157 (by decide +kernel) (by decide +kernel), by decide +kernel⟩
theorem ml_RX10_278 : ML RX10 278 yX5_crewAt cX5_crewAt 4 (some .int) 2 := ⟨tb_mem 1255 (by decide +kernel) (by decide +kernel), tb_mem 128 (by decide +kernel) (by decide +kernel), tb_mem 1169 (by decide +kernel) (by decide +kernel), by decide +kernel⟩
theorem fl_RX10_273 : FL RX10 273 5 1 := ⟨by decide, by decide, tb_mem 421 (by decide +kernel) (by decide +kernel)⟩
theorem ml_RX10_281 : ML RX10 281 yX1_peopleOf cX1_peopleOf 4 (some .int) 1 := ⟨tb_mem 1260 (by decide +kernel) (by decide +kernel), tb_mem 121 (by decide +kernel) (by decide +kernel), tb_mem 1263 (by decide +kernel) (by decide +kernel), by decide +kernel⟩
theorem mv_X1_peopleOf : yX1_peopleOf.cls = clC 1 ∧ Cond.instanceMethod yX1_peopleOf ∈ Tb ∧ Cond.selects (clC 1) yX1_peopleOf yX1_peopleOf ∈ Tb := ⟨rfl, tb_mem 1261 (by decide +kernel) (by decide +kernel), tb_mem 1262 (by decide +kernel) (by decide +kernel)⟩
theorem ml_RX10_284 : ML RX10 284 yX1_talks cX1_talks 3 (some .boolean) 2 := ⟨tb_mem 1268 (by decide +kernel) (by decide +kernel), tb_mem 121 (by decide +kernel) (by decide +kernel), tb_mem 1013 (by decide +kernel) (by decide +kernel), by decide +kernel⟩
theorem mm_RX10_288 : MM RX10 288 Lib.Math.min.name Lib.Math.min.code := ⟨tb_mem 1269 (by decide +kernel) (by decide +kernel), tb_mem 701 (by decide +kernel) (by decide +kernel), tb_mem 132 (by decide +kernel) (by decide +kernel), tb_mem 702 (by decide +kernel) (by decide +kernel)⟩
theorem ml_RX10_293 : ML RX10 293 yX8_hushings cX8_hushings 6 (some .int) 2 := ⟨tb_mem 1274 (by decide +kernel) (by decide +kernel), tb_mem 130 (by decide +kernel) (by decide +kernel), tb_mem 1277 (by decide +kernel) (by decide +kernel), by decide +kernel⟩
theorem mv_X8_hushings : yX8_hushings.cls = clC 8 ∧ Cond.instanceMethod yX8_hushings ∈ Tb ∧ Cond.selects (clC 8) yX8_hushings yX8_hushings ∈ Tb := ⟨rfl, tb_mem 1275 (by decide +kernel) (by decide +kernel), tb_mem 1276 (by decide +kernel) (by decide +kernel)⟩
theorem fl_RX10_296 : FL RX10 296 8 0 := ⟨by decide, by decide, tb_mem 501 (by decide +kernel) (by decide +kernel)⟩
theorem ml_RX10_303 : ML RX10 303 yX5_winterBy cX5_winterBy 11 (some .int) 3 := ⟨tb_mem 1296 (by decide +kernel) (by decide +kernel), tb_mem 128 (by decide +kernel) (by decide +kernel), tb_mem 1299 (by decide +kernel) (by decide +kernel), by decide +kernel⟩
theorem mv_X5_winterBy : yX5_winterBy.cls = clC 5 ∧ Cond.instanceMethod yX5_winterBy ∈ Tb ∧ Cond.selects (clC 5) yX5_winterBy yX5_winterBy ∈ Tb := ⟨rfl, tb_mem 1297 (by decide +kernel) (by decide +kernel), tb_mem 1298 (by decide +kernel) (by decide +kernel)⟩
theorem kc_RX10_299 : Cond.constant RX10 299 (1000000) ∈ Tb := tb_mem 1295 (by decide +kernel) (by decide +kernel)
theorem fl_RX10_300 : FL RX10 300 10 12 := ⟨by decide, by decide, tb_mem 566 (by decide +kernel) (by decide +kernel)⟩
theorem fl_RX10_34 : FL RX10 34 10 11 := ⟨by decide, by decide, tb_mem 565 (by decide +kernel) (by decide +kernel)⟩
theorem fl_RX10_16 : FL RX10 16 10 2 := ⟨by decide, by decide, tb_mem 556 (by decide +kernel) (by decide +kernel)⟩
theorem ml_RX10_307 : ML RX10 307 yX1_pairs cX1_pairs 3 (some .int) 0 := ⟨tb_mem 1318 (by decide +kernel) (by decide +kernel), tb_mem 121 (by decide +kernel) (by decide +kernel), tb_mem 1321 (by decide +kernel) (by decide +kernel), by decide +kernel⟩
theorem mv_X1_pairs : yX1_pairs.cls = clC 1 ∧ Cond.instanceMethod yX1_pairs ∈ Tb ∧ Cond.selects (clC 1) yX1_pairs yX1_pairs ∈ Tb := ⟨rfl, tb_mem 1319 (by decide +kernel) (by decide +kernel), tb_mem 1320 (by decide +kernel) (by decide +kernel)⟩
theorem fl_RX10_310 : FL RX10 310 1 12 := ⟨by decide, by decide, tb_mem 208 (by decide +kernel) (by decide +kernel)⟩
theorem fl_RX10_313 : FL RX10 313 1 13 := ⟨by decide, by decide, tb_mem 213 (by decide +kernel) (by decide +kernel)⟩
theorem fl_RX10_316 : FL RX10 316 1 14 := ⟨by decide, by decide, tb_mem 218 (by decide +kernel) (by decide +kernel)⟩
theorem fl_RX10_319 : FL RX10 319 4 0 := ⟨by decide, by decide, tb_mem 351 (by decide +kernel) (by decide +kernel)⟩
theorem fl_RX11_3 : FL RX11 3 11 0 := ⟨by decide, by decide, tb_mem 1334 (by decide +kernel) (by decide +kernel)⟩
theorem fl_RX11_7 : FL RX11 7 11 1 := ⟨by decide, by decide, tb_mem 1335 (by decide +kernel) (by decide +kernel)⟩
theorem ml_RX11_14 : ML RX11 14 yX11_good cX11_good 2 (some .int) 1 := ⟨tb_mem 1503 (by decide +kernel) (by decide +kernel), tb_mem 131 (by decide +kernel) (by decide +kernel), tb_mem 1506 (by decide +kernel) (by decide +kernel), by decide +kernel⟩
theorem mv_X11_good : yX11_good.cls = clC 11 ∧ Cond.instanceMethod yX11_good ∈ Tb ∧ Cond.selects (clC 11) yX11_good yX11_good ∈ Tb := ⟨rfl, tb_mem 1505 (by decide +kernel) (by decide +kernel), tb_mem 45 (by decide +kernel) (by decide +kernel)⟩
theorem fl_RX11_11 : FL RX11 11 11 28 := ⟨by decide, by decide, tb_mem 1362 (by decide +kernel) (by decide +kernel)⟩
theorem ml_RX11_106 : ML RX11 106 yX11_lies cX11_lies 3 (some .boolean) 3 := ⟨tb_mem 1496 (by decide +kernel) (by decide +kernel), tb_mem 131 (by decide +kernel) (by decide +kernel), tb_mem 1498 (by decide +kernel) (by decide +kernel), by decide +kernel⟩
theorem mv_X11_lies : Cond.static yX11_lies ∈ Tb := tb_mem 1497 (by decide +kernel) (by decide +kernel)
theorem ml_RX11_110 : ML RX11 110 yX11_refuses cX11_refuses 2 (some .int) 1 := ⟨tb_mem 1499 (by decide +kernel) (by decide +kernel), tb_mem 131 (by decide +kernel) (by decide +kernel), tb_mem 1502 (by decide +kernel) (by decide +kernel), by decide +kernel⟩
theorem mv_X11_refuses : yX11_refuses.cls = clC 11 ∧ Cond.instanceMethod yX11_refuses ∈ Tb ∧ Cond.selects (clC 11) yX11_refuses yX11_refuses ∈ Tb := ⟨rfl, tb_mem 1501 (by decide +kernel) (by decide +kernel), tb_mem 44 (by decide +kernel) (by decide +kernel)⟩
theorem fl_RX11_24 : FL RX11 24 11 2 := ⟨by decide, by decide, tb_mem 1336 (by decide +kernel) (by decide +kernel)⟩
theorem fl_RX11_27 : FL RX11 27 11 3 := ⟨by decide, by decide, tb_mem 1337 (by decide +kernel) (by decide +kernel)⟩
theorem fl_RX11_30 : FL RX11 30 11 4 := ⟨by decide, by decide, tb_mem 1338 (by decide +kernel) (by decide +kernel)⟩
theorem ml_RX11_113 : ML RX11 113 yX11_settled cX11_settled 2 (some .int) 1 := ⟨tb_mem 1511 (by decide +kernel) (by decide +kernel), tb_mem 131 (by decide +kernel) (by decide +kernel), tb_mem 1514 (by decide +kernel) (by decide +kernel), by decide +kernel⟩
theorem mv_X11_settled : yX11_settled.cls = clC 11 ∧ Cond.instanceMethod yX11_settled ∈ Tb ∧ Cond.selects (clC 11) yX11_settled yX11_settled ∈ Tb := ⟨rfl, tb_mem 1513 (by decide +kernel) (by decide +kernel), tb_mem 46 (by decide +kernel) (by decide +kernel)⟩
theorem ml_RX11_116 : ML RX11 116 yX11_people cX11_people 1 (some .int) 0 := ⟨tb_mem 1522 (by decide +kernel) (by decide +kernel), tb_mem 131 (by decide +kernel) (by decide +kernel), tb_mem 1525 (by decide +kernel) (by decide +kernel), by decide +kernel⟩
theorem mv_X11_people : yX11_people.cls = clC 11 ∧ Cond.instanceMethod yX11_people ∈ Tb ∧ Cond.selects (clC 11) yX11_people yX11_people ∈ Tb := ⟨rfl, tb_mem 1524 (by decide +kernel) (by decide +kernel), tb_mem 47 (by decide +kernel) (by decide +kernel)⟩
theorem ml_RX11_120 : ML RX11 120 yX11_canBe cX11_canBe 2 (some .boolean) 2 := ⟨tb_mem 1519 (by decide +kernel) (by decide +kernel), tb_mem 131 (by decide +kernel) (by decide +kernel), tb_mem 1521 (by decide +kernel) (by decide +kernel), by decide +kernel⟩
theorem mv_X11_canBe : Cond.static yX11_canBe ∈ Tb := tb_mem 1520 (by decide +kernel) (by decide +kernel)
theorem ml_RX11_124 : ML RX11 124 yX11_adds cX11_adds 5 none 3 := ⟨tb_mem 1526 (by decide +kernel) (by decide +kernel), tb_mem 131 (by decide +kernel) (by decide +kernel), tb_mem 1529 (by decide +kernel) (by decide +kernel), by decide +kernel⟩
theorem mv_X11_adds : yX11_adds.cls = clC 11 ∧ Cond.instanceMethod yX11_adds ∈ Tb ∧ Cond.selects (clC 11) yX11_adds yX11_adds ∈ Tb := ⟨rfl, tb_mem 1528 (by decide +kernel) (by decide +kernel), tb_mem 48 (by decide +kernel) (by decide +kernel)⟩
theorem ml_RX11_128 : ML RX11 128 yX11_isPerson cX11_isPerson 2 (some .boolean) 1 := ⟨tb_mem 1534 (by decide +kernel) (by decide +kernel), tb_mem 131 (by decide +kernel) (by decide +kernel), tb_mem 1537 (by decide +kernel) (by decide +kernel), by decide +kernel⟩
theorem mv_X11_isPerson : yX11_isPerson.cls = clC 11 ∧ Cond.instanceMethod yX11_isPerson ∈ Tb ∧ Cond.selects (clC 11) yX11_isPerson yX11_isPerson ∈ Tb := ⟨rfl, tb_mem 1536 (by decide +kernel) (by decide +kernel), tb_mem 49 (by decide +kernel) (by decide +kernel)⟩
theorem ml_RX11_132 : ML RX11 132 yX11_roadOf cX11_roadOf 2 (some .int) 1 := ⟨tb_mem 1542 (by decide +kernel) (by decide +kernel), tb_mem 131 (by decide +kernel) (by decide +kernel), tb_mem 1545 (by decide +kernel) (by decide +kernel), by decide +kernel⟩
theorem mv_X11_roadOf : yX11_roadOf.cls = clC 11 ∧ Cond.instanceMethod yX11_roadOf ∈ Tb ∧ Cond.selects (clC 11) yX11_roadOf yX11_roadOf ∈ Tb := ⟨rfl, tb_mem 1544 (by decide +kernel) (by decide +kernel), tb_mem 50 (by decide +kernel) (by decide +kernel)⟩
theorem ml_RX11_135 : ML RX11 135 yX11_landOf cX11_landOf 2 (some .int) 1 := ⟨tb_mem 1546 (by decide +kernel) (by decide +kernel), tb_mem 131 (by decide +kernel) (by decide +kernel), tb_mem 1549 (by decide +kernel) (by decide +kernel), by decide +kernel⟩
theorem mv_X11_landOf : yX11_landOf.cls = clC 11 ∧ Cond.instanceMethod yX11_landOf ∈ Tb ∧ Cond.selects (clC 11) yX11_landOf yX11_landOf ∈ Tb := ⟨rfl, tb_mem 1548 (by decide +kernel) (by decide +kernel), tb_mem 51 (by decide +kernel) (by decide +kernel)⟩
theorem ml_RX11_138 : ML RX11 138 yX11_worthOf cX11_worthOf 2 (some .int) 1 := ⟨tb_mem 1550 (by decide +kernel) (by decide +kernel), tb_mem 131 (by decide +kernel) (by decide +kernel), tb_mem 1553 (by decide +kernel) (by decide +kernel), by decide +kernel⟩
theorem mv_X11_worthOf : yX11_worthOf.cls = clC 11 ∧ Cond.instanceMethod yX11_worthOf ∈ Tb ∧ Cond.selects (clC 11) yX11_worthOf yX11_worthOf ∈ Tb := ⟨rfl, tb_mem 1552 (by decide +kernel) (by decide +kernel), tb_mem 52 (by decide +kernel) (by decide +kernel)⟩
theorem fl_RX11_141 : FL RX11 141 11 13 := ⟨by decide, by decide, tb_mem 1347 (by decide +kernel) (by decide +kernel)⟩
theorem fl_RX11_144 : FL RX11 144 11 6 := ⟨by decide, by decide, tb_mem 1340 (by decide +kernel) (by decide +kernel)⟩
theorem fl_RX11_41 : FL RX11 41 11 11 := ⟨by decide, by decide, tb_mem 1345 (by decide +kernel) (by decide +kernel)⟩
theorem fl_RX11_44 : FL RX11 44 11 12 := ⟨by decide, by decide, tb_mem 1346 (by decide +kernel) (by decide +kernel)⟩
theorem fl_RX11_37 : FL RX11 37 11 7 := ⟨by decide, by decide, tb_mem 1341 (by decide +kernel) (by decide +kernel)⟩
theorem ml_RX11_150 : ML RX11 150 yX11_isSmall cX11_isSmall 1 (some .boolean) 1 := ⟨tb_mem 1598 (by decide +kernel) (by decide +kernel), tb_mem 131 (by decide +kernel) (by decide +kernel), tb_mem 1600 (by decide +kernel) (by decide +kernel), by decide +kernel⟩
theorem mv_X11_isSmall : Cond.static yX11_isSmall ∈ Tb := tb_mem 1599 (by decide +kernel) (by decide +kernel)
theorem ml_RX11_153 : ML RX11 153 yX11_isDigit cX11_isDigit 1 (some .boolean) 1 := ⟨tb_mem 1601 (by decide +kernel) (by decide +kernel), tb_mem 131 (by decide +kernel) (by decide +kernel), tb_mem 1603 (by decide +kernel) (by decide +kernel), by decide +kernel⟩
theorem mv_X11_isDigit : Cond.static yX11_isDigit ∈ Tb := tb_mem 1602 (by decide +kernel) (by decide +kernel)
theorem ml_RX11_156 : ML RX11 156 yX11_wordOf cX11_wordOf 8 (some .int) 2 := ⟨tb_mem 1604 (by decide +kernel) (by decide +kernel), tb_mem 131 (by decide +kernel) (by decide +kernel), tb_mem 1607 (by decide +kernel) (by decide +kernel), by decide +kernel⟩
theorem mv_X11_wordOf : yX11_wordOf.cls = clC 11 ∧ Cond.instanceMethod yX11_wordOf ∈ Tb ∧ Cond.selects (clC 11) yX11_wordOf yX11_wordOf ∈ Tb := ⟨rfl, tb_mem 1606 (by decide +kernel) (by decide +kernel), tb_mem 56 (by decide +kernel) (by decide +kernel)⟩
theorem kc_RX11_160 : Cond.constant RX11 160 (1000000) ∈ Tb := tb_mem 1608 (by decide +kernel) (by decide +kernel)
theorem fl_RX11_147 : FL RX11 147 11 18 := ⟨by decide, by decide, tb_mem 1352 (by decide +kernel) (by decide +kernel)⟩
theorem fl_RX11_50 : FL RX11 50 11 15 := ⟨by decide, by decide, tb_mem 1349 (by decide +kernel) (by decide +kernel)⟩
theorem fl_RX11_53 : FL RX11 53 11 16 := ⟨by decide, by decide, tb_mem 1350 (by decide +kernel) (by decide +kernel)⟩
theorem fl_RX11_56 : FL RX11 56 11 17 := ⟨by decide, by decide, tb_mem 1351 (by decide +kernel) (by decide +kernel)⟩
theorem fl_RX11_161 : FL RX11 161 11 21 := ⟨by decide, by decide, tb_mem 1355 (by decide +kernel) (by decide +kernel)⟩
theorem ml_RX11_164 : ML RX11 164 yX11_fine cX11_fine 1 (some .boolean) 0 := ⟨tb_mem 1621 (by decide +kernel) (by decide +kernel), tb_mem 131 (by decide +kernel) (by decide +kernel), tb_mem 1624 (by decide +kernel) (by decide +kernel), by decide +kernel⟩
theorem mv_X11_fine : yX11_fine.cls = clC 11 ∧ Cond.instanceMethod yX11_fine ∈ Tb ∧ Cond.selects (clC 11) yX11_fine yX11_fine ∈ Tb := ⟨rfl, tb_mem 1623 (by decide +kernel) (by decide +kernel), tb_mem 60 (by decide +kernel) (by decide +kernel)⟩
theorem fl_RX11_168 : FL RX11 168 11 19 := ⟨by decide, by decide, tb_mem 1353 (by decide +kernel) (by decide +kernel)⟩
theorem ml_RX11_171 : ML RX11 171 yX11_takes0 cX11_takes0 3 (some .boolean) 1 := ⟨tb_mem 1617 (by decide +kernel) (by decide +kernel), tb_mem 131 (by decide +kernel) (by decide +kernel), tb_mem 1620 (by decide +kernel) (by decide +kernel), by decide +kernel⟩
theorem mv_X11_takes0 : yX11_takes0.cls = clC 11 ∧ Cond.instanceMethod yX11_takes0 ∈ Tb ∧ Cond.selects (clC 11) yX11_takes0 yX11_takes0 ∈ Tb := ⟨rfl, tb_mem 1619 (by decide +kernel) (by decide +kernel), tb_mem 59 (by decide +kernel) (by decide +kernel)⟩
theorem ml_RX11_174 : ML RX11 174 yX11_faults cX11_faults 1 none 0 := ⟨tb_mem 1640 (by decide +kernel) (by decide +kernel), tb_mem 131 (by decide +kernel) (by decide +kernel), tb_mem 1643 (by decide +kernel) (by decide +kernel), by decide +kernel⟩
theorem mv_X11_faults : yX11_faults.cls = clC 11 ∧ Cond.instanceMethod yX11_faults ∈ Tb ∧ Cond.selects (clC 11) yX11_faults yX11_faults ∈ Tb := ⟨rfl, tb_mem 1642 (by decide +kernel) (by decide +kernel), tb_mem 64 (by decide +kernel) (by decide +kernel)⟩
theorem fl_RX11_177 : FL RX11 177 11 20 := ⟨by decide, by decide, tb_mem 1354 (by decide +kernel) (by decide +kernel)⟩
theorem ml_RX11_180 : ML RX11 180 yX11_readSum cX11_readSum 2 none 1 := ⟨tb_mem 1625 (by decide +kernel) (by decide +kernel), tb_mem 131 (by decide +kernel) (by decide +kernel), tb_mem 1628 (by decide +kernel) (by decide +kernel), by decide +kernel⟩
theorem mv_X11_readSum : yX11_readSum.cls = clC 11 ∧ Cond.instanceMethod yX11_readSum ∈ Tb ∧ Cond.selects (clC 11) yX11_readSum yX11_readSum ∈ Tb := ⟨rfl, tb_mem 1627 (by decide +kernel) (by decide +kernel), tb_mem 61 (by decide +kernel) (by decide +kernel)⟩
theorem ml_RX11_184 : ML RX11 184 yX11_must cX11_must 2 none 1 := ⟨tb_mem 1644 (by decide +kernel) (by decide +kernel), tb_mem 131 (by decide +kernel) (by decide +kernel), tb_mem 1647 (by decide +kernel) (by decide +kernel), by decide +kernel⟩
theorem mv_X11_must : yX11_must.cls = clC 11 ∧ Cond.instanceMethod yX11_must ∈ Tb ∧ Cond.selects (clC 11) yX11_must yX11_must ∈ Tb := ⟨rfl, tb_mem 1646 (by decide +kernel) (by decide +kernel), tb_mem 65 (by decide +kernel) (by decide +kernel)⟩
theorem ml_RX11_190 : ML RX11 190 yX11_mustNumber cX11_mustNumber 3 none 2 := ⟨tb_mem 1652 (by decide +kernel) (by decide +kernel), tb_mem 131 (by decide +kernel) (by decide +kernel), tb_mem 1655 (by decide +kernel) (by decide +kernel), by decide +kernel⟩
theorem mv_X11_mustNumber : yX11_mustNumber.cls = clC 11 ∧ Cond.instanceMethod yX11_mustNumber ∈ Tb ∧ Cond.selects (clC 11) yX11_mustNumber yX11_mustNumber ∈ Tb := ⟨rfl, tb_mem 1654 (by decide +kernel) (by decide +kernel), tb_mem 67 (by decide +kernel) (by decide +kernel)⟩
theorem ml_RX11_210 : ML RX11 210 yX11_sign cX11_sign 1 (some .int) 1 := ⟨tb_mem 1637 (by decide +kernel) (by decide +kernel), tb_mem 131 (by decide +kernel) (by decide +kernel), tb_mem 1639 (by decide +kernel) (by decide +kernel), by decide +kernel⟩
theorem mv_X11_sign : Cond.static yX11_sign ∈ Tb := tb_mem 1638 (by decide +kernel) (by decide +kernel)
theorem ml_RX11_214 : ML RX11 214 yX11_readTerm cX11_readTerm 2 none 1 := ⟨tb_mem 1629 (by decide +kernel) (by decide +kernel), tb_mem 131 (by decide +kernel) (by decide +kernel), tb_mem 1632 (by decide +kernel) (by decide +kernel), by decide +kernel⟩
theorem mv_X11_readTerm : yX11_readTerm.cls = clC 11 ∧ Cond.instanceMethod yX11_readTerm ∈ Tb ∧ Cond.selects (clC 11) yX11_readTerm yX11_readTerm ∈ Tb := ⟨rfl, tb_mem 1631 (by decide +kernel) (by decide +kernel), tb_mem 62 (by decide +kernel) (by decide +kernel)⟩
theorem ml_RX11_217 : ML RX11 217 yX11_readPart cX11_readPart 3 none 1 := ⟨tb_mem 1633 (by decide +kernel) (by decide +kernel), tb_mem 131 (by decide +kernel) (by decide +kernel), tb_mem 1636 (by decide +kernel) (by decide +kernel), by decide +kernel⟩
theorem mv_X11_readPart : yX11_readPart.cls = clC 11 ∧ Cond.instanceMethod yX11_readPart ∈ Tb ∧ Cond.selects (clC 11) yX11_readPart yX11_readPart ∈ Tb := ⟨rfl, tb_mem 1635 (by decide +kernel) (by decide +kernel), tb_mem 63 (by decide +kernel) (by decide +kernel)⟩
theorem ml_RX11_226 : ML RX11 226 yX11_leaf cX11_leaf 1 none 0 := ⟨tb_mem 1648 (by decide +kernel) (by decide +kernel), tb_mem 131 (by decide +kernel) (by decide +kernel), tb_mem 1651 (by decide +kernel) (by decide +kernel), by decide +kernel⟩
theorem mv_X11_leaf : yX11_leaf.cls = clC 11 ∧ Cond.instanceMethod yX11_leaf ∈ Tb ∧ Cond.selects (clC 11) yX11_leaf yX11_leaf ∈ Tb := ⟨rfl, tb_mem 1650 (by decide +kernel) (by decide +kernel), tb_mem 66 (by decide +kernel) (by decide +kernel)⟩
theorem fl_RX11_220 : FL RX11 220 11 8 := ⟨by decide, by decide, tb_mem 1342 (by decide +kernel) (by decide +kernel)⟩
theorem fl_RX11_223 : FL RX11 223 11 9 := ⟨by decide, by decide, tb_mem 1343 (by decide +kernel) (by decide +kernel)⟩
theorem ml_RX11_187 : ML RX11 187 yX11_readTest cX11_readTest 2 none 1 := ⟨tb_mem 1656 (by decide +kernel) (by decide +kernel), tb_mem 131 (by decide +kernel) (by decide +kernel), tb_mem 1659 (by decide +kernel) (by decide +kernel), by decide +kernel⟩
theorem mv_X11_readTest : yX11_readTest.cls = clC 11 ∧ Cond.instanceMethod yX11_readTest ∈ Tb ∧ Cond.selects (clC 11) yX11_readTest yX11_readTest ∈ Tb := ⟨rfl, tb_mem 1658 (by decide +kernel) (by decide +kernel), tb_mem 68 (by decide +kernel) (by decide +kernel)⟩
theorem ml_RX11_204 : ML RX11 204 yX11_readBoth cX11_readBoth 2 none 1 := ⟨tb_mem 1660 (by decide +kernel) (by decide +kernel), tb_mem 131 (by decide +kernel) (by decide +kernel), tb_mem 1663 (by decide +kernel) (by decide +kernel), by decide +kernel⟩
theorem mv_X11_readBoth : yX11_readBoth.cls = clC 11 ∧ Cond.instanceMethod yX11_readBoth ∈ Tb ∧ Cond.selects (clC 11) yX11_readBoth yX11_readBoth ∈ Tb := ⟨rfl, tb_mem 1662 (by decide +kernel) (by decide +kernel), tb_mem 69 (by decide +kernel) (by decide +kernel)⟩
theorem ml_RX11_207 : ML RX11 207 yX11_readPlain cX11_readPlain 4 none 1 := ⟨tb_mem 1664 (by decide +kernel) (by decide +kernel), tb_mem 131 (by decide +kernel) (by decide +kernel), tb_mem 1667 (by decide +kernel) (by decide +kernel), by decide +kernel⟩
theorem mv_X11_readPlain : yX11_readPlain.cls = clC 11 ∧ Cond.instanceMethod yX11_readPlain ∈ Tb ∧ Cond.selects (clC 11) yX11_readPlain yX11_readPlain ∈ Tb := ⟨rfl, tb_mem 1666 (by decide +kernel) (by decide +kernel), tb_mem 70 (by decide +kernel) (by decide +kernel)⟩
theorem ml_RX11_198 : ML RX11 198 yX11_readOrder cX11_readOrder 1 none 0 := ⟨tb_mem 1613 (by decide +kernel) (by decide +kernel), tb_mem 131 (by decide +kernel) (by decide +kernel), tb_mem 1616 (by decide +kernel) (by decide +kernel), by decide +kernel⟩
theorem mv_X11_readOrder : yX11_readOrder.cls = clC 11 ∧ Cond.instanceMethod yX11_readOrder ∈ Tb ∧ Cond.selects (clC 11) yX11_readOrder yX11_readOrder ∈ Tb := ⟨rfl, tb_mem 1615 (by decide +kernel) (by decide +kernel), tb_mem 58 (by decide +kernel) (by decide +kernel)⟩
theorem ml_RX11_201 : ML RX11 201 yX11_readClause cX11_readClause 1 none 0 := ⟨tb_mem 1668 (by decide +kernel) (by decide +kernel), tb_mem 131 (by decide +kernel) (by decide +kernel), tb_mem 1671 (by decide +kernel) (by decide +kernel), by decide +kernel⟩
theorem mv_X11_readClause : yX11_readClause.cls = clC 11 ∧ Cond.instanceMethod yX11_readClause ∈ Tb ∧ Cond.selects (clC 11) yX11_readClause yX11_readClause ∈ Tb := ⟨rfl, tb_mem 1670 (by decide +kernel) (by decide +kernel), tb_mem 71 (by decide +kernel) (by decide +kernel)⟩
theorem fl_RX11_194 : FL RX11 194 11 10 := ⟨by decide, by decide, tb_mem 1344 (by decide +kernel) (by decide +kernel)⟩
theorem ml_RX11_229 : ML RX11 229 yX11_splits cX11_splits 6 none 1 := ⟨tb_mem 1594 (by decide +kernel) (by decide +kernel), tb_mem 131 (by decide +kernel) (by decide +kernel), tb_mem 1597 (by decide +kernel) (by decide +kernel), by decide +kernel⟩
theorem mv_X11_splits : yX11_splits.cls = clC 11 ∧ Cond.instanceMethod yX11_splits ∈ Tb ∧ Cond.selects (clC 11) yX11_splits yX11_splits ∈ Tb := ⟨rfl, tb_mem 1596 (by decide +kernel) (by decide +kernel), tb_mem 55 (by decide +kernel) (by decide +kernel)⟩
theorem ml_RX11_232 : ML RX11 232 yX11_readOne cX11_readOne 1 none 0 := ⟨tb_mem 1609 (by decide +kernel) (by decide +kernel), tb_mem 131 (by decide +kernel) (by decide +kernel), tb_mem 1612 (by decide +kernel) (by decide +kernel), by decide +kernel⟩
theorem mv_X11_readOne : yX11_readOne.cls = clC 11 ∧ Cond.instanceMethod yX11_readOne ∈ Tb ∧ Cond.selects (clC 11) yX11_readOne yX11_readOne ∈ Tb := ⟨rfl, tb_mem 1611 (by decide +kernel) (by decide +kernel), tb_mem 57 (by decide +kernel) (by decide +kernel)⟩
theorem fl_RX11_47 : FL RX11 47 11 14 := ⟨by decide, by decide, tb_mem 1348 (by decide +kernel) (by decide +kernel)⟩
theorem ml_RX11_235 : ML RX11 235 yX11_reads cX11_reads 2 (some .boolean) 0 := ⟨tb_mem 1590 (by decide +kernel) (by decide +kernel), tb_mem 131 (by decide +kernel) (by decide +kernel), tb_mem 1593 (by decide +kernel) (by decide +kernel), by decide +kernel⟩
theorem mv_X11_reads : yX11_reads.cls = clC 11 ∧ Cond.instanceMethod yX11_reads ∈ Tb ∧ Cond.selects (clC 11) yX11_reads yX11_reads ∈ Tb := ⟨rfl, tb_mem 1592 (by decide +kernel) (by decide +kernel), tb_mem 54 (by decide +kernel) (by decide +kernel)⟩
theorem ml_RX11_238 : ML RX11 238 yX11_readsAs cX11_readsAs 2 (some .boolean) 1 := ⟨tb_mem 1586 (by decide +kernel) (by decide +kernel), tb_mem 131 (by decide +kernel) (by decide +kernel), tb_mem 1589 (by decide +kernel) (by decide +kernel), by decide +kernel⟩
theorem mv_X11_readsAs : yX11_readsAs.cls = clC 11 ∧ Cond.instanceMethod yX11_readsAs ∈ Tb ∧ Cond.selects (clC 11) yX11_readsAs yX11_readsAs ∈ Tb := ⟨rfl, tb_mem 1588 (by decide +kernel) (by decide +kernel), tb_mem 53 (by decide +kernel) (by decide +kernel)⟩
theorem ml_RX11_242 : ML RX11 242 yX11_lays cX11_lays 3 none 1 := ⟨tb_mem 1672 (by decide +kernel) (by decide +kernel), tb_mem 131 (by decide +kernel) (by decide +kernel), tb_mem 1675 (by decide +kernel) (by decide +kernel), by decide +kernel⟩
theorem mv_X11_lays : yX11_lays.cls = clC 11 ∧ Cond.instanceMethod yX11_lays ∈ Tb ∧ Cond.selects (clC 11) yX11_lays yX11_lays ∈ Tb := ⟨rfl, tb_mem 1674 (by decide +kernel) (by decide +kernel), tb_mem 72 (by decide +kernel) (by decide +kernel)⟩
theorem fl_RX11_245 : FL RX11 245 11 23 := ⟨by decide, by decide, tb_mem 1357 (by decide +kernel) (by decide +kernel)⟩
theorem ml_RX11_251 : ML RX11 251 yX11_codeAt cX11_codeAt 2 (some .int) 1 := ⟨tb_mem 1708 (by decide +kernel) (by decide +kernel), tb_mem 131 (by decide +kernel) (by decide +kernel), tb_mem 1711 (by decide +kernel) (by decide +kernel), by decide +kernel⟩
theorem mv_X11_codeAt : yX11_codeAt.cls = clC 11 ∧ Cond.instanceMethod yX11_codeAt ∈ Tb ∧ Cond.selects (clC 11) yX11_codeAt yX11_codeAt ∈ Tb := ⟨rfl, tb_mem 1710 (by decide +kernel) (by decide +kernel), tb_mem 78 (by decide +kernel) (by decide +kernel)⟩
theorem fl_RX11_248 : FL RX11 248 11 22 := ⟨by decide, by decide, tb_mem 1356 (by decide +kernel) (by decide +kernel)⟩
theorem kl_RX11_254 : Cond.constantLong RX11 254 (1000000000) ∈ Tb := tb_mem 1733 (by decide +kernel) (by decide +kernel)
theorem kl_RX11_256 : Cond.constantLong RX11 256 (-1000000000) ∈ Tb := tb_mem 1734 (by decide +kernel) (by decide +kernel)
theorem fl_RX11_258 : FL RX11 258 11 24 := ⟨by decide, by decide, tb_mem 1358 (by decide +kernel) (by decide +kernel)⟩
theorem ml_RX11_261 : ML RX11 261 yX11_termOf cX11_termOf 7 (some .long) 1 := ⟨tb_mem 1716 (by decide +kernel) (by decide +kernel), tb_mem 131 (by decide +kernel) (by decide +kernel), tb_mem 1719 (by decide +kernel) (by decide +kernel), by decide +kernel⟩
theorem mv_X11_termOf : yX11_termOf.cls = clC 11 ∧ Cond.instanceMethod yX11_termOf ∈ Tb ∧ Cond.selects (clC 11) yX11_termOf yX11_termOf ∈ Tb := ⟨rfl, tb_mem 1718 (by decide +kernel) (by decide +kernel), tb_mem 80 (by decide +kernel) (by decide +kernel)⟩
theorem ml_RX11_265 : ML RX11 265 yX11_bounded cX11_bounded 4 (some .long) 2 := ⟨tb_mem 1729 (by decide +kernel) (by decide +kernel), tb_mem 131 (by decide +kernel) (by decide +kernel), tb_mem 1732 (by decide +kernel) (by decide +kernel), by decide +kernel⟩
theorem mv_X11_bounded : yX11_bounded.cls = clC 11 ∧ Cond.instanceMethod yX11_bounded ∈ Tb ∧ Cond.selects (clC 11) yX11_bounded yX11_bounded ∈ Tb := ⟨rfl, tb_mem 1731 (by decide +kernel) (by decide +kernel), tb_mem 83 (by decide +kernel) (by decide +kernel)⟩
theorem ml_RX11_269 : ML RX11 269 yX11_partOf cX11_partOf 4 (some .long) 1 := ⟨tb_mem 1720 (by decide +kernel) (by decide +kernel), tb_mem 131 (by decide +kernel) (by decide +kernel), tb_mem 1723 (by decide +kernel) (by decide +kernel), by decide +kernel⟩
theorem mv_X11_partOf : yX11_partOf.cls = clC 11 ∧ Cond.instanceMethod yX11_partOf ∈ Tb ∧ Cond.selects (clC 11) yX11_partOf yX11_partOf ∈ Tb := ⟨rfl, tb_mem 1722 (by decide +kernel) (by decide +kernel), tb_mem 81 (by decide +kernel) (by decide +kernel)⟩
theorem ml_RX11_272 : ML RX11 272 yX11_passes0 cX11_passes0 3 (some .boolean) 1 := ⟨tb_mem 1724 (by decide +kernel) (by decide +kernel), tb_mem 131 (by decide +kernel) (by decide +kernel), tb_mem 1727 (by decide +kernel) (by decide +kernel), by decide +kernel⟩
theorem mv_X11_passes0 : yX11_passes0.cls = clC 11 ∧ Cond.instanceMethod yX11_passes0 ∈ Tb ∧ Cond.selects (clC 11) yX11_passes0 yX11_passes0 ∈ Tb := ⟨rfl, tb_mem 1726 (by decide +kernel) (by decide +kernel), tb_mem 82 (by decide +kernel) (by decide +kernel)⟩
theorem ml_RX11_275 : ML RX11 275 yX11_sumOf cX11_sumOf 7 (some .long) 1 := ⟨tb_mem 1712 (by decide +kernel) (by decide +kernel), tb_mem 131 (by decide +kernel) (by decide +kernel), tb_mem 1715 (by decide +kernel) (by decide +kernel), by decide +kernel⟩
theorem mv_X11_sumOf : yX11_sumOf.cls = clC 11 ∧ Cond.instanceMethod yX11_sumOf ∈ Tb ∧ Cond.selects (clC 11) yX11_sumOf yX11_sumOf ∈ Tb := ⟨rfl, tb_mem 1714 (by decide +kernel) (by decide +kernel), tb_mem 79 (by decide +kernel) (by decide +kernel)⟩
theorem kl_RX11_278 : Cond.constantLong RX11 278 (-1) ∈ Tb := tb_mem 1728 (by decide +kernel) (by decide +kernel)
theorem fl_RX11_59 : FL RX11 59 11 25 := ⟨by decide, by decide, tb_mem 1359 (by decide +kernel) (by decide +kernel)⟩
theorem ml_RX11_280 : ML RX11 280 yX11_bothOf cX11_bothOf 4 (some .boolean) 1 := ⟨tb_mem 1739 (by decide +kernel) (by decide +kernel), tb_mem 131 (by decide +kernel) (by decide +kernel), tb_mem 1742 (by decide +kernel) (by decide +kernel), by decide +kernel⟩
theorem mv_X11_bothOf : yX11_bothOf.cls = clC 11 ∧ Cond.instanceMethod yX11_bothOf ∈ Tb ∧ Cond.selects (clC 11) yX11_bothOf yX11_bothOf ∈ Tb := ⟨rfl, tb_mem 1741 (by decide +kernel) (by decide +kernel), tb_mem 85 (by decide +kernel) (by decide +kernel)⟩
theorem ml_RX11_283 : ML RX11 283 yX11_plainOf cX11_plainOf 3 (some .boolean) 1 := ⟨tb_mem 1743 (by decide +kernel) (by decide +kernel), tb_mem 131 (by decide +kernel) (by decide +kernel), tb_mem 1746 (by decide +kernel) (by decide +kernel), by decide +kernel⟩
theorem mv_X11_plainOf : yX11_plainOf.cls = clC 11 ∧ Cond.instanceMethod yX11_plainOf ∈ Tb ∧ Cond.selects (clC 11) yX11_plainOf yX11_plainOf ∈ Tb := ⟨rfl, tb_mem 1745 (by decide +kernel) (by decide +kernel), tb_mem 86 (by decide +kernel) (by decide +kernel)⟩
theorem ml_RX11_286 : ML RX11 286 yX11_positiveOf cX11_positiveOf 7 (some .boolean) 1 := ⟨tb_mem 1747 (by decide +kernel) (by decide +kernel), tb_mem 131 (by decide +kernel) (by decide +kernel), tb_mem 1750 (by decide +kernel) (by decide +kernel), by decide +kernel⟩
theorem mv_X11_positiveOf : yX11_positiveOf.cls = clC 11 ∧ Cond.instanceMethod yX11_positiveOf ∈ Tb ∧ Cond.selects (clC 11) yX11_positiveOf yX11_positiveOf ∈ Tb := ⟨rfl, tb_mem 1749 (by decide +kernel) (by decide +kernel), tb_mem 87 (by decide +kernel) (by decide +kernel)⟩
theorem ml_RX11_289 : ML RX11 289 yX11_testOf cX11_testOf 4 (some .boolean) 1 := ⟨tb_mem 1735 (by decide +kernel) (by decide +kernel), tb_mem 131 (by decide +kernel) (by decide +kernel), tb_mem 1738 (by decide +kernel) (by decide +kernel), by decide +kernel⟩
theorem mv_X11_testOf : yX11_testOf.cls = clC 11 ∧ Cond.instanceMethod yX11_testOf ∈ Tb ∧ Cond.selects (clC 11) yX11_testOf yX11_testOf ∈ Tb := ⟨rfl, tb_mem 1737 (by decide +kernel) (by decide +kernel), tb_mem 84 (by decide +kernel) (by decide +kernel)⟩
theorem ml_RX11_292 : ML RX11 292 yX11_fogOn cX11_fogOn 2 (some .int) 1 := ⟨tb_mem 1696 (by decide +kernel) (by decide +kernel), tb_mem 131 (by decide +kernel) (by decide +kernel), tb_mem 1699 (by decide +kernel) (by decide +kernel), by decide +kernel⟩
theorem mv_X11_fogOn : yX11_fogOn.cls = clC 11 ∧ Cond.instanceMethod yX11_fogOn ∈ Tb ∧ Cond.selects (clC 11) yX11_fogOn yX11_fogOn ∈ Tb := ⟨rfl, tb_mem 1698 (by decide +kernel) (by decide +kernel), tb_mem 75 (by decide +kernel) (by decide +kernel)⟩
theorem ml_RX11_295 : ML RX11 295 yX11_sets cX11_sets 6 none 5 := ⟨tb_mem 1700 (by decide +kernel) (by decide +kernel), tb_mem 131 (by decide +kernel) (by decide +kernel), tb_mem 1703 (by decide +kernel) (by decide +kernel), by decide +kernel⟩
theorem mv_X11_sets : yX11_sets.cls = clC 11 ∧ Cond.instanceMethod yX11_sets ∈ Tb ∧ Cond.selects (clC 11) yX11_sets yX11_sets ∈ Tb := ⟨rfl, tb_mem 1702 (by decide +kernel) (by decide +kernel), tb_mem 76 (by decide +kernel) (by decide +kernel)⟩
theorem ml_RX11_299 : ML RX11 299 yX11_setsNow cX11_setsNow 2 none 1 := ⟨tb_mem 1692 (by decide +kernel) (by decide +kernel), tb_mem 131 (by decide +kernel) (by decide +kernel), tb_mem 1695 (by decide +kernel) (by decide +kernel), by decide +kernel⟩
theorem mv_X11_setsNow : yX11_setsNow.cls = clC 11 ∧ Cond.instanceMethod yX11_setsNow ∈ Tb ∧ Cond.selects (clC 11) yX11_setsNow yX11_setsNow ∈ Tb := ⟨rfl, tb_mem 1694 (by decide +kernel) (by decide +kernel), tb_mem 74 (by decide +kernel) (by decide +kernel)⟩
theorem ml_RX11_302 : ML RX11 302 yX11_tells cX11_tells 11 (some .int) 3 := ⟨tb_mem 1704 (by decide +kernel) (by decide +kernel), tb_mem 131 (by decide +kernel) (by decide +kernel), tb_mem 1707 (by decide +kernel) (by decide +kernel), by decide +kernel⟩
theorem mv_X11_tells : yX11_tells.cls = clC 11 ∧ Cond.instanceMethod yX11_tells ∈ Tb ∧ Cond.selects (clC 11) yX11_tells yX11_tells ∈ Tb := ⟨rfl, tb_mem 1706 (by decide +kernel) (by decide +kernel), tb_mem 77 (by decide +kernel) (by decide +kernel)⟩
theorem ml_RX11_306 : ML RX11 306 yX11_takesNow cX11_takesNow 2 (some .int) 1 := ⟨tb_mem 1688 (by decide +kernel) (by decide +kernel), tb_mem 131 (by decide +kernel) (by decide +kernel), tb_mem 1691 (by decide +kernel) (by decide +kernel), by decide +kernel⟩
theorem mv_X11_takesNow : yX11_takesNow.cls = clC 11 ∧ Cond.instanceMethod yX11_takesNow ∈ Tb ∧ Cond.selects (clC 11) yX11_takesNow yX11_takesNow ∈ Tb := ⟨rfl, tb_mem 1690 (by decide +kernel) (by decide +kernel), tb_mem 73 (by decide +kernel) (by decide +kernel)⟩
theorem ml_RX11_309 : ML RX11 309 yX11_costsNow cX11_costsNow 2 (some .int) 1 := ⟨tb_mem 1751 (by decide +kernel) (by decide +kernel), tb_mem 131 (by decide +kernel) (by decide +kernel), tb_mem 1754 (by decide +kernel) (by decide +kernel), by decide +kernel⟩
theorem mv_X11_costsNow : yX11_costsNow.cls = clC 11 ∧ Cond.instanceMethod yX11_costsNow ∈ Tb ∧ Cond.selects (clC 11) yX11_costsNow yX11_costsNow ∈ Tb := ⟨rfl, tb_mem 1753 (by decide +kernel) (by decide +kernel), tb_mem 88 (by decide +kernel) (by decide +kernel)⟩
theorem ml_RX11_312 : ML RX11 312 yX11_lodgesNow cX11_lodgesNow 2 (some .int) 1 := ⟨tb_mem 1755 (by decide +kernel) (by decide +kernel), tb_mem 131 (by decide +kernel) (by decide +kernel), tb_mem 1758 (by decide +kernel) (by decide +kernel), by decide +kernel⟩
theorem mv_X11_lodgesNow : yX11_lodgesNow.cls = clC 11 ∧ Cond.instanceMethod yX11_lodgesNow ∈ Tb ∧ Cond.selects (clC 11) yX11_lodgesNow yX11_lodgesNow ∈ Tb := ⟨rfl, tb_mem 1757 (by decide +kernel) (by decide +kernel), tb_mem 89 (by decide +kernel) (by decide +kernel)⟩
theorem ml_RX11_315 : ML RX11 315 yX11_isBarred cX11_isBarred 5 (some .boolean) 4 := ⟨tb_mem 1759 (by decide +kernel) (by decide +kernel), tb_mem 131 (by decide +kernel) (by decide +kernel), tb_mem 1762 (by decide +kernel) (by decide +kernel), by decide +kernel⟩
theorem mv_X11_isBarred : yX11_isBarred.cls = clC 11 ∧ Cond.instanceMethod yX11_isBarred ∈ Tb ∧ Cond.selects (clC 11) yX11_isBarred yX11_isBarred ∈ Tb := ⟨rfl, tb_mem 1761 (by decide +kernel) (by decide +kernel), tb_mem 90 (by decide +kernel) (by decide +kernel)⟩
theorem ml_RX11_319 : ML RX11 319 yX11_spoilsBy cX11_spoilsBy 3 (some .int) 2 := ⟨tb_mem 1763 (by decide +kernel) (by decide +kernel), tb_mem 131 (by decide +kernel) (by decide +kernel), tb_mem 1766 (by decide +kernel) (by decide +kernel), by decide +kernel⟩
theorem mv_X11_spoilsBy : yX11_spoilsBy.cls = clC 11 ∧ Cond.instanceMethod yX11_spoilsBy ∈ Tb ∧ Cond.selects (clC 11) yX11_spoilsBy yX11_spoilsBy ∈ Tb := ⟨rfl, tb_mem 1765 (by decide +kernel) (by decide +kernel), tb_mem 91 (by decide +kernel) (by decide +kernel)⟩
theorem fl_RX11_62 : FL RX11 62 11 26 := ⟨by decide, by decide, tb_mem 1360 (by decide +kernel) (by decide +kernel)⟩
theorem ml_RX11_322 : ML RX11 322 yX11_keeps cX11_keeps 4 none 1 := ⟨tb_mem 1779 (by decide +kernel) (by decide +kernel), tb_mem 131 (by decide +kernel) (by decide +kernel), tb_mem 1782 (by decide +kernel) (by decide +kernel), by decide +kernel⟩
theorem mv_X11_keeps : yX11_keeps.cls = clC 11 ∧ Cond.instanceMethod yX11_keeps ∈ Tb ∧ Cond.selects (clC 11) yX11_keeps yX11_keeps ∈ Tb := ⟨rfl, tb_mem 1781 (by decide +kernel) (by decide +kernel), tb_mem 93 (by decide +kernel) (by decide +kernel)⟩
theorem ml_RX11_325 : ML RX11 325 yX11_isIn cX11_isIn 2 (some .boolean) 2 := ⟨tb_mem 1795 (by decide +kernel) (by decide +kernel), tb_mem 131 (by decide +kernel) (by decide +kernel), tb_mem 1797 (by decide +kernel) (by decide +kernel), by decide +kernel⟩
theorem mv_X11_isIn : Cond.static yX11_isIn ∈ Tb := tb_mem 1796 (by decide +kernel) (by decide +kernel)
theorem ml_RX11_328 : ML RX11 328 yX11_mayLight cX11_mayLight 2 (some .boolean) 1 := ⟨tb_mem 1798 (by decide +kernel) (by decide +kernel), tb_mem 131 (by decide +kernel) (by decide +kernel), tb_mem 1801 (by decide +kernel) (by decide +kernel), by decide +kernel⟩
theorem mv_X11_mayLight : yX11_mayLight.cls = clC 11 ∧ Cond.instanceMethod yX11_mayLight ∈ Tb ∧ Cond.selects (clC 11) yX11_mayLight yX11_mayLight ∈ Tb := ⟨rfl, tb_mem 1800 (by decide +kernel) (by decide +kernel), tb_mem 96 (by decide +kernel) (by decide +kernel)⟩
theorem ml_RX11_331 : ML RX11 331 yX11_needOn cX11_needOn 1 (some .int) 1 := ⟨tb_mem 1802 (by decide +kernel) (by decide +kernel), tb_mem 131 (by decide +kernel) (by decide +kernel), tb_mem 1804 (by decide +kernel) (by decide +kernel), by decide +kernel⟩
theorem mv_X11_needOn : Cond.static yX11_needOn ∈ Tb := tb_mem 1803 (by decide +kernel) (by decide +kernel)
theorem ml_RX11_334 : ML RX11 334 yX11_doTalk cX11_doTalk 3 (some .boolean) 2 := ⟨tb_mem 1805 (by decide +kernel) (by decide +kernel), tb_mem 131 (by decide +kernel) (by decide +kernel), tb_mem 1808 (by decide +kernel) (by decide +kernel), by decide +kernel⟩
theorem mv_X11_doTalk : yX11_doTalk.cls = clC 11 ∧ Cond.instanceMethod yX11_doTalk ∈ Tb ∧ Cond.selects (clC 11) yX11_doTalk yX11_doTalk ∈ Tb := ⟨rfl, tb_mem 1807 (by decide +kernel) (by decide +kernel), tb_mem 97 (by decide +kernel) (by decide +kernel)⟩
theorem ml_RX11_337 : ML RX11 337 yX11_lesser cX11_lesser 2 (some .int) 2 := ⟨tb_mem 1809 (by decide +kernel) (by decide +kernel), tb_mem 131 (by decide +kernel) (by decide +kernel), tb_mem 1811 (by decide +kernel) (by decide +kernel), by decide +kernel⟩
theorem mv_X11_lesser : Cond.static yX11_lesser ∈ Tb := tb_mem 1810 (by decide +kernel) (by decide +kernel)
theorem ml_RX11_340 : ML RX11 340 yX11_passesNight cX11_passesNight 2 none 0 := ⟨tb_mem 1812 (by decide +kernel) (by decide +kernel), tb_mem 131 (by decide +kernel) (by decide +kernel), tb_mem 1815 (by decide +kernel) (by decide +kernel), by decide +kernel⟩
theorem mv_X11_passesNight : yX11_passesNight.cls = clC 11 ∧ Cond.instanceMethod yX11_passesNight ∈ Tb ∧ Cond.selects (clC 11) yX11_passesNight yX11_passesNight ∈ Tb := ⟨rfl, tb_mem 1814 (by decide +kernel) (by decide +kernel), tb_mem 98 (by decide +kernel) (by decide +kernel)⟩
theorem ml_RX11_343 : ML RX11 343 yX11_sendsKept cX11_sendsKept 4 (some .int) 1 := ⟨tb_mem 1775 (by decide +kernel) (by decide +kernel), tb_mem 131 (by decide +kernel) (by decide +kernel), tb_mem 1778 (by decide +kernel) (by decide +kernel), by decide +kernel⟩
theorem mv_X11_sendsKept : yX11_sendsKept.cls = clC 11 ∧ Cond.instanceMethod yX11_sendsKept ∈ Tb ∧ Cond.selects (clC 11) yX11_sendsKept yX11_sendsKept ∈ Tb := ⟨rfl, tb_mem 1777 (by decide +kernel) (by decide +kernel), tb_mem 92 (by decide +kernel) (by decide +kernel)⟩
theorem ml_RX11_346 : ML RX11 346 yX11_goodOr cX11_goodOr 2 (some .int) 1 := ⟨tb_mem 1783 (by decide +kernel) (by decide +kernel), tb_mem 131 (by decide +kernel) (by decide +kernel), tb_mem 1786 (by decide +kernel) (by decide +kernel), by decide +kernel⟩
theorem mv_X11_goodOr : yX11_goodOr.cls = clC 11 ∧ Cond.instanceMethod yX11_goodOr ∈ Tb ∧ Cond.selects (clC 11) yX11_goodOr yX11_goodOr ∈ Tb := ⟨rfl, tb_mem 1785 (by decide +kernel) (by decide +kernel), tb_mem 94 (by decide +kernel) (by decide +kernel)⟩
theorem ml_RX11_349 : ML RX11 349 yX11_lightsKept cX11_lightsKept 6 (some .int) 1 := ⟨tb_mem 1791 (by decide +kernel) (by decide +kernel), tb_mem 131 (by decide +kernel) (by decide +kernel), tb_mem 1794 (by decide +kernel) (by decide +kernel), by decide +kernel⟩
theorem mv_X11_lightsKept : yX11_lightsKept.cls = clC 11 ∧ Cond.instanceMethod yX11_lightsKept ∈ Tb ∧ Cond.selects (clC 11) yX11_lightsKept yX11_lightsKept ∈ Tb := ⟨rfl, tb_mem 1793 (by decide +kernel) (by decide +kernel), tb_mem 95 (by decide +kernel) (by decide +kernel)⟩
theorem ml_RX11_352 : ML RX11 352 yX11_darkKept cX11_darkKept 1 (some .int) 0 := ⟨tb_mem 1820 (by decide +kernel) (by decide +kernel), tb_mem 131 (by decide +kernel) (by decide +kernel), tb_mem 1823 (by decide +kernel) (by decide +kernel), by decide +kernel⟩
theorem mv_X11_darkKept : yX11_darkKept.cls = clC 11 ∧ Cond.instanceMethod yX11_darkKept ∈ Tb ∧ Cond.selects (clC 11) yX11_darkKept yX11_darkKept ∈ Tb := ⟨rfl, tb_mem 1822 (by decide +kernel) (by decide +kernel), tb_mem 99 (by decide +kernel) (by decide +kernel)⟩
theorem fl_RX11_80 : FL RX11 80 11 33 := ⟨by decide, by decide, tb_mem 1367 (by decide +kernel) (by decide +kernel)⟩
theorem ml_RX11_361 : ML RX11 361 yX11_forgets cX11_forgets 2 none 0 := ⟨tb_mem 1832 (by decide +kernel) (by decide +kernel), tb_mem 131 (by decide +kernel) (by decide +kernel), tb_mem 1835 (by decide +kernel) (by decide +kernel), by decide +kernel⟩
theorem mv_X11_forgets : yX11_forgets.cls = clC 11 ∧ Cond.instanceMethod yX11_forgets ∈ Tb ∧ Cond.selects (clC 11) yX11_forgets yX11_forgets ∈ Tb := ⟨rfl, tb_mem 1834 (by decide +kernel) (by decide +kernel), tb_mem 101 (by decide +kernel) (by decide +kernel)⟩
theorem fl_RX11_355 : FL RX11 355 11 34 := ⟨by decide, by decide, tb_mem 1368 (by decide +kernel) (by decide +kernel)⟩
theorem fl_RX11_358 : FL RX11 358 11 35 := ⟨by decide, by decide, tb_mem 1369 (by decide +kernel) (by decide +kernel)⟩
theorem fl_RX11_68 : FL RX11 68 11 29 := ⟨by decide, by decide, tb_mem 1363 (by decide +kernel) (by decide +kernel)⟩
theorem fl_RX11_71 : FL RX11 71 11 30 := ⟨by decide, by decide, tb_mem 1364 (by decide +kernel) (by decide +kernel)⟩
theorem fl_RX11_74 : FL RX11 74 11 31 := ⟨by decide, by decide, tb_mem 1365 (by decide +kernel) (by decide +kernel)⟩
theorem ml_RX11_364 : ML RX11 364 yX11_heardBy cX11_heardBy 5 (some .int) 2 := ⟨tb_mem 1848 (by decide +kernel) (by decide +kernel), tb_mem 131 (by decide +kernel) (by decide +kernel), tb_mem 1851 (by decide +kernel) (by decide +kernel), by decide +kernel⟩
theorem mv_X11_heardBy : yX11_heardBy.cls = clC 11 ∧ Cond.instanceMethod yX11_heardBy ∈ Tb ∧ Cond.selects (clC 11) yX11_heardBy yX11_heardBy ∈ Tb := ⟨rfl, tb_mem 1850 (by decide +kernel) (by decide +kernel), tb_mem 105 (by decide +kernel) (by decide +kernel)⟩
theorem ml_RX11_367 : ML RX11 367 yX11_isBarredOn cX11_isBarredOn 6 (some .boolean) 4 := ⟨tb_mem 1852 (by decide +kernel) (by decide +kernel), tb_mem 131 (by decide +kernel) (by decide +kernel), tb_mem 1855 (by decide +kernel) (by decide +kernel), by decide +kernel⟩
theorem mv_X11_isBarredOn : yX11_isBarredOn.cls = clC 11 ∧ Cond.instanceMethod yX11_isBarredOn ∈ Tb ∧ Cond.selects (clC 11) yX11_isBarredOn yX11_isBarredOn ∈ Tb := ⟨rfl, tb_mem 1854 (by decide +kernel) (by decide +kernel), tb_mem 106 (by decide +kernel) (by decide +kernel)⟩
theorem fl_RX11_77 : FL RX11 77 11 32 := ⟨by decide, by decide, tb_mem 1366 (by decide +kernel) (by decide +kernel)⟩
theorem ml_RX11_370 : ML RX11 370 yX11_isCrew cX11_isCrew 6 (some .boolean) 2 := ⟨tb_mem 1860 (by decide +kernel) (by decide +kernel), tb_mem 131 (by decide +kernel) (by decide +kernel), tb_mem 1863 (by decide +kernel) (by decide +kernel), by decide +kernel⟩
theorem mv_X11_isCrew : yX11_isCrew.cls = clC 11 ∧ Cond.instanceMethod yX11_isCrew ∈ Tb ∧ Cond.selects (clC 11) yX11_isCrew yX11_isCrew ∈ Tb := ⟨rfl, tb_mem 1862 (by decide +kernel) (by decide +kernel), tb_mem 108 (by decide +kernel) (by decide +kernel)⟩
theorem ml_RX11_373 : ML RX11 373 yX11_laysWorths cX11_laysWorths 6 none 3 := ⟨tb_mem 1844 (by decide +kernel) (by decide +kernel), tb_mem 131 (by decide +kernel) (by decide +kernel), tb_mem 1847 (by decide +kernel) (by decide +kernel), by decide +kernel⟩
theorem mv_X11_laysWorths : yX11_laysWorths.cls = clC 11 ∧ Cond.instanceMethod yX11_laysWorths ∈ Tb ∧ Cond.selects (clC 11) yX11_laysWorths yX11_laysWorths ∈ Tb := ⟨rfl, tb_mem 1846 (by decide +kernel) (by decide +kernel), tb_mem 104 (by decide +kernel) (by decide +kernel)⟩
theorem ml_RX11_376 : ML RX11 376 yX11_crewBehind cX11_crewBehind 5 (some .int) 2 := ⟨tb_mem 1856 (by decide +kernel) (by decide +kernel), tb_mem 131 (by decide +kernel) (by decide +kernel), tb_mem 1859 (by decide +kernel) (by decide +kernel), by decide +kernel⟩
theorem mv_X11_crewBehind : yX11_crewBehind.cls = clC 11 ∧ Cond.instanceMethod yX11_crewBehind ∈ Tb ∧ Cond.selects (clC 11) yX11_crewBehind yX11_crewBehind ∈ Tb := ⟨rfl, tb_mem 1858 (by decide +kernel) (by decide +kernel), tb_mem 107 (by decide +kernel) (by decide +kernel)⟩
theorem ml_RX11_379 : ML RX11 379 yX11_crewIn cX11_crewIn 5 (some .int) 3 := ⟨tb_mem 1840 (by decide +kernel) (by decide +kernel), tb_mem 131 (by decide +kernel) (by decide +kernel), tb_mem 1843 (by decide +kernel) (by decide +kernel), by decide +kernel⟩
theorem mv_X11_crewIn : yX11_crewIn.cls = clC 11 ∧ Cond.instanceMethod yX11_crewIn ∈ Tb ∧ Cond.selects (clC 11) yX11_crewIn yX11_crewIn ∈ Tb := ⟨rfl, tb_mem 1842 (by decide +kernel) (by decide +kernel), tb_mem 103 (by decide +kernel) (by decide +kernel)⟩
theorem ml_RX11_382 : ML RX11 382 yX11_longestFrom cX11_longestFrom 7 (some .int) 2 := ⟨tb_mem 1836 (by decide +kernel) (by decide +kernel), tb_mem 131 (by decide +kernel) (by decide +kernel), tb_mem 1839 (by decide +kernel) (by decide +kernel), by decide +kernel⟩
theorem mv_X11_longestFrom : yX11_longestFrom.cls = clC 11 ∧ Cond.instanceMethod yX11_longestFrom ∈ Tb ∧ Cond.selects (clC 11) yX11_longestFrom yX11_longestFrom ∈ Tb := ⟨rfl, tb_mem 1838 (by decide +kernel) (by decide +kernel), tb_mem 102 (by decide +kernel) (by decide +kernel)⟩
theorem ml_RX11_385 : ML RX11 385 yX11_looks cX11_looks 4 none 0 := ⟨tb_mem 1828 (by decide +kernel) (by decide +kernel), tb_mem 131 (by decide +kernel) (by decide +kernel), tb_mem 1831 (by decide +kernel) (by decide +kernel), by decide +kernel⟩
theorem mv_X11_looks : yX11_looks.cls = clC 11 ∧ Cond.instanceMethod yX11_looks ∈ Tb ∧ Cond.selects (clC 11) yX11_looks yX11_looks ∈ Tb := ⟨rfl, tb_mem 1830 (by decide +kernel) (by decide +kernel), tb_mem 100 (by decide +kernel) (by decide +kernel)⟩
theorem fl_RX11_90 : FL RX11 90 11 38 := ⟨by decide, by decide, tb_mem 1372 (by decide +kernel) (by decide +kernel)⟩
theorem ml_RX11_388 : ML RX11 388 yX11_cheapestFrom cX11_cheapestFrom 7 (some .int) 3 := ⟨tb_mem 1868 (by decide +kernel) (by decide +kernel), tb_mem 131 (by decide +kernel) (by decide +kernel), tb_mem 1871 (by decide +kernel) (by decide +kernel), by decide +kernel⟩
theorem mv_X11_cheapestFrom : yX11_cheapestFrom.cls = clC 11 ∧ Cond.instanceMethod yX11_cheapestFrom ∈ Tb ∧ Cond.selects (clC 11) yX11_cheapestFrom yX11_cheapestFrom ∈ Tb := ⟨rfl, tb_mem 1870 (by decide +kernel) (by decide +kernel), tb_mem 109 (by decide +kernel) (by decide +kernel)⟩
theorem ml_RX11_391 : ML RX11 391 yX11_priceOf cX11_priceOf 4 (some .int) 1 := ⟨tb_mem 1872 (by decide +kernel) (by decide +kernel), tb_mem 131 (by decide +kernel) (by decide +kernel), tb_mem 1875 (by decide +kernel) (by decide +kernel), by decide +kernel⟩
theorem mv_X11_priceOf : yX11_priceOf.cls = clC 11 ∧ Cond.instanceMethod yX11_priceOf ∈ Tb ∧ Cond.selects (clC 11) yX11_priceOf yX11_priceOf ∈ Tb := ⟨rfl, tb_mem 1874 (by decide +kernel) (by decide +kernel), tb_mem 110 (by decide +kernel) (by decide +kernel)⟩
theorem fl_RX11_83 : FL RX11 83 11 36 := ⟨by decide, by decide, tb_mem 1370 (by decide +kernel) (by decide +kernel)⟩
theorem ml_RX11_394 : ML RX11 394 yX11_rowsFrom cX11_rowsFrom 8 (some .long) 3 := ⟨tb_mem 1880 (by decide +kernel) (by decide +kernel), tb_mem 131 (by decide +kernel) (by decide +kernel), tb_mem 1883 (by decide +kernel) (by decide +kernel), by decide +kernel⟩
theorem mv_X11_rowsFrom : yX11_rowsFrom.cls = clC 11 ∧ Cond.instanceMethod yX11_rowsFrom ∈ Tb ∧ Cond.selects (clC 11) yX11_rowsFrom yX11_rowsFrom ∈ Tb := ⟨rfl, tb_mem 1882 (by decide +kernel) (by decide +kernel), tb_mem 111 (by decide +kernel) (by decide +kernel)⟩
theorem fl_RX11_86 : FL RX11 86 11 37 := ⟨by decide, by decide, tb_mem 1371 (by decide +kernel) (by decide +kernel)⟩
theorem fl_RX11_93 : FL RX11 93 11 39 := ⟨by decide, by decide, tb_mem 1373 (by decide +kernel) (by decide +kernel)⟩
theorem ml_RX11_398 : ML RX11 398 yX11_landsOf cX11_landsOf 4 (some .int) 1 := ⟨tb_mem 1900 (by decide +kernel) (by decide +kernel), tb_mem 131 (by decide +kernel) (by decide +kernel), tb_mem 1903 (by decide +kernel) (by decide +kernel), by decide +kernel⟩
theorem mv_X11_landsOf : yX11_landsOf.cls = clC 11 ∧ Cond.instanceMethod yX11_landsOf ∈ Tb ∧ Cond.selects (clC 11) yX11_landsOf yX11_landsOf ∈ Tb := ⟨rfl, tb_mem 1902 (by decide +kernel) (by decide +kernel), tb_mem 114 (by decide +kernel) (by decide +kernel)⟩
theorem ml_RX11_401 : ML RX11 401 yX11_turnBehind cX11_turnBehind 6 (some .int) 4 := ⟨tb_mem 1896 (by decide +kernel) (by decide +kernel), tb_mem 131 (by decide +kernel) (by decide +kernel), tb_mem 1899 (by decide +kernel) (by decide +kernel), by decide +kernel⟩
theorem mv_X11_turnBehind : yX11_turnBehind.cls = clC 11 ∧ Cond.instanceMethod yX11_turnBehind ∈ Tb ∧ Cond.selects (clC 11) yX11_turnBehind yX11_turnBehind ∈ Tb := ⟨rfl, tb_mem 1898 (by decide +kernel) (by decide +kernel), tb_mem 113 (by decide +kernel) (by decide +kernel)⟩
theorem ml_RX11_405 : ML RX11 405 yX11_turnsFrom cX11_turnsFrom 8 (some .int) 3 := ⟨tb_mem 1892 (by decide +kernel) (by decide +kernel), tb_mem 131 (by decide +kernel) (by decide +kernel), tb_mem 1895 (by decide +kernel) (by decide +kernel), by decide +kernel⟩
theorem mv_X11_turnsFrom : yX11_turnsFrom.cls = clC 11 ∧ Cond.instanceMethod yX11_turnsFrom ∈ Tb ∧ Cond.selects (clC 11) yX11_turnsFrom yX11_turnsFrom ∈ Tb := ⟨rfl, tb_mem 1894 (by decide +kernel) (by decide +kernel), tb_mem 112 (by decide +kernel) (by decide +kernel)⟩
theorem fl_RX11_97 : FL RX11 97 11 40 := ⟨by decide, by decide, tb_mem 1374 (by decide +kernel) (by decide +kernel)⟩
theorem kc_RX11_96 : Cond.constant RX11 96 (180224) ∈ Tb := tb_mem 1333 (by decide +kernel) (by decide +kernel)
theorem ml_RX11_408 : ML RX11 408 yX11_ones cX11_ones 3 (some .int) 1 := ⟨tb_mem 1920 (by decide +kernel) (by decide +kernel), tb_mem 131 (by decide +kernel) (by decide +kernel), tb_mem 1922 (by decide +kernel) (by decide +kernel), by decide +kernel⟩
theorem mv_X11_ones : Cond.static yX11_ones ∈ Tb := tb_mem 1921 (by decide +kernel) (by decide +kernel)
theorem fl_RX11_100 : FL RX11 100 11 41 := ⟨by decide, by decide, tb_mem 1375 (by decide +kernel) (by decide +kernel)⟩
theorem fl_RX11_411 : FL RX11 411 11 42 := ⟨by decide, by decide, tb_mem 1376 (by decide +kernel) (by decide +kernel)⟩
theorem fl_RX11_414 : FL RX11 414 11 43 := ⟨by decide, by decide, tb_mem 1377 (by decide +kernel) (by decide +kernel)⟩
theorem fl_RX11_420 : FL RX11 420 11 45 := ⟨by decide, by decide, tb_mem 1379 (by decide +kernel) (by decide +kernel)⟩
theorem fl_RX11_423 : FL RX11 423 11 48 := ⟨by decide, by decide, tb_mem 1382 (by decide +kernel) (by decide +kernel)⟩
theorem fl_RX11_427 : FL RX11 427 11 46 := ⟨by decide, by decide, tb_mem 1380 (by decide +kernel) (by decide +kernel)⟩
theorem fl_RX11_430 : FL RX11 430 11 44 := ⟨by decide, by decide, tb_mem 1378 (by decide +kernel) (by decide +kernel)⟩
theorem fl_RX11_433 : FL RX11 433 11 47 := ⟨by decide, by decide, tb_mem 1381 (by decide +kernel) (by decide +kernel)⟩
theorem kl_RX11_436 : Cond.constantLong RX11 436 (1000000) ∈ Tb := tb_mem 1946 (by decide +kernel) (by decide +kernel)
theorem ml_RX11_438 : ML RX11 438 yX11_goesAlong cX11_goesAlong 3 none 2 := ⟨tb_mem 1939 (by decide +kernel) (by decide +kernel), tb_mem 131 (by decide +kernel) (by decide +kernel), tb_mem 1942 (by decide +kernel) (by decide +kernel), by decide +kernel⟩
theorem mv_X11_goesAlong : yX11_goesAlong.cls = clC 11 ∧ Cond.instanceMethod yX11_goesAlong ∈ Tb ∧ Cond.selects (clC 11) yX11_goesAlong yX11_goesAlong ∈ Tb := ⟨rfl, tb_mem 1941 (by decide +kernel) (by decide +kernel), tb_mem 116 (by decide +kernel) (by decide +kernel)⟩
theorem ml_RX11_442 : ML RX11 442 yX11_small cX11_small 2 (some .int) 1 := ⟨tb_mem 1943 (by decide +kernel) (by decide +kernel), tb_mem 131 (by decide +kernel) (by decide +kernel), tb_mem 1945 (by decide +kernel) (by decide +kernel), by decide +kernel⟩
theorem mv_X11_small : Cond.static yX11_small ∈ Tb := tb_mem 1944 (by decide +kernel) (by decide +kernel)
theorem ml_RX11_417 : ML RX11 417 yX11_runs cX11_runs 6 (some .boolean) 1 := ⟨tb_mem 1935 (by decide +kernel) (by decide +kernel), tb_mem 131 (by decide +kernel) (by decide +kernel), tb_mem 1938 (by decide +kernel) (by decide +kernel), by decide +kernel⟩
theorem mv_X11_runs : yX11_runs.cls = clC 11 ∧ Cond.instanceMethod yX11_runs ∈ Tb ∧ Cond.selects (clC 11) yX11_runs yX11_runs ∈ Tb := ⟨rfl, tb_mem 1937 (by decide +kernel) (by decide +kernel), tb_mem 115 (by decide +kernel) (by decide +kernel)⟩
theorem fl_RX11_34 : FL RX11 34 11 5 := ⟨by decide, by decide, tb_mem 1339 (by decide +kernel) (by decide +kernel)⟩
theorem fl_RX11_65 : FL RX11 65 11 27 := ⟨by decide, by decide, tb_mem 1361 (by decide +kernel) (by decide +kernel)⟩
theorem kl_RX11_446 : Cond.constantLong RX11 446 (1103) ∈ Tb := tb_mem 1955 (by decide +kernel) (by decide +kernel)
theorem kl_RX11_451 : Cond.constantLong RX11 451 (12345) ∈ Tb := tb_mem 1956 (by decide +kernel) (by decide +kernel)
theorem kl_RX11_453 : Cond.constantLong RX11 453 (1000003) ∈ Tb := tb_mem 1957 (by decide +kernel) (by decide +kernel)
theorem fl_RX11_448 : FL RX11 448 11 51 := ⟨by decide, by decide, tb_mem 1385 (by decide +kernel) (by decide +kernel)⟩
theorem ml_RX11_458 : ML RX11 458 yX11_draws cX11_draws 2 (some .int) 1 := ⟨tb_mem 1951 (by decide +kernel) (by decide +kernel), tb_mem 131 (by decide +kernel) (by decide +kernel), tb_mem 1954 (by decide +kernel) (by decide +kernel), by decide +kernel⟩
theorem mv_X11_draws : yX11_draws.cls = clC 11 ∧ Cond.instanceMethod yX11_draws ∈ Tb ∧ Cond.selects (clC 11) yX11_draws yX11_draws ∈ Tb := ⟨rfl, tb_mem 1953 (by decide +kernel) (by decide +kernel), tb_mem 117 (by decide +kernel) (by decide +kernel)⟩
theorem ml_RX11_461 : ML RX11 461 yX11_laysWorthsOf cX11_laysWorthsOf 6 none 3 := ⟨tb_mem 1958 (by decide +kernel) (by decide +kernel), tb_mem 131 (by decide +kernel) (by decide +kernel), tb_mem 1961 (by decide +kernel) (by decide +kernel), by decide +kernel⟩
theorem mv_X11_laysWorthsOf : yX11_laysWorthsOf.cls = clC 11 ∧ Cond.instanceMethod yX11_laysWorthsOf ∈ Tb ∧ Cond.selects (clC 11) yX11_laysWorthsOf yX11_laysWorthsOf ∈ Tb := ⟨rfl, tb_mem 1960 (by decide +kernel) (by decide +kernel), tb_mem 118 (by decide +kernel) (by decide +kernel)⟩
theorem fl_RX11_103 : FL RX11 103 11 49 := ⟨by decide, by decide, tb_mem 1383 (by decide +kernel) (by decide +kernel)⟩
theorem fl_RX11_455 : FL RX11 455 11 50 := ⟨by decide, by decide, tb_mem 1384 (by decide +kernel) (by decide +kernel)⟩
