theorem ic_m8 : Int32.ofInt (-8) = (-8) := by decide
theorem ic_m1 : Int32.ofInt (-1) = (-1) := by decide
theorem ic_0 : Int32.ofInt 0 = 0 := by decide
theorem ic_1 : Int32.ofInt 1 = 1 := by decide
theorem ic_2 : Int32.ofInt 2 = 2 := by decide
theorem ic_3 : Int32.ofInt 3 = 3 := by decide
theorem ic_4 : Int32.ofInt 4 = 4 := by decide
theorem ic_5 : Int32.ofInt 5 = 5 := by decide
theorem bp_m100 : (Int8.ofInt (-100)).toInt32 = (-100) := by decide
theorem bp_m11 : (Int8.ofInt (-11)).toInt32 = (-11) := by decide
theorem bp_m10 : (Int8.ofInt (-10)).toInt32 = (-10) := by decide
theorem bp_m9 : (Int8.ofInt (-9)).toInt32 = (-9) := by decide
theorem bp_m8 : (Int8.ofInt (-8)).toInt32 = (-8) := by decide
theorem bp_m7 : (Int8.ofInt (-7)).toInt32 = (-7) := by decide
theorem bp_m6 : (Int8.ofInt (-6)).toInt32 = (-6) := by decide
theorem bp_m5 : (Int8.ofInt (-5)).toInt32 = (-5) := by decide
theorem bp_m4 : (Int8.ofInt (-4)).toInt32 = (-4) := by decide
theorem bp_m3 : (Int8.ofInt (-3)).toInt32 = (-3) := by decide
theorem bp_m2 : (Int8.ofInt (-2)).toInt32 = (-2) := by decide
theorem bp_6 : (Int8.ofInt 6).toInt32 = 6 := by decide
theorem bp_7 : (Int8.ofInt 7).toInt32 = 7 := by decide
theorem bp_8 : (Int8.ofInt 8).toInt32 = 8 := by decide
theorem bp_9 : (Int8.ofInt 9).toInt32 = 9 := by decide
theorem bp_10 : (Int8.ofInt 10).toInt32 = 10 := by decide
theorem bp_11 : (Int8.ofInt 11).toInt32 = 11 := by decide
theorem bp_12 : (Int8.ofInt 12).toInt32 = 12 := by decide
theorem bp_13 : (Int8.ofInt 13).toInt32 = 13 := by decide
theorem bp_14 : (Int8.ofInt 14).toInt32 = 14 := by decide
theorem bp_20 : (Int8.ofInt 20).toInt32 = 20 := by decide
theorem bp_21 : (Int8.ofInt 21).toInt32 = 21 := by decide
theorem bp_24 : (Int8.ofInt 24).toInt32 = 24 := by decide
theorem bp_25 : (Int8.ofInt 25).toInt32 = 25 := by decide
theorem bp_30 : (Int8.ofInt 30).toInt32 = 30 := by decide
theorem bp_32 : (Int8.ofInt 32).toInt32 = 32 := by decide
theorem bp_33 : (Int8.ofInt 33).toInt32 = 33 := by decide
theorem bp_40 : (Int8.ofInt 40).toInt32 = 40 := by decide
theorem bp_41 : (Int8.ofInt 41).toInt32 = 41 := by decide
theorem bp_48 : (Int8.ofInt 48).toInt32 = 48 := by decide
theorem bp_50 : (Int8.ofInt 50).toInt32 = 50 := by decide
theorem bp_57 : (Int8.ofInt 57).toInt32 = 57 := by decide
theorem bp_60 : (Int8.ofInt 60).toInt32 = 60 := by decide
theorem bp_71 : (Int8.ofInt 71).toInt32 = 71 := by decide
theorem bp_91 : (Int8.ofInt 91).toInt32 = 91 := by decide
theorem bp_96 : (Int8.ofInt 96).toInt32 = 96 := by decide
theorem bp_97 : (Int8.ofInt 97).toInt32 = 97 := by decide
theorem bp_99 : (Int8.ofInt 99).toInt32 = 99 := by decide
theorem bp_100 : (Int8.ofInt 100).toInt32 = 100 := by decide
theorem bp_101 : (Int8.ofInt 101).toInt32 = 101 := by decide
theorem bp_102 : (Int8.ofInt 102).toInt32 = 102 := by decide
theorem bp_105 : (Int8.ofInt 105).toInt32 = 105 := by decide
theorem bp_110 : (Int8.ofInt 110).toInt32 = 110 := by decide
theorem bp_112 : (Int8.ofInt 112).toInt32 = 112 := by decide
theorem bp_114 : (Int8.ofInt 114).toInt32 = 114 := by decide
theorem bp_115 : (Int8.ofInt 115).toInt32 = 115 := by decide
theorem bp_119 : (Int8.ofInt 119).toInt32 = 119 := by decide
theorem bp_120 : (Int8.ofInt 120).toInt32 = 120 := by decide
theorem bp_121 : (Int8.ofInt 121).toInt32 = 121 := by decide
theorem bp_122 : (Int8.ofInt 122).toInt32 = 122 := by decide
theorem sp_255 : (Int16.ofInt 255).toInt32 = 255 := by decide
theorem sp_1000 : (Int16.ofInt 1000).toInt32 = 1000 := by decide
theorem sp_1443 : (Int16.ofInt 1443).toInt32 = 1443 := by decide
theorem sp_9999 : (Int16.ofInt 9999).toInt32 = 9999 := by decide
theorem sp_10000 : (Int16.ofInt 10000).toInt32 = 10000 := by decide
theorem sp_12345 : (Int16.ofInt 12345).toInt32 = 12345 := by decide
theorem sp_20000 : (Int16.ofInt 20000).toInt32 = 20000 := by decide
theorem sp_20033 : (Int16.ofInt 20033).toInt32 = 20033 := by decide
theorem tn_0 : (0 : Int32).toNatClampNeg = 0 := by decide
theorem tn_1 : (1 : Int32).toNatClampNeg = 1 := by decide
theorem tn_2 : (2 : Int32).toNatClampNeg = 2 := by decide
theorem tn_3 : (3 : Int32).toNatClampNeg = 3 := by decide
theorem tn_4 : (4 : Int32).toNatClampNeg = 4 := by decide
theorem tn_5 : (5 : Int32).toNatClampNeg = 5 := by decide
theorem tn_6 : (6 : Int32).toNatClampNeg = 6 := by decide
theorem tn_7 : (7 : Int32).toNatClampNeg = 7 := by decide
theorem tn_8 : (8 : Int32).toNatClampNeg = 8 := by decide
theorem tn_9 : (9 : Int32).toNatClampNeg = 9 := by decide
theorem tn_10 : (10 : Int32).toNatClampNeg = 10 := by decide
theorem tn_24 : (24 : Int32).toNatClampNeg = 24 := by decide
theorem vi_0_4 : vp_in 0 4 := by unfold vp_in; decide
theorem vi_0_5 : vp_in 0 5 := by unfold vp_in; decide
theorem vi_0_10 : vp_in 0 10 := by unfold vp_in; decide
theorem vi_0_11 : vp_in 0 11 := by unfold vp_in; decide
theorem vi_0_13 : vp_in 0 13 := by unfold vp_in; decide
theorem vi_0_96 : vp_in 0 96 := by unfold vp_in; decide
theorem vi_0_1443 : vp_in 0 1443 := by unfold vp_in; decide
theorem vi_1_4 : vp_in 1 4 := by unfold vp_in; decide
theorem vi_1_5 : vp_in 1 5 := by unfold vp_in; decide
theorem vi_1_11 : vp_in 1 11 := by unfold vp_in; decide
theorem vi_1_1443 : vp_in 1 1443 := by unfold vp_in; decide
theorem vi_2_4 : vp_in 2 4 := by unfold vp_in; decide
theorem vi_2_5 : vp_in 2 5 := by unfold vp_in; decide
theorem vi_2_11 : vp_in 2 11 := by unfold vp_in; decide
theorem vi_2_1443 : vp_in 2 1443 := by unfold vp_in; decide
theorem vi_3_4 : vp_in 3 4 := by unfold vp_in; decide
theorem vi_3_5 : vp_in 3 5 := by unfold vp_in; decide
theorem vi_3_11 : vp_in 3 11 := by unfold vp_in; decide
theorem vi_3_1443 : vp_in 3 1443 := by unfold vp_in; decide
theorem vi_4_5 : vp_in 4 5 := by unfold vp_in; decide
theorem vi_4_11 : vp_in 4 11 := by unfold vp_in; decide
theorem vi_4_1443 : vp_in 4 1443 := by unfold vp_in; decide
theorem vi_5_11 : vp_in 5 11 := by unfold vp_in; decide
theorem vi_5_1443 : vp_in 5 1443 := by unfold vp_in; decide
theorem vi_6_11 : vp_in 6 11 := by unfold vp_in; decide
theorem vi_6_1443 : vp_in 6 1443 := by unfold vp_in; decide
theorem vi_7_11 : vp_in 7 11 := by unfold vp_in; decide
theorem vi_7_1443 : vp_in 7 1443 := by unfold vp_in; decide
theorem vi_8_11 : vp_in 8 11 := by unfold vp_in; decide
theorem vi_8_1443 : vp_in 8 1443 := by unfold vp_in; decide
theorem vi_9_11 : vp_in 9 11 := by unfold vp_in; decide
theorem vi_9_1443 : vp_in 9 1443 := by unfold vp_in; decide
theorem vi_10_11 : vp_in 10 11 := by unfold vp_in; decide
theorem vi_10_1443 : vp_in 10 1443 := by unfold vp_in; decide
