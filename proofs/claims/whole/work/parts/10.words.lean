theorem sv_sub (ws : List Cond) (ps : List Nat) (h : ps.map (fun i => lw_tbl[i]?) = ws.map some) (hg : ws.all goodWord = true) : ∀ w ∈ ws, w ∈ sv_tbl := by
  intro w hw
  have h1 : some w ∈ ps.map (fun i => lw_tbl[i]?) := by rw [h]; exact List.mem_map.mpr ⟨w, hw, rfl⟩
  obtain ⟨i, -, hi⟩ := List.mem_map.mp h1
  exact sv_in i hi (List.all_eq_true.mp hg w hw)
set_option maxRecDepth 20000 in
theorem in_X0 : ∀ w ∈ u_ws RX0 TX0 19, w ∈ sv_tbl := sv_sub _ [175, 177, 179, 181, 183, 185, 187, 189, 191, 193, 195, 197, 199, 201, 203, 205, 207, 209, 211] (by decide +kernel) (by decide +kernel)
set_option maxRecDepth 20000 in
theorem in_X1 : ∀ w ∈ u_ws RX1 TX1 3, w ∈ sv_tbl := sv_sub _ [792, 794, 796] (by decide +kernel) (by decide +kernel)
set_option maxRecDepth 20000 in
theorem in_X2 : ∀ w ∈ u_ws RX2 TX2 2, w ∈ sv_tbl := sv_sub _ [88, 90] (by decide +kernel) (by decide +kernel)
set_option maxRecDepth 20000 in
theorem in_X3 : ∀ w ∈ u_ws RX3 TX3 10, w ∈ sv_tbl := sv_sub _ [111, 113, 115, 117, 119, 121, 123, 125, 127, 129] (by decide +kernel) (by decide +kernel)
set_option maxRecDepth 20000 in
theorem in_X4 : ∀ w ∈ u_ws RX4 TX4 3, w ∈ sv_tbl := sv_sub _ [227, 229, 231] (by decide +kernel) (by decide +kernel)
set_option maxRecDepth 20000 in
theorem in_X5 : ∀ w ∈ u_ws RX5 TX5 5, w ∈ sv_tbl := sv_sub _ [253, 255, 257, 259, 261] (by decide +kernel) (by decide +kernel)
set_option maxRecDepth 20000 in
theorem in_X6 : ∀ w ∈ u_ws RX6 TX6 11, w ∈ sv_tbl := sv_sub _ [275, 277, 279, 281, 283, 285, 287, 289, 291, 293, 295] (by decide +kernel) (by decide +kernel)
set_option maxRecDepth 20000 in
theorem in_X7 : ∀ w ∈ u_ws RX7 TX7 35, w ∈ sv_tbl := sv_sub _ [934, 936, 938, 940, 942, 944, 946, 948, 950, 952, 954, 956, 958, 960, 962, 964, 966, 968, 970, 972, 974, 976, 978, 980, 982, 984, 986, 988, 990, 992, 994, 996, 998, 1000, 1002] (by decide +kernel) (by decide +kernel)
set_option maxRecDepth 20000 in
theorem fw_X2_11 : sv_FW RX2 11 2 0 2 true := ⟨RX2, TX2, rfl, by decide, by decide, in_X2, tyX2_ok, nmX2, rfl, rfl, sv_in 85 (by decide +kernel) (by decide +kernel)⟩
set_option maxRecDepth 20000 in
theorem fw_X6_235 : sv_FW RX6 235 2 0 2 true := ⟨RX2, TX2, rfl, by decide, by decide, in_X2, tyX2_ok, nmX2, rfl, rfl, sv_in 86 (by decide +kernel) (by decide +kernel)⟩
set_option maxRecDepth 20000 in
theorem fw_X2_17 : sv_FW RX2 17 2 1 2 true := ⟨RX2, TX2, rfl, by decide, by decide, in_X2, tyX2_ok, nmX2, rfl, rfl, sv_in 87 (by decide +kernel) (by decide +kernel)⟩
set_option maxRecDepth 20000 in
theorem fw_X3_9 : sv_FW RX3 9 3 0 10 true := ⟨RX3, TX3, rfl, by decide, by decide, in_X3, tyX3_ok, nmX3, rfl, rfl, sv_in 100 (by decide +kernel) (by decide +kernel)⟩
set_option maxRecDepth 20000 in
theorem fw_X3_15 : sv_FW RX3 15 3 1 10 false := ⟨RX3, TX3, rfl, by decide, by decide, in_X3, tyX3_ok, nmX3, rfl, rfl, sv_in 101 (by decide +kernel) (by decide +kernel)⟩
set_option maxRecDepth 20000 in
theorem fw_X6_226 : sv_FW RX6 226 3 1 10 false := ⟨RX3, TX3, rfl, by decide, by decide, in_X3, tyX3_ok, nmX3, rfl, rfl, sv_in 102 (by decide +kernel) (by decide +kernel)⟩
set_option maxRecDepth 20000 in
theorem fw_X3_19 : sv_FW RX3 19 3 2 10 false := ⟨RX3, TX3, rfl, by decide, by decide, in_X3, tyX3_ok, nmX3, rfl, rfl, sv_in 103 (by decide +kernel) (by decide +kernel)⟩
set_option maxRecDepth 20000 in
theorem fw_X3_22 : sv_FW RX3 22 3 3 10 false := ⟨RX3, TX3, rfl, by decide, by decide, in_X3, tyX3_ok, nmX3, rfl, rfl, sv_in 104 (by decide +kernel) (by decide +kernel)⟩
set_option maxRecDepth 20000 in
theorem fw_X3_25 : sv_FW RX3 25 3 4 10 false := ⟨RX3, TX3, rfl, by decide, by decide, in_X3, tyX3_ok, nmX3, rfl, rfl, sv_in 105 (by decide +kernel) (by decide +kernel)⟩
set_option maxRecDepth 20000 in
theorem fw_X3_28 : sv_FW RX3 28 3 5 10 false := ⟨RX3, TX3, rfl, by decide, by decide, in_X3, tyX3_ok, nmX3, rfl, rfl, sv_in 106 (by decide +kernel) (by decide +kernel)⟩
set_option maxRecDepth 20000 in
theorem fw_X3_31 : sv_FW RX3 31 3 6 10 false := ⟨RX3, TX3, rfl, by decide, by decide, in_X3, tyX3_ok, nmX3, rfl, rfl, sv_in 107 (by decide +kernel) (by decide +kernel)⟩
set_option maxRecDepth 20000 in
theorem fw_X3_34 : sv_FW RX3 34 3 7 10 false := ⟨RX3, TX3, rfl, by decide, by decide, in_X3, tyX3_ok, nmX3, rfl, rfl, sv_in 108 (by decide +kernel) (by decide +kernel)⟩
set_option maxRecDepth 20000 in
theorem fw_X3_37 : sv_FW RX3 37 3 8 10 true := ⟨RX3, TX3, rfl, by decide, by decide, in_X3, tyX3_ok, nmX3, rfl, rfl, sv_in 109 (by decide +kernel) (by decide +kernel)⟩
set_option maxRecDepth 20000 in
theorem fw_X3_40 : sv_FW RX3 40 3 9 10 false := ⟨RX3, TX3, rfl, by decide, by decide, in_X3, tyX3_ok, nmX3, rfl, rfl, sv_in 110 (by decide +kernel) (by decide +kernel)⟩
set_option maxRecDepth 20000 in
theorem fw_X0_67 : sv_FW RX0 67 0 0 19 true := ⟨RX0, TX0, rfl, by decide, by decide, in_X0, tyX0_ok, nmX0, rfl, rfl, sv_in 138 (by decide +kernel) (by decide +kernel)⟩
set_option maxRecDepth 20000 in
theorem fw_X0_9 : sv_FW RX0 9 0 1 19 true := ⟨RX0, TX0, rfl, by decide, by decide, in_X0, tyX0_ok, nmX0, rfl, rfl, sv_in 139 (by decide +kernel) (by decide +kernel)⟩
set_option maxRecDepth 20000 in
theorem fw_X6_84 : sv_FW RX6 84 0 1 19 true := ⟨RX0, TX0, rfl, by decide, by decide, in_X0, tyX0_ok, nmX0, rfl, rfl, sv_in 140 (by decide +kernel) (by decide +kernel)⟩
set_option maxRecDepth 20000 in
theorem fw_X0_15 : sv_FW RX0 15 0 2 19 true := ⟨RX0, TX0, rfl, by decide, by decide, in_X0, tyX0_ok, nmX0, rfl, rfl, sv_in 141 (by decide +kernel) (by decide +kernel)⟩
set_option maxRecDepth 20000 in
theorem fw_X6_87 : sv_FW RX6 87 0 2 19 true := ⟨RX0, TX0, rfl, by decide, by decide, in_X0, tyX0_ok, nmX0, rfl, rfl, sv_in 142 (by decide +kernel) (by decide +kernel)⟩
set_option maxRecDepth 20000 in
theorem fw_X0_18 : sv_FW RX0 18 0 3 19 true := ⟨RX0, TX0, rfl, by decide, by decide, in_X0, tyX0_ok, nmX0, rfl, rfl, sv_in 143 (by decide +kernel) (by decide +kernel)⟩
set_option maxRecDepth 20000 in
theorem fw_X6_90 : sv_FW RX6 90 0 3 19 true := ⟨RX0, TX0, rfl, by decide, by decide, in_X0, tyX0_ok, nmX0, rfl, rfl, sv_in 144 (by decide +kernel) (by decide +kernel)⟩
set_option maxRecDepth 20000 in
theorem fw_X0_21 : sv_FW RX0 21 0 4 19 true := ⟨RX0, TX0, rfl, by decide, by decide, in_X0, tyX0_ok, nmX0, rfl, rfl, sv_in 145 (by decide +kernel) (by decide +kernel)⟩
set_option maxRecDepth 20000 in
theorem fw_X6_93 : sv_FW RX6 93 0 4 19 true := ⟨RX0, TX0, rfl, by decide, by decide, in_X0, tyX0_ok, nmX0, rfl, rfl, sv_in 146 (by decide +kernel) (by decide +kernel)⟩
set_option maxRecDepth 20000 in
theorem fw_X0_24 : sv_FW RX0 24 0 5 19 true := ⟨RX0, TX0, rfl, by decide, by decide, in_X0, tyX0_ok, nmX0, rfl, rfl, sv_in 147 (by decide +kernel) (by decide +kernel)⟩
set_option maxRecDepth 20000 in
theorem fw_X6_96 : sv_FW RX6 96 0 5 19 true := ⟨RX0, TX0, rfl, by decide, by decide, in_X0, tyX0_ok, nmX0, rfl, rfl, sv_in 148 (by decide +kernel) (by decide +kernel)⟩
set_option maxRecDepth 20000 in
theorem fw_X0_27 : sv_FW RX0 27 0 6 19 true := ⟨RX0, TX0, rfl, by decide, by decide, in_X0, tyX0_ok, nmX0, rfl, rfl, sv_in 149 (by decide +kernel) (by decide +kernel)⟩
set_option maxRecDepth 20000 in
theorem fw_X6_99 : sv_FW RX6 99 0 6 19 true := ⟨RX0, TX0, rfl, by decide, by decide, in_X0, tyX0_ok, nmX0, rfl, rfl, sv_in 150 (by decide +kernel) (by decide +kernel)⟩
set_option maxRecDepth 20000 in
theorem fw_X0_30 : sv_FW RX0 30 0 7 19 true := ⟨RX0, TX0, rfl, by decide, by decide, in_X0, tyX0_ok, nmX0, rfl, rfl, sv_in 151 (by decide +kernel) (by decide +kernel)⟩
set_option maxRecDepth 20000 in
theorem fw_X6_102 : sv_FW RX6 102 0 7 19 true := ⟨RX0, TX0, rfl, by decide, by decide, in_X0, tyX0_ok, nmX0, rfl, rfl, sv_in 152 (by decide +kernel) (by decide +kernel)⟩
set_option maxRecDepth 20000 in
theorem fw_X0_33 : sv_FW RX0 33 0 8 19 false := ⟨RX0, TX0, rfl, by decide, by decide, in_X0, tyX0_ok, nmX0, rfl, rfl, sv_in 153 (by decide +kernel) (by decide +kernel)⟩
set_option maxRecDepth 20000 in
theorem fw_X6_72 : sv_FW RX6 72 0 8 19 false := ⟨RX0, TX0, rfl, by decide, by decide, in_X0, tyX0_ok, nmX0, rfl, rfl, sv_in 154 (by decide +kernel) (by decide +kernel)⟩
set_option maxRecDepth 20000 in
theorem fw_X0_37 : sv_FW RX0 37 0 9 19 false := ⟨RX0, TX0, rfl, by decide, by decide, in_X0, tyX0_ok, nmX0, rfl, rfl, sv_in 155 (by decide +kernel) (by decide +kernel)⟩
set_option maxRecDepth 20000 in
theorem fw_X6_136 : sv_FW RX6 136 0 9 19 false := ⟨RX0, TX0, rfl, by decide, by decide, in_X0, tyX0_ok, nmX0, rfl, rfl, sv_in 156 (by decide +kernel) (by decide +kernel)⟩
set_option maxRecDepth 20000 in
theorem fw_X0_40 : sv_FW RX0 40 0 10 19 false := ⟨RX0, TX0, rfl, by decide, by decide, in_X0, tyX0_ok, nmX0, rfl, rfl, sv_in 157 (by decide +kernel) (by decide +kernel)⟩
set_option maxRecDepth 20000 in
theorem fw_X6_139 : sv_FW RX6 139 0 10 19 false := ⟨RX0, TX0, rfl, by decide, by decide, in_X0, tyX0_ok, nmX0, rfl, rfl, sv_in 158 (by decide +kernel) (by decide +kernel)⟩
set_option maxRecDepth 20000 in
theorem fw_X0_43 : sv_FW RX0 43 0 11 19 false := ⟨RX0, TX0, rfl, by decide, by decide, in_X0, tyX0_ok, nmX0, rfl, rfl, sv_in 159 (by decide +kernel) (by decide +kernel)⟩
set_option maxRecDepth 20000 in
theorem fw_X6_142 : sv_FW RX6 142 0 11 19 false := ⟨RX0, TX0, rfl, by decide, by decide, in_X0, tyX0_ok, nmX0, rfl, rfl, sv_in 160 (by decide +kernel) (by decide +kernel)⟩
set_option maxRecDepth 20000 in
theorem fw_X0_46 : sv_FW RX0 46 0 12 19 false := ⟨RX0, TX0, rfl, by decide, by decide, in_X0, tyX0_ok, nmX0, rfl, rfl, sv_in 161 (by decide +kernel) (by decide +kernel)⟩
set_option maxRecDepth 20000 in
theorem fw_X6_178 : sv_FW RX6 178 0 12 19 false := ⟨RX0, TX0, rfl, by decide, by decide, in_X0, tyX0_ok, nmX0, rfl, rfl, sv_in 162 (by decide +kernel) (by decide +kernel)⟩
set_option maxRecDepth 20000 in
theorem fw_X0_49 : sv_FW RX0 49 0 13 19 false := ⟨RX0, TX0, rfl, by decide, by decide, in_X0, tyX0_ok, nmX0, rfl, rfl, sv_in 163 (by decide +kernel) (by decide +kernel)⟩
set_option maxRecDepth 20000 in
theorem fw_X6_169 : sv_FW RX6 169 0 13 19 false := ⟨RX0, TX0, rfl, by decide, by decide, in_X0, tyX0_ok, nmX0, rfl, rfl, sv_in 164 (by decide +kernel) (by decide +kernel)⟩
set_option maxRecDepth 20000 in
theorem fw_X0_52 : sv_FW RX0 52 0 14 19 false := ⟨RX0, TX0, rfl, by decide, by decide, in_X0, tyX0_ok, nmX0, rfl, rfl, sv_in 165 (by decide +kernel) (by decide +kernel)⟩
set_option maxRecDepth 20000 in
theorem fw_X6_145 : sv_FW RX6 145 0 14 19 false := ⟨RX0, TX0, rfl, by decide, by decide, in_X0, tyX0_ok, nmX0, rfl, rfl, sv_in 166 (by decide +kernel) (by decide +kernel)⟩
set_option maxRecDepth 20000 in
theorem fw_X0_55 : sv_FW RX0 55 0 15 19 false := ⟨RX0, TX0, rfl, by decide, by decide, in_X0, tyX0_ok, nmX0, rfl, rfl, sv_in 167 (by decide +kernel) (by decide +kernel)⟩
set_option maxRecDepth 20000 in
theorem fw_X6_162 : sv_FW RX6 162 0 15 19 false := ⟨RX0, TX0, rfl, by decide, by decide, in_X0, tyX0_ok, nmX0, rfl, rfl, sv_in 168 (by decide +kernel) (by decide +kernel)⟩
set_option maxRecDepth 20000 in
theorem fw_X0_58 : sv_FW RX0 58 0 16 19 false := ⟨RX0, TX0, rfl, by decide, by decide, in_X0, tyX0_ok, nmX0, rfl, rfl, sv_in 169 (by decide +kernel) (by decide +kernel)⟩
set_option maxRecDepth 20000 in
theorem fw_X6_159 : sv_FW RX6 159 0 16 19 false := ⟨RX0, TX0, rfl, by decide, by decide, in_X0, tyX0_ok, nmX0, rfl, rfl, sv_in 170 (by decide +kernel) (by decide +kernel)⟩
set_option maxRecDepth 20000 in
theorem fw_X0_61 : sv_FW RX0 61 0 17 19 false := ⟨RX0, TX0, rfl, by decide, by decide, in_X0, tyX0_ok, nmX0, rfl, rfl, sv_in 171 (by decide +kernel) (by decide +kernel)⟩
set_option maxRecDepth 20000 in
theorem fw_X6_175 : sv_FW RX6 175 0 17 19 false := ⟨RX0, TX0, rfl, by decide, by decide, in_X0, tyX0_ok, nmX0, rfl, rfl, sv_in 172 (by decide +kernel) (by decide +kernel)⟩
set_option maxRecDepth 20000 in
theorem fw_X0_64 : sv_FW RX0 64 0 18 19 false := ⟨RX0, TX0, rfl, by decide, by decide, in_X0, tyX0_ok, nmX0, rfl, rfl, sv_in 173 (by decide +kernel) (by decide +kernel)⟩
set_option maxRecDepth 20000 in
theorem fw_X6_216 : sv_FW RX6 216 0 18 19 false := ⟨RX0, TX0, rfl, by decide, by decide, in_X0, tyX0_ok, nmX0, rfl, rfl, sv_in 174 (by decide +kernel) (by decide +kernel)⟩
set_option maxRecDepth 20000 in
theorem fw_X4_9 : sv_FW RX4 9 4 0 3 true := ⟨RX4, TX4, rfl, by decide, by decide, in_X4, tyX4_ok, nmX4, rfl, rfl, sv_in 221 (by decide +kernel) (by decide +kernel)⟩
set_option maxRecDepth 20000 in
theorem fw_X6_263 : sv_FW RX6 263 4 0 3 true := ⟨RX4, TX4, rfl, by decide, by decide, in_X4, tyX4_ok, nmX4, rfl, rfl, sv_in 222 (by decide +kernel) (by decide +kernel)⟩
set_option maxRecDepth 20000 in
theorem fw_X4_15 : sv_FW RX4 15 4 1 3 false := ⟨RX4, TX4, rfl, by decide, by decide, in_X4, tyX4_ok, nmX4, rfl, rfl, sv_in 223 (by decide +kernel) (by decide +kernel)⟩
set_option maxRecDepth 20000 in
theorem fw_X6_260 : sv_FW RX6 260 4 1 3 false := ⟨RX4, TX4, rfl, by decide, by decide, in_X4, tyX4_ok, nmX4, rfl, rfl, sv_in 224 (by decide +kernel) (by decide +kernel)⟩
set_option maxRecDepth 20000 in
theorem fw_X4_19 : sv_FW RX4 19 4 2 3 false := ⟨RX4, TX4, rfl, by decide, by decide, in_X4, tyX4_ok, nmX4, rfl, rfl, sv_in 225 (by decide +kernel) (by decide +kernel)⟩
set_option maxRecDepth 20000 in
theorem fw_X6_268 : sv_FW RX6 268 4 2 3 false := ⟨RX4, TX4, rfl, by decide, by decide, in_X4, tyX4_ok, nmX4, rfl, rfl, sv_in 226 (by decide +kernel) (by decide +kernel)⟩
set_option maxRecDepth 20000 in
theorem fw_X5_12 : sv_FW RX5 12 5 0 5 true := ⟨RX5, TX5, rfl, by decide, by decide, in_X5, tyX5_ok, nmX5, rfl, rfl, sv_in 243 (by decide +kernel) (by decide +kernel)⟩
set_option maxRecDepth 20000 in
theorem fw_X6_298 : sv_FW RX6 298 5 0 5 true := ⟨RX5, TX5, rfl, by decide, by decide, in_X5, tyX5_ok, nmX5, rfl, rfl, sv_in 244 (by decide +kernel) (by decide +kernel)⟩
set_option maxRecDepth 20000 in
theorem fw_X5_18 : sv_FW RX5 18 5 1 5 false := ⟨RX5, TX5, rfl, by decide, by decide, in_X5, tyX5_ok, nmX5, rfl, rfl, sv_in 245 (by decide +kernel) (by decide +kernel)⟩
set_option maxRecDepth 20000 in
theorem fw_X6_289 : sv_FW RX6 289 5 1 5 false := ⟨RX5, TX5, rfl, by decide, by decide, in_X5, tyX5_ok, nmX5, rfl, rfl, sv_in 246 (by decide +kernel) (by decide +kernel)⟩
set_option maxRecDepth 20000 in
theorem fw_X5_22 : sv_FW RX5 22 5 2 5 false := ⟨RX5, TX5, rfl, by decide, by decide, in_X5, tyX5_ok, nmX5, rfl, rfl, sv_in 247 (by decide +kernel) (by decide +kernel)⟩
set_option maxRecDepth 20000 in
theorem fw_X6_292 : sv_FW RX6 292 5 2 5 false := ⟨RX5, TX5, rfl, by decide, by decide, in_X5, tyX5_ok, nmX5, rfl, rfl, sv_in 248 (by decide +kernel) (by decide +kernel)⟩
set_option maxRecDepth 20000 in
theorem fw_X5_25 : sv_FW RX5 25 5 3 5 false := ⟨RX5, TX5, rfl, by decide, by decide, in_X5, tyX5_ok, nmX5, rfl, rfl, sv_in 249 (by decide +kernel) (by decide +kernel)⟩
set_option maxRecDepth 20000 in
theorem fw_X6_295 : sv_FW RX6 295 5 3 5 false := ⟨RX5, TX5, rfl, by decide, by decide, in_X5, tyX5_ok, nmX5, rfl, rfl, sv_in 250 (by decide +kernel) (by decide +kernel)⟩
set_option maxRecDepth 20000 in
theorem fw_X5_28 : sv_FW RX5 28 5 4 5 false := ⟨RX5, TX5, rfl, by decide, by decide, in_X5, tyX5_ok, nmX5, rfl, rfl, sv_in 251 (by decide +kernel) (by decide +kernel)⟩
set_option maxRecDepth 20000 in
theorem fw_X6_305 : sv_FW RX6 305 5 4 5 false := ⟨RX5, TX5, rfl, by decide, by decide, in_X5, tyX5_ok, nmX5, rfl, rfl, sv_in 252 (by decide +kernel) (by decide +kernel)⟩
set_option maxRecDepth 20000 in
theorem fw_X6_10 : sv_FW RX6 10 6 0 11 true := ⟨RX6, TX6, rfl, by decide, by decide, in_X6, tyX6_ok, nmX6, rfl, rfl, sv_in 264 (by decide +kernel) (by decide +kernel)⟩
set_option maxRecDepth 20000 in
theorem fw_X6_19 : sv_FW RX6 19 6 1 11 true := ⟨RX6, TX6, rfl, by decide, by decide, in_X6, tyX6_ok, nmX6, rfl, rfl, sv_in 265 (by decide +kernel) (by decide +kernel)⟩
set_option maxRecDepth 20000 in
theorem fw_X6_28 : sv_FW RX6 28 6 2 11 true := ⟨RX6, TX6, rfl, by decide, by decide, in_X6, tyX6_ok, nmX6, rfl, rfl, sv_in 266 (by decide +kernel) (by decide +kernel)⟩
set_option maxRecDepth 20000 in
theorem fw_X6_32 : sv_FW RX6 32 6 3 11 true := ⟨RX6, TX6, rfl, by decide, by decide, in_X6, tyX6_ok, nmX6, rfl, rfl, sv_in 267 (by decide +kernel) (by decide +kernel)⟩
set_option maxRecDepth 20000 in
theorem fw_X6_35 : sv_FW RX6 35 6 4 11 true := ⟨RX6, TX6, rfl, by decide, by decide, in_X6, tyX6_ok, nmX6, rfl, rfl, sv_in 268 (by decide +kernel) (by decide +kernel)⟩
set_option maxRecDepth 20000 in
theorem fw_X6_40 : sv_FW RX6 40 6 5 11 true := ⟨RX6, TX6, rfl, by decide, by decide, in_X6, tyX6_ok, nmX6, rfl, rfl, sv_in 269 (by decide +kernel) (by decide +kernel)⟩
set_option maxRecDepth 20000 in
theorem fw_X6_47 : sv_FW RX6 47 6 6 11 true := ⟨RX6, TX6, rfl, by decide, by decide, in_X6, tyX6_ok, nmX6, rfl, rfl, sv_in 270 (by decide +kernel) (by decide +kernel)⟩
set_option maxRecDepth 20000 in
theorem fw_X6_52 : sv_FW RX6 52 6 7 11 true := ⟨RX6, TX6, rfl, by decide, by decide, in_X6, tyX6_ok, nmX6, rfl, rfl, sv_in 271 (by decide +kernel) (by decide +kernel)⟩
set_option maxRecDepth 20000 in
theorem fw_X6_56 : sv_FW RX6 56 6 8 11 true := ⟨RX6, TX6, rfl, by decide, by decide, in_X6, tyX6_ok, nmX6, rfl, rfl, sv_in 272 (by decide +kernel) (by decide +kernel)⟩
set_option maxRecDepth 20000 in
theorem fw_X6_59 : sv_FW RX6 59 6 9 11 false := ⟨RX6, TX6, rfl, by decide, by decide, in_X6, tyX6_ok, nmX6, rfl, rfl, sv_in 273 (by decide +kernel) (by decide +kernel)⟩
set_option maxRecDepth 20000 in
theorem fw_X6_63 : sv_FW RX6 63 6 10 11 false := ⟨RX6, TX6, rfl, by decide, by decide, in_X6, tyX6_ok, nmX6, rfl, rfl, sv_in 274 (by decide +kernel) (by decide +kernel)⟩
set_option maxRecDepth 20000 in
theorem fw_X1_7 : sv_FW RX1 7 1 0 3 true := ⟨RX1, TX1, rfl, by decide, by decide, in_X1, tyX1_ok, nmX1, rfl, rfl, sv_in 785 (by decide +kernel) (by decide +kernel)⟩
set_option maxRecDepth 20000 in
theorem fw_X2_27 : sv_FW RX2 27 1 0 3 true := ⟨RX1, TX1, rfl, by decide, by decide, in_X1, tyX1_ok, nmX1, rfl, rfl, sv_in 786 (by decide +kernel) (by decide +kernel)⟩
set_option maxRecDepth 20000 in
theorem fw_X6_243 : sv_FW RX6 243 1 0 3 true := ⟨RX1, TX1, rfl, by decide, by decide, in_X1, tyX1_ok, nmX1, rfl, rfl, sv_in 787 (by decide +kernel) (by decide +kernel)⟩
set_option maxRecDepth 20000 in
theorem fw_X1_13 : sv_FW RX1 13 1 1 3 true := ⟨RX1, TX1, rfl, by decide, by decide, in_X1, tyX1_ok, nmX1, rfl, rfl, sv_in 788 (by decide +kernel) (by decide +kernel)⟩
set_option maxRecDepth 20000 in
theorem fw_X6_248 : sv_FW RX6 248 1 1 3 true := ⟨RX1, TX1, rfl, by decide, by decide, in_X1, tyX1_ok, nmX1, rfl, rfl, sv_in 789 (by decide +kernel) (by decide +kernel)⟩
set_option maxRecDepth 20000 in
theorem fw_X1_16 : sv_FW RX1 16 1 2 3 true := ⟨RX1, TX1, rfl, by decide, by decide, in_X1, tyX1_ok, nmX1, rfl, rfl, sv_in 790 (by decide +kernel) (by decide +kernel)⟩
set_option maxRecDepth 20000 in
theorem fw_X2_35 : sv_FW RX2 35 1 2 3 true := ⟨RX1, TX1, rfl, by decide, by decide, in_X1, tyX1_ok, nmX1, rfl, rfl, sv_in 791 (by decide +kernel) (by decide +kernel)⟩
set_option maxRecDepth 20000 in
theorem fw_X7_9 : sv_FW RX7 9 7 0 35 true := ⟨RX7, TX7, rfl, by decide, by decide, in_X7, tyX7_ok, nmX7, rfl, rfl, sv_in 899 (by decide +kernel) (by decide +kernel)⟩
set_option maxRecDepth 20000 in
theorem fw_X7_13 : sv_FW RX7 13 7 1 35 true := ⟨RX7, TX7, rfl, by decide, by decide, in_X7, tyX7_ok, nmX7, rfl, rfl, sv_in 900 (by decide +kernel) (by decide +kernel)⟩
set_option maxRecDepth 20000 in
theorem fw_X7_16 : sv_FW RX7 16 7 2 35 true := ⟨RX7, TX7, rfl, by decide, by decide, in_X7, tyX7_ok, nmX7, rfl, rfl, sv_in 901 (by decide +kernel) (by decide +kernel)⟩
set_option maxRecDepth 20000 in
theorem fw_X7_276 : sv_FW RX7 276 7 3 35 false := ⟨RX7, TX7, rfl, by decide, by decide, in_X7, tyX7_ok, nmX7, rfl, rfl, sv_in 902 (by decide +kernel) (by decide +kernel)⟩
set_option maxRecDepth 20000 in
theorem fw_X7_19 : sv_FW RX7 19 7 4 35 true := ⟨RX7, TX7, rfl, by decide, by decide, in_X7, tyX7_ok, nmX7, rfl, rfl, sv_in 903 (by decide +kernel) (by decide +kernel)⟩
set_option maxRecDepth 20000 in
theorem fw_X7_22 : sv_FW RX7 22 7 5 35 true := ⟨RX7, TX7, rfl, by decide, by decide, in_X7, tyX7_ok, nmX7, rfl, rfl, sv_in 904 (by decide +kernel) (by decide +kernel)⟩
set_option maxRecDepth 20000 in
theorem fw_X7_25 : sv_FW RX7 25 7 6 35 true := ⟨RX7, TX7, rfl, by decide, by decide, in_X7, tyX7_ok, nmX7, rfl, rfl, sv_in 905 (by decide +kernel) (by decide +kernel)⟩
set_option maxRecDepth 20000 in
theorem fw_X7_28 : sv_FW RX7 28 7 7 35 true := ⟨RX7, TX7, rfl, by decide, by decide, in_X7, tyX7_ok, nmX7, rfl, rfl, sv_in 906 (by decide +kernel) (by decide +kernel)⟩
set_option maxRecDepth 20000 in
theorem fw_X7_197 : sv_FW RX7 197 7 8 35 false := ⟨RX7, TX7, rfl, by decide, by decide, in_X7, tyX7_ok, nmX7, rfl, rfl, sv_in 907 (by decide +kernel) (by decide +kernel)⟩
set_option maxRecDepth 20000 in
theorem fw_X7_201 : sv_FW RX7 201 7 9 35 false := ⟨RX7, TX7, rfl, by decide, by decide, in_X7, tyX7_ok, nmX7, rfl, rfl, sv_in 908 (by decide +kernel) (by decide +kernel)⟩
set_option maxRecDepth 20000 in
theorem fw_X7_204 : sv_FW RX7 204 7 10 35 false := ⟨RX7, TX7, rfl, by decide, by decide, in_X7, tyX7_ok, nmX7, rfl, rfl, sv_in 909 (by decide +kernel) (by decide +kernel)⟩
set_option maxRecDepth 20000 in
theorem fw_X7_210 : sv_FW RX7 210 7 11 35 false := ⟨RX7, TX7, rfl, by decide, by decide, in_X7, tyX7_ok, nmX7, rfl, rfl, sv_in 910 (by decide +kernel) (by decide +kernel)⟩
set_option maxRecDepth 20000 in
theorem fw_X7_216 : sv_FW RX7 216 7 12 35 false := ⟨RX7, TX7, rfl, by decide, by decide, in_X7, tyX7_ok, nmX7, rfl, rfl, sv_in 911 (by decide +kernel) (by decide +kernel)⟩
set_option maxRecDepth 20000 in
theorem fw_X7_207 : sv_FW RX7 207 7 13 35 false := ⟨RX7, TX7, rfl, by decide, by decide, in_X7, tyX7_ok, nmX7, rfl, rfl, sv_in 912 (by decide +kernel) (by decide +kernel)⟩
set_option maxRecDepth 20000 in
theorem fw_X7_222 : sv_FW RX7 222 7 14 35 false := ⟨RX7, TX7, rfl, by decide, by decide, in_X7, tyX7_ok, nmX7, rfl, rfl, sv_in 913 (by decide +kernel) (by decide +kernel)⟩
set_option maxRecDepth 20000 in
theorem fw_X7_31 : sv_FW RX7 31 7 15 35 true := ⟨RX7, TX7, rfl, by decide, by decide, in_X7, tyX7_ok, nmX7, rfl, rfl, sv_in 914 (by decide +kernel) (by decide +kernel)⟩
set_option maxRecDepth 20000 in
theorem fw_X7_35 : sv_FW RX7 35 7 16 35 true := ⟨RX7, TX7, rfl, by decide, by decide, in_X7, tyX7_ok, nmX7, rfl, rfl, sv_in 915 (by decide +kernel) (by decide +kernel)⟩
set_option maxRecDepth 20000 in
theorem fw_X7_38 : sv_FW RX7 38 7 17 35 true := ⟨RX7, TX7, rfl, by decide, by decide, in_X7, tyX7_ok, nmX7, rfl, rfl, sv_in 916 (by decide +kernel) (by decide +kernel)⟩
set_option maxRecDepth 20000 in
theorem fw_X7_234 : sv_FW RX7 234 7 18 35 false := ⟨RX7, TX7, rfl, by decide, by decide, in_X7, tyX7_ok, nmX7, rfl, rfl, sv_in 917 (by decide +kernel) (by decide +kernel)⟩
set_option maxRecDepth 20000 in
theorem fw_X7_240 : sv_FW RX7 240 7 19 35 false := ⟨RX7, TX7, rfl, by decide, by decide, in_X7, tyX7_ok, nmX7, rfl, rfl, sv_in 918 (by decide +kernel) (by decide +kernel)⟩
set_option maxRecDepth 20000 in
theorem fw_X7_41 : sv_FW RX7 41 7 20 35 true := ⟨RX7, TX7, rfl, by decide, by decide, in_X7, tyX7_ok, nmX7, rfl, rfl, sv_in 919 (by decide +kernel) (by decide +kernel)⟩
set_option maxRecDepth 20000 in
theorem fw_X7_228 : sv_FW RX7 228 7 21 35 false := ⟨RX7, TX7, rfl, by decide, by decide, in_X7, tyX7_ok, nmX7, rfl, rfl, sv_in 920 (by decide +kernel) (by decide +kernel)⟩
set_option maxRecDepth 20000 in
theorem fw_X7_44 : sv_FW RX7 44 7 22 35 true := ⟨RX7, TX7, rfl, by decide, by decide, in_X7, tyX7_ok, nmX7, rfl, rfl, sv_in 921 (by decide +kernel) (by decide +kernel)⟩
set_option maxRecDepth 20000 in
theorem fw_X7_48 : sv_FW RX7 48 7 23 35 true := ⟨RX7, TX7, rfl, by decide, by decide, in_X7, tyX7_ok, nmX7, rfl, rfl, sv_in 922 (by decide +kernel) (by decide +kernel)⟩
set_option maxRecDepth 20000 in
theorem fw_X7_51 : sv_FW RX7 51 7 24 35 true := ⟨RX7, TX7, rfl, by decide, by decide, in_X7, tyX7_ok, nmX7, rfl, rfl, sv_in 923 (by decide +kernel) (by decide +kernel)⟩
set_option maxRecDepth 20000 in
theorem fw_X7_54 : sv_FW RX7 54 7 25 35 true := ⟨RX7, TX7, rfl, by decide, by decide, in_X7, tyX7_ok, nmX7, rfl, rfl, sv_in 924 (by decide +kernel) (by decide +kernel)⟩
set_option maxRecDepth 20000 in
theorem fw_X7_57 : sv_FW RX7 57 7 26 35 true := ⟨RX7, TX7, rfl, by decide, by decide, in_X7, tyX7_ok, nmX7, rfl, rfl, sv_in 925 (by decide +kernel) (by decide +kernel)⟩
set_option maxRecDepth 20000 in
theorem fw_X7_60 : sv_FW RX7 60 7 27 35 true := ⟨RX7, TX7, rfl, by decide, by decide, in_X7, tyX7_ok, nmX7, rfl, rfl, sv_in 926 (by decide +kernel) (by decide +kernel)⟩
set_option maxRecDepth 20000 in
theorem fw_X7_63 : sv_FW RX7 63 7 28 35 true := ⟨RX7, TX7, rfl, by decide, by decide, in_X7, tyX7_ok, nmX7, rfl, rfl, sv_in 927 (by decide +kernel) (by decide +kernel)⟩
set_option maxRecDepth 20000 in
theorem fw_X7_66 : sv_FW RX7 66 7 29 35 true := ⟨RX7, TX7, rfl, by decide, by decide, in_X7, tyX7_ok, nmX7, rfl, rfl, sv_in 928 (by decide +kernel) (by decide +kernel)⟩
set_option maxRecDepth 20000 in
theorem fw_X7_69 : sv_FW RX7 69 7 30 35 true := ⟨RX7, TX7, rfl, by decide, by decide, in_X7, tyX7_ok, nmX7, rfl, rfl, sv_in 929 (by decide +kernel) (by decide +kernel)⟩
set_option maxRecDepth 20000 in
theorem fw_X7_72 : sv_FW RX7 72 7 31 35 true := ⟨RX7, TX7, rfl, by decide, by decide, in_X7, tyX7_ok, nmX7, rfl, rfl, sv_in 930 (by decide +kernel) (by decide +kernel)⟩
set_option maxRecDepth 20000 in
theorem fw_X7_75 : sv_FW RX7 75 7 32 35 true := ⟨RX7, TX7, rfl, by decide, by decide, in_X7, tyX7_ok, nmX7, rfl, rfl, sv_in 931 (by decide +kernel) (by decide +kernel)⟩
set_option maxRecDepth 20000 in
theorem fw_X7_78 : sv_FW RX7 78 7 33 35 true := ⟨RX7, TX7, rfl, by decide, by decide, in_X7, tyX7_ok, nmX7, rfl, rfl, sv_in 932 (by decide +kernel) (by decide +kernel)⟩
set_option maxRecDepth 20000 in
theorem fw_X7_273 : sv_FW RX7 273 7 34 35 false := ⟨RX7, TX7, rfl, by decide, by decide, in_X7, tyX7_ok, nmX7, rfl, rfl, sv_in 933 (by decide +kernel) (by decide +kernel)⟩
set_option maxRecDepth 20000 in
theorem cn_X6_71 : Cond.constant RX6 71 (-1000000001) ∈ sv_tbl := sv_in 305 (by decide +kernel) (by decide +kernel)
set_option maxRecDepth 20000 in
theorem cn_X6_75 : Cond.constant RX6 75 (-1000000003) ∈ sv_tbl := sv_in 306 (by decide +kernel) (by decide +kernel)
set_option maxRecDepth 20000 in
theorem cn_X6_128 : Cond.constant RX6 128 (-1000000012) ∈ sv_tbl := sv_in 391 (by decide +kernel) (by decide +kernel)
set_option maxRecDepth 20000 in
theorem cn_X0_85 : Cond.constant RX0 85 (1103515245) ∈ sv_tbl := sv_in 435 (by decide +kernel) (by decide +kernel)
set_option maxRecDepth 20000 in
theorem cn_X6_184 : Cond.constant RX6 184 (-1000000005) ∈ sv_tbl := sv_in 482 (by decide +kernel) (by decide +kernel)
set_option maxRecDepth 20000 in
theorem cn_X6_211 : Cond.constant RX6 211 (-1000000011) ∈ sv_tbl := sv_in 543 (by decide +kernel) (by decide +kernel)
set_option maxRecDepth 20000 in
theorem cn_X4_26 : Cond.constant RX4 26 (-1000000005) ∈ sv_tbl := sv_in 556 (by decide +kernel) (by decide +kernel)
set_option maxRecDepth 20000 in
theorem cn_J2_227 : Cond.constant RJ2 227 (65536) ∈ sv_tbl := sv_in 714 (by decide +kernel) (by decide +kernel)
set_option maxRecDepth 20000 in
theorem cn_J11_110 : Cond.constant RJ11 110 (55232) ∈ sv_tbl := sv_in 739 (by decide +kernel) (by decide +kernel)
set_option maxRecDepth 20000 in
theorem cn_J11_76 : Cond.constant RJ11 76 (56320) ∈ sv_tbl := sv_in 743 (by decide +kernel) (by decide +kernel)
set_option maxRecDepth 20000 in
theorem cn_X6_255 : Cond.constant RX6 255 (-1000000014) ∈ sv_tbl := sv_in 817 (by decide +kernel) (by decide +kernel)
set_option maxRecDepth 20000 in
theorem cn_X6_259 : Cond.constant RX6 259 (-1000000013) ∈ sv_tbl := sv_in 823 (by decide +kernel) (by decide +kernel)
set_option maxRecDepth 20000 in
theorem cn_X6_266 : Cond.constant RX6 266 (-99999) ∈ sv_tbl := sv_in 824 (by decide +kernel) (by decide +kernel)
set_option maxRecDepth 20000 in
theorem cn_X6_267 : Cond.constant RX6 267 (99999) ∈ sv_tbl := sv_in 825 (by decide +kernel) (by decide +kernel)
set_option maxRecDepth 20000 in
theorem cn_X6_308 : Cond.constant RX6 308 (-1000000002) ∈ sv_tbl := sv_in 868 (by decide +kernel) (by decide +kernel)
set_option maxRecDepth 20000 in
theorem cn_X7_90 : Cond.constant RX7 90 (-1000000001) ∈ sv_tbl := sv_in 1014 (by decide +kernel) (by decide +kernel)
set_option maxRecDepth 20000 in
theorem cn_X7_91 : Cond.constant RX7 91 (-1000000003) ∈ sv_tbl := sv_in 1015 (by decide +kernel) (by decide +kernel)
set_option maxRecDepth 20000 in
theorem cn_X7_153 : Cond.constant RX7 153 (-1000000012) ∈ sv_tbl := sv_in 1101 (by decide +kernel) (by decide +kernel)
set_option maxRecDepth 20000 in
theorem cn_X7_157 : Cond.constant RX7 157 (1103515245) ∈ sv_tbl := sv_in 1130 (by decide +kernel) (by decide +kernel)
set_option maxRecDepth 20000 in
theorem cn_X7_81 : Cond.constant RX7 81 (-1000000005) ∈ sv_tbl := sv_in 1166 (by decide +kernel) (by decide +kernel)
set_option maxRecDepth 20000 in
theorem cn_X7_192 : Cond.constant RX7 192 (-1000000011) ∈ sv_tbl := sv_in 1218 (by decide +kernel) (by decide +kernel)
set_option maxRecDepth 20000 in
theorem cn_X7_265 : Cond.constant RX7 265 (-1000000014) ∈ sv_tbl := sv_in 1298 (by decide +kernel) (by decide +kernel)
set_option maxRecDepth 20000 in
theorem cn_X7_266 : Cond.constant RX7 266 (-1000000013) ∈ sv_tbl := sv_in 1303 (by decide +kernel) (by decide +kernel)
set_option maxRecDepth 20000 in
theorem cn_X7_267 : Cond.constant RX7 267 (-99999) ∈ sv_tbl := sv_in 1304 (by decide +kernel) (by decide +kernel)
set_option maxRecDepth 20000 in
theorem cn_X7_268 : Cond.constant RX7 268 (99999) ∈ sv_tbl := sv_in 1305 (by decide +kernel) (by decide +kernel)
set_option maxRecDepth 20000 in
theorem cn_X7_272 : Cond.constant RX7 272 (-1000000002) ∈ sv_tbl := sv_in 1337 (by decide +kernel) (by decide +kernel)
set_option maxRecDepth 20000 in
theorem mw_X6_init : sv_MW yX6_init cX6_init 2 none 0 := ⟨sv_in 73 (by decide +kernel) (by decide +kernel), sv_in 53 (by decide +kernel) (by decide +kernel), ⟨by decide, by decide, by decide +kernel⟩, by decide⟩
set_option maxRecDepth 20000 in
theorem mw_X2_init : sv_MW yX2_init cX2_init 1 none 0 := ⟨sv_in 81 (by decide +kernel) (by decide +kernel), sv_in 54 (by decide +kernel) (by decide +kernel), ⟨by decide, by decide, by decide +kernel⟩, by decide⟩
set_option maxRecDepth 20000 in
theorem mw_X3_init : sv_MW yX3_init cX3_init 1 none 0 := ⟨sv_in 98 (by decide +kernel) (by decide +kernel), sv_in 55 (by decide +kernel) (by decide +kernel), ⟨by decide, by decide, by decide +kernel⟩, by decide⟩
set_option maxRecDepth 20000 in
theorem mw_X0_init : sv_MW yX0_init cX0_init 2 none 1 := ⟨sv_in 136 (by decide +kernel) (by decide +kernel), sv_in 56 (by decide +kernel) (by decide +kernel), ⟨by decide, by decide, by decide +kernel⟩, by decide⟩
set_option maxRecDepth 20000 in
theorem mw_X4_init : sv_MW yX4_init cX4_init 1 none 0 := ⟨sv_in 219 (by decide +kernel) (by decide +kernel), sv_in 57 (by decide +kernel) (by decide +kernel), ⟨by decide, by decide, by decide +kernel⟩, by decide⟩
set_option maxRecDepth 20000 in
theorem mw_X5_init : sv_MW yX5_init cX5_init 1 none 0 := ⟨sv_in 239 (by decide +kernel) (by decide +kernel), sv_in 58 (by decide +kernel) (by decide +kernel), ⟨by decide, by decide, by decide +kernel⟩, by decide⟩
set_option maxRecDepth 20000 in
theorem mw_X6_voter : sv_MW yX6_voter cX6_voter 6 (some .int) 4 := ⟨sv_in 301 (by decide +kernel) (by decide +kernel), sv_in 53 (by decide +kernel) (by decide +kernel), ⟨by decide, by decide, by decide +kernel⟩, by decide⟩
set_option maxRecDepth 20000 in
theorem mw_X6_isWithin : sv_MW yX6_isWithin cX6_isWithin 3 (some .boolean) 3 := ⟨sv_in 304 (by decide +kernel) (by decide +kernel), sv_in 53 (by decide +kernel) (by decide +kernel), ⟨by decide, by decide, by decide +kernel⟩, by decide⟩
set_option maxRecDepth 20000 in
theorem mw_X0_enter : sv_MW yX0_enter cX0_enter 5 none 4 := ⟨sv_in 310 (by decide +kernel) (by decide +kernel), sv_in 56 (by decide +kernel) (by decide +kernel), ⟨by decide, by decide, by decide +kernel⟩, by decide⟩
set_option maxRecDepth 20000 in
theorem mw_X6_told : sv_MW yX6_told cX6_told 3 (some .int) 2 := ⟨sv_in 314 (by decide +kernel) (by decide +kernel), sv_in 53 (by decide +kernel) (by decide +kernel), ⟨by decide, by decide, by decide +kernel⟩, by decide⟩
set_option maxRecDepth 20000 in
theorem mw_X0_isVoter : sv_MW yX0_isVoter cX0_isVoter 2 (some .boolean) 1 := ⟨sv_in 318 (by decide +kernel) (by decide +kernel), sv_in 56 (by decide +kernel) (by decide +kernel), ⟨by decide, by decide, by decide +kernel⟩, by decide⟩
set_option maxRecDepth 20000 in
theorem mw_X0_runners : sv_MW yX0_runners cX0_runners 4 (some .int) 0 := ⟨sv_in 322 (by decide +kernel) (by decide +kernel), sv_in 56 (by decide +kernel) (by decide +kernel), ⟨by decide, by decide, by decide +kernel⟩, by decide⟩
set_option maxRecDepth 20000 in
theorem mw_X0_mostAmong : sv_MW yX0_mostAmong cX0_mostAmong 5 (some .int) 1 := ⟨sv_in 326 (by decide +kernel) (by decide +kernel), sv_in 56 (by decide +kernel) (by decide +kernel), ⟨by decide, by decide, by decide +kernel⟩, by decide⟩
set_option maxRecDepth 20000 in
theorem mw_X0_leader : sv_MW yX0_leader cX0_leader 1 (some .int) 0 := ⟨sv_in 331 (by decide +kernel) (by decide +kernel), sv_in 56 (by decide +kernel) (by decide +kernel), ⟨by decide, by decide, by decide +kernel⟩, by decide⟩
set_option maxRecDepth 20000 in
theorem mw_X0_choice : sv_MW yX0_choice cX0_choice 5 (some .int) 3 := ⟨sv_in 335 (by decide +kernel) (by decide +kernel), sv_in 56 (by decide +kernel) (by decide +kernel), ⟨by decide, by decide, by decide +kernel⟩, by decide⟩
set_option maxRecDepth 20000 in
theorem mw_X0_choiceOfLoyal : sv_MW yX0_choiceOfLoyal cX0_choiceOfLoyal 6 (some .int) 3 := ⟨sv_in 339 (by decide +kernel) (by decide +kernel), sv_in 56 (by decide +kernel) (by decide +kernel), ⟨by decide, by decide, by decide +kernel⟩, by decide⟩
set_option maxRecDepth 20000 in
theorem mw_X0_choiceOfPlain : sv_MW yX0_choiceOfPlain cX0_choiceOfPlain 4 (some .int) 3 := ⟨sv_in 343 (by decide +kernel) (by decide +kernel), sv_in 56 (by decide +kernel) (by decide +kernel), ⟨by decide, by decide, by decide +kernel⟩, by decide⟩
set_option maxRecDepth 20000 in
theorem mw_X0_choiceOfSwayed : sv_MW yX0_choiceOfSwayed cX0_choiceOfSwayed 7 (some .int) 3 := ⟨sv_in 347 (by decide +kernel) (by decide +kernel), sv_in 56 (by decide +kernel) (by decide +kernel), ⟨by decide, by decide, by decide +kernel⟩, by decide⟩
set_option maxRecDepth 20000 in
theorem mw_X2_latest : sv_MW yX2_latest cX2_latest 5 (some .int) 2 := ⟨sv_in 351 (by decide +kernel) (by decide +kernel), sv_in 54 (by decide +kernel) (by decide +kernel), ⟨by decide, by decide, by decide +kernel⟩, by decide⟩
set_option maxRecDepth 20000 in
theorem mw_X2_value : sv_MW yX2_value cX2_value 9 (some .int) 4 := ⟨sv_in 358 (by decide +kernel) (by decide +kernel), sv_in 54 (by decide +kernel) (by decide +kernel), ⟨by decide, by decide, by decide +kernel⟩, by decide⟩
set_option maxRecDepth 20000 in
theorem mw_X2_leaf : sv_MW yX2_leaf cX2_leaf 4 (some .int) 4 := ⟨sv_in 362 (by decide +kernel) (by decide +kernel), sv_in 54 (by decide +kernel) (by decide +kernel), ⟨by decide, by decide, by decide +kernel⟩, by decide⟩
set_option maxRecDepth 20000 in
theorem mw_X2_truth : sv_MW yX2_truth cX2_truth 1 (some .int) 1 := ⟨sv_in 365 (by decide +kernel) (by decide +kernel), sv_in 54 (by decide +kernel) (by decide +kernel), ⟨by decide, by decide, by decide +kernel⟩, by decide⟩
set_option maxRecDepth 20000 in
theorem mw_X2_joined : sv_MW yX2_joined cX2_joined 3 (some .int) 3 := ⟨sv_in 368 (by decide +kernel) (by decide +kernel), sv_in 54 (by decide +kernel) (by decide +kernel), ⟨by decide, by decide, by decide +kernel⟩, by decide⟩
set_option maxRecDepth 20000 in
theorem mw_X6_held : sv_MW yX6_held cX6_held 3 (some .int) 3 := ⟨sv_in 371 (by decide +kernel) (by decide +kernel), sv_in 53 (by decide +kernel) (by decide +kernel), ⟨by decide, by decide, by decide +kernel⟩, by decide⟩
set_option maxRecDepth 20000 in
theorem mw_X6_weight : sv_MW yX6_weight cX6_weight 1 (some .int) 1 := ⟨sv_in 378 (by decide +kernel) (by decide +kernel), sv_in 53 (by decide +kernel) (by decide +kernel), ⟨by decide, by decide, by decide +kernel⟩, by decide⟩
set_option maxRecDepth 20000 in
theorem mw_X6_worth : sv_MW yX6_worth cX6_worth 2 (some .int) 2 := ⟨sv_in 381 (by decide +kernel) (by decide +kernel), sv_in 53 (by decide +kernel) (by decide +kernel), ⟨by decide, by decide, by decide +kernel⟩, by decide⟩
set_option maxRecDepth 20000 in
theorem mw_X6_as : sv_MW yX6_as cX6_as 3 (some .int) 2 := ⟨sv_in 385 (by decide +kernel) (by decide +kernel), sv_in 53 (by decide +kernel) (by decide +kernel), ⟨by decide, by decide, by decide +kernel⟩, by decide⟩
set_option maxRecDepth 20000 in
theorem mw_X6_isOfKind : sv_MW yX6_isOfKind cX6_isOfKind 4 (some .boolean) 2 := ⟨sv_in 388 (by decide +kernel) (by decide +kernel), sv_in 53 (by decide +kernel) (by decide +kernel), ⟨by decide, by decide, by decide +kernel⟩, by decide⟩
set_option maxRecDepth 20000 in
theorem mw_X6_turns : sv_MW yX6_turns cX6_turns 4 (some .int) 2 := ⟨sv_in 395 (by decide +kernel) (by decide +kernel), sv_in 53 (by decide +kernel) (by decide +kernel), ⟨by decide, by decide, by decide +kernel⟩, by decide⟩
set_option maxRecDepth 20000 in
theorem mw_X0_tally : sv_MW yX0_tally cX0_tally 2 none 0 := ⟨sv_in 399 (by decide +kernel) (by decide +kernel), sv_in 56 (by decide +kernel) (by decide +kernel), ⟨by decide, by decide, by decide +kernel⟩, by decide⟩
set_option maxRecDepth 20000 in
theorem mw_J7_fill_53178 : sv_MW yJ7_fill_53178 cJ7_fill_53178 4 none 2 := ⟨sv_in 402 (by decide +kernel) (by decide +kernel), sv_in 61 (by decide +kernel) (by decide +kernel), ⟨by decide, by decide, by decide +kernel⟩, by decide⟩
set_option maxRecDepth 20000 in
theorem mw_X6_set : sv_MW yX6_set cX6_set 4 (some .int) 3 := ⟨sv_in 407 (by decide +kernel) (by decide +kernel), sv_in 53 (by decide +kernel) (by decide +kernel), ⟨by decide, by decide, by decide +kernel⟩, by decide⟩
set_option maxRecDepth 20000 in
theorem mw_X6_put : sv_MW yX6_put cX6_put 5 (some .int) 4 := ⟨sv_in 410 (by decide +kernel) (by decide +kernel), sv_in 53 (by decide +kernel) (by decide +kernel), ⟨by decide, by decide, by decide +kernel⟩, by decide⟩
set_option maxRecDepth 20000 in
theorem mw_X6_rule : sv_MW yX6_rule cX6_rule 5 (some .int) 2 := ⟨sv_in 414 (by decide +kernel) (by decide +kernel), sv_in 53 (by decide +kernel) (by decide +kernel), ⟨by decide, by decide, by decide +kernel⟩, by decide⟩
set_option maxRecDepth 20000 in
theorem mw_X6_again : sv_MW yX6_again cX6_again 2 (some .int) 0 := ⟨sv_in 418 (by decide +kernel) (by decide +kernel), sv_in 53 (by decide +kernel) (by decide +kernel), ⟨by decide, by decide, by decide +kernel⟩, by decide⟩
set_option maxRecDepth 20000 in
theorem mw_X0_startOver : sv_MW yX0_startOver cX0_startOver 1 none 0 := ⟨sv_in 422 (by decide +kernel) (by decide +kernel), sv_in 56 (by decide +kernel) (by decide +kernel), ⟨by decide, by decide, by decide +kernel⟩, by decide⟩
set_option maxRecDepth 20000 in
theorem mw_X6_deal : sv_MW yX6_deal cX6_deal 4 (some .int) 1 := ⟨sv_in 426 (by decide +kernel) (by decide +kernel), sv_in 53 (by decide +kernel) (by decide +kernel), ⟨by decide, by decide, by decide +kernel⟩, by decide⟩
set_option maxRecDepth 20000 in
theorem mw_X0_enterDrawn : sv_MW yX0_enterDrawn cX0_enterDrawn 5 none 0 := ⟨sv_in 430 (by decide +kernel) (by decide +kernel), sv_in 56 (by decide +kernel) (by decide +kernel), ⟨by decide, by decide, by decide +kernel⟩, by decide⟩
set_option maxRecDepth 20000 in
theorem mw_X0_draw : sv_MW yX0_draw cX0_draw 1 (some .int) 0 := ⟨sv_in 434 (by decide +kernel) (by decide +kernel), sv_in 56 (by decide +kernel) (by decide +kernel), ⟨by decide, by decide, by decide +kernel⟩, by decide⟩
set_option maxRecDepth 20000 in
theorem mw_X6_seed : sv_MW yX6_seed cX6_seed 3 (some .int) 1 := ⟨sv_in 440 (by decide +kernel) (by decide +kernel), sv_in 53 (by decide +kernel) (by decide +kernel), ⟨by decide, by decide, by decide +kernel⟩, by decide⟩
set_option maxRecDepth 20000 in
theorem mw_X6_rounds : sv_MW yX6_rounds cX6_rounds 2 (some .int) 1 := ⟨sv_in 444 (by decide +kernel) (by decide +kernel), sv_in 53 (by decide +kernel) (by decide +kernel), ⟨by decide, by decide, by decide +kernel⟩, by decide⟩
set_option maxRecDepth 20000 in
theorem mw_X0_go : sv_MW yX0_go cX0_go 3 none 1 := ⟨sv_in 448 (by decide +kernel) (by decide +kernel), sv_in 56 (by decide +kernel) (by decide +kernel), ⟨by decide, by decide, by decide +kernel⟩, by decide⟩
set_option maxRecDepth 20000 in
theorem mw_X0_round : sv_MW yX0_round cX0_round 4 none 0 := ⟨sv_in 452 (by decide +kernel) (by decide +kernel), sv_in 56 (by decide +kernel) (by decide +kernel), ⟨by decide, by decide, by decide +kernel⟩, by decide⟩
set_option maxRecDepth 20000 in
theorem mw_X0_elected : sv_MW yX0_elected cX0_elected 3 (some .int) 0 := ⟨sv_in 460 (by decide +kernel) (by decide +kernel), sv_in 56 (by decide +kernel) (by decide +kernel), ⟨by decide, by decide, by decide +kernel⟩, by decide⟩
set_option maxRecDepth 20000 in
theorem mw_X0_wanted : sv_MW yX0_wanted cX0_wanted 3 (some .int) 0 := ⟨sv_in 464 (by decide +kernel) (by decide +kernel), sv_in 56 (by decide +kernel) (by decide +kernel), ⟨by decide, by decide, by decide +kernel⟩, by decide⟩
set_option maxRecDepth 20000 in
theorem mw_X0_smokeNow : sv_MW yX0_smokeNow cX0_smokeNow 3 (some .int) 0 := ⟨sv_in 468 (by decide +kernel) (by decide +kernel), sv_in 56 (by decide +kernel) (by decide +kernel), ⟨by decide, by decide, by decide +kernel⟩, by decide⟩
set_option maxRecDepth 20000 in
theorem mw_X0_wetPapers : sv_MW yX0_wetPapers cX0_wetPapers 2 none 0 := ⟨sv_in 472 (by decide +kernel) (by decide +kernel), sv_in 56 (by decide +kernel) (by decide +kernel), ⟨by decide, by decide, by decide +kernel⟩, by decide⟩
set_option maxRecDepth 20000 in
theorem mw_X6_conclave : sv_MW yX6_conclave cX6_conclave 2 (some .int) 1 := ⟨sv_in 476 (by decide +kernel) (by decide +kernel), sv_in 53 (by decide +kernel) (by decide +kernel), ⟨by decide, by decide, by decide +kernel⟩, by decide⟩
set_option maxRecDepth 20000 in
theorem mw_X0_mostVotes : sv_MW yX0_mostVotes cX0_mostVotes 2 (some .int) 0 := ⟨sv_in 481 (by decide +kernel) (by decide +kernel), sv_in 56 (by decide +kernel) (by decide +kernel), ⟨by decide, by decide, by decide +kernel⟩, by decide⟩
set_option maxRecDepth 20000 in
theorem mw_X6_butOne : sv_MW yX6_butOne cX6_butOne 4 (some .int) 0 := ⟨sv_in 486 (by decide +kernel) (by decide +kernel), sv_in 53 (by decide +kernel) (by decide +kernel), ⟨by decide, by decide, by decide +kernel⟩, by decide⟩
set_option maxRecDepth 20000 in
theorem mw_X6_decides : sv_MW yX6_decides cX6_decides 5 (some .int) 0 := ⟨sv_in 490 (by decide +kernel) (by decide +kernel), sv_in 53 (by decide +kernel) (by decide +kernel), ⟨by decide, by decide, by decide +kernel⟩, by decide⟩
set_option maxRecDepth 20000 in
theorem mw_X6_splits : sv_MW yX6_splits cX6_splits 5 (some .int) 2 := ⟨sv_in 494 (by decide +kernel) (by decide +kernel), sv_in 53 (by decide +kernel) (by decide +kernel), ⟨by decide, by decide, by decide +kernel⟩, by decide⟩
set_option maxRecDepth 20000 in
theorem mw_X6_waysWithOneMore : sv_MW yX6_waysWithOneMore cX6_waysWithOneMore 5 (some .int) 2 := ⟨sv_in 499 (by decide +kernel) (by decide +kernel), sv_in 53 (by decide +kernel) (by decide +kernel), ⟨by decide, by decide, by decide +kernel⟩, by decide⟩
set_option maxRecDepth 20000 in
theorem mw_X6_behind : sv_MW yX6_behind cX6_behind 4 (some .int) 2 := ⟨sv_in 503 (by decide +kernel) (by decide +kernel), sv_in 53 (by decide +kernel) (by decide +kernel), ⟨by decide, by decide, by decide +kernel⟩, by decide⟩
set_option maxRecDepth 20000 in
theorem mw_X0_become : sv_MW yX0_become cX0_become 2 none 1 := ⟨sv_in 507 (by decide +kernel) (by decide +kernel), sv_in 56 (by decide +kernel) (by decide +kernel), ⟨by decide, by decide, by decide +kernel⟩, by decide⟩
set_option maxRecDepth 20000 in
theorem mw_X6_ends : sv_MW yX6_ends cX6_ends 2 (some .int) 0 := ⟨sv_in 514 (by decide +kernel) (by decide +kernel), sv_in 53 (by decide +kernel) (by decide +kernel), ⟨by decide, by decide, by decide +kernel⟩, by decide⟩
set_option maxRecDepth 20000 in
theorem mw_X6_won : sv_MW yX6_won cX6_won 7 (some .int) 3 := ⟨sv_in 519 (by decide +kernel) (by decide +kernel), sv_in 53 (by decide +kernel) (by decide +kernel), ⟨by decide, by decide, by decide +kernel⟩, by decide⟩
set_option maxRecDepth 20000 in
theorem mw_X6_party : sv_MW yX6_party cX6_party 3 (some .int) 1 := ⟨sv_in 523 (by decide +kernel) (by decide +kernel), sv_in 53 (by decide +kernel) (by decide +kernel), ⟨by decide, by decide, by decide +kernel⟩, by decide⟩
set_option maxRecDepth 20000 in
theorem mw_X0_convince : sv_MW yX0_convince cX0_convince 3 none 1 := ⟨sv_in 527 (by decide +kernel) (by decide +kernel), sv_in 56 (by decide +kernel) (by decide +kernel), ⟨by decide, by decide, by decide +kernel⟩, by decide⟩
set_option maxRecDepth 20000 in
theorem mw_X6_smokes : sv_MW yX6_smokes cX6_smokes 4 (some .int) 1 := ⟨sv_in 531 (by decide +kernel) (by decide +kernel), sv_in 53 (by decide +kernel) (by decide +kernel), ⟨by decide, by decide, by decide +kernel⟩, by decide⟩
set_option maxRecDepth 20000 in
theorem mw_X6_fits : sv_MW yX6_fits cX6_fits 8 (some .int) 2 := ⟨sv_in 535 (by decide +kernel) (by decide +kernel), sv_in 53 (by decide +kernel) (by decide +kernel), ⟨by decide, by decide, by decide +kernel⟩, by decide⟩
set_option maxRecDepth 20000 in
theorem mw_X6_isSheet : sv_MW yX6_isSheet cX6_isSheet 1 (some .boolean) 1 := ⟨sv_in 538 (by decide +kernel) (by decide +kernel), sv_in 53 (by decide +kernel) (by decide +kernel), ⟨by decide, by decide, by decide +kernel⟩, by decide⟩
set_option maxRecDepth 20000 in
theorem mw_X4_isMissing : sv_MW yX4_isMissing cX4_isMissing 1 (some .boolean) 0 := ⟨sv_in 542 (by decide +kernel) (by decide +kernel), sv_in 57 (by decide +kernel) (by decide +kernel), ⟨by decide, by decide, by decide +kernel⟩, by decide⟩
set_option maxRecDepth 20000 in
theorem mw_X6_differenceWith : sv_MW yX6_differenceWith cX6_differenceWith 5 (some .int) 2 := ⟨sv_in 547 (by decide +kernel) (by decide +kernel), sv_in 53 (by decide +kernel) (by decide +kernel), ⟨by decide, by decide, by decide +kernel⟩, by decide⟩
set_option maxRecDepth 20000 in
theorem mw_X4_isNumber : sv_MW yX4_isNumber cX4_isNumber 2 (some .boolean) 1 := ⟨sv_in 551 (by decide +kernel) (by decide +kernel), sv_in 57 (by decide +kernel) (by decide +kernel), ⟨by decide, by decide, by decide +kernel⟩, by decide⟩
set_option maxRecDepth 20000 in
theorem mw_X4_hasPlace : sv_MW yX4_hasPlace cX4_hasPlace 2 (some .boolean) 1 := ⟨sv_in 555 (by decide +kernel) (by decide +kernel), sv_in 57 (by decide +kernel) (by decide +kernel), ⟨by decide, by decide, by decide +kernel⟩, by decide⟩
set_option maxRecDepth 20000 in
theorem mw_X6_fee : sv_MW yX6_fee cX6_fee 2 (some .int) 0 := ⟨sv_in 563 (by decide +kernel) (by decide +kernel), sv_in 53 (by decide +kernel) (by decide +kernel), ⟨by decide, by decide, by decide +kernel⟩, by decide⟩
set_option maxRecDepth 20000 in
theorem mw_X6_fine : sv_MW yX6_fine cX6_fine 4 (some .int) 1 := ⟨sv_in 569 (by decide +kernel) (by decide +kernel), sv_in 53 (by decide +kernel) (by decide +kernel), ⟨by decide, by decide, by decide +kernel⟩, by decide⟩
set_option maxRecDepth 20000 in
theorem mw_X6_feed : sv_MW yX6_feed cX6_feed 4 (some .int) 3 := ⟨sv_in 573 (by decide +kernel) (by decide +kernel), sv_in 53 (by decide +kernel) (by decide +kernel), ⟨by decide, by decide, by decide +kernel⟩, by decide⟩
set_option maxRecDepth 20000 in
theorem mw_X3_addFour : sv_MW yX3_addFour cX3_addFour 3 none 1 := ⟨sv_in 577 (by decide +kernel) (by decide +kernel), sv_in 55 (by decide +kernel) (by decide +kernel), ⟨by decide, by decide, by decide +kernel⟩, by decide⟩
set_option maxRecDepth 20000 in
theorem mw_X6_trim : sv_MW yX6_trim cX6_trim 2 (some .int) 1 := ⟨sv_in 581 (by decide +kernel) (by decide +kernel), sv_in 53 (by decide +kernel) (by decide +kernel), ⟨by decide, by decide, by decide +kernel⟩, by decide⟩
set_option maxRecDepth 20000 in
theorem mw_X6_text : sv_MW yX6_text cX6_text 2 (some .int) 0 := ⟨sv_in 585 (by decide +kernel) (by decide +kernel), sv_in 53 (by decide +kernel) (by decide +kernel), ⟨by decide, by decide, by decide +kernel⟩, by decide⟩
set_option maxRecDepth 20000 in
theorem mw_X3_read : sv_MW yX3_read cX3_read 2 (some .int) 0 := ⟨sv_in 589 (by decide +kernel) (by decide +kernel), sv_in 55 (by decide +kernel) (by decide +kernel), ⟨by decide, by decide, by decide +kernel⟩, by decide⟩
set_option maxRecDepth 20000 in
theorem mw_X3_next : sv_MW yX3_next cX3_next 3 none 0 := ⟨sv_in 593 (by decide +kernel) (by decide +kernel), sv_in 55 (by decide +kernel) (by decide +kernel), ⟨by decide, by decide, by decide +kernel⟩, by decide⟩
set_option maxRecDepth 20000 in
theorem mw_X3_sortOf : sv_MW yX3_sortOf cX3_sortOf 1 (some .int) 1 := ⟨sv_in 596 (by decide +kernel) (by decide +kernel), sv_in 55 (by decide +kernel) (by decide +kernel), ⟨by decide, by decide, by decide +kernel⟩, by decide⟩
set_option maxRecDepth 20000 in
theorem mw_X3_endOfWord : sv_MW yX3_endOfWord cX3_endOfWord 2 (some .int) 0 := ⟨sv_in 600 (by decide +kernel) (by decide +kernel), sv_in 55 (by decide +kernel) (by decide +kernel), ⟨by decide, by decide, by decide +kernel⟩, by decide⟩
set_option maxRecDepth 20000 in
theorem mw_X3_readValue : sv_MW yX3_readValue cX3_readValue 2 none 0 := ⟨sv_in 604 (by decide +kernel) (by decide +kernel), sv_in 55 (by decide +kernel) (by decide +kernel), ⟨by decide, by decide, by decide +kernel⟩, by decide⟩
set_option maxRecDepth 20000 in
theorem mw_X3_readKey : sv_MW yX3_readKey cX3_readKey 2 (some .boolean) 0 := ⟨sv_in 608 (by decide +kernel) (by decide +kernel), sv_in 55 (by decide +kernel) (by decide +kernel), ⟨by decide, by decide, by decide +kernel⟩, by decide⟩
set_option maxRecDepth 20000 in
theorem mw_X3_nameOfKey : sv_MW yX3_nameOfKey cX3_nameOfKey 1 (some (.object "java/lang/String")) 1 := ⟨sv_in 611 (by decide +kernel) (by decide +kernel), sv_in 55 (by decide +kernel) (by decide +kernel), ⟨by decide, by decide, by decide +kernel⟩, by decide⟩
set_option maxRecDepth 20000 in
theorem mw_X3_isWord : sv_MW yX3_isWord cX3_isWord 3 (some .boolean) 1 := ⟨sv_in 618 (by decide +kernel) (by decide +kernel), sv_in 55 (by decide +kernel) (by decide +kernel), ⟨by decide, by decide, by decide +kernel⟩, by decide⟩
set_option maxRecDepth 20000 in
theorem mw_J0_length_8abf5 : sv_MW yJ0_length_8abf5 cJ0_length_8abf5 1 (some .int) 0 := ⟨sv_in 622 (by decide +kernel) (by decide +kernel), sv_in 63 (by decide +kernel) (by decide +kernel), ⟨by decide, by decide, by decide +kernel⟩, by decide⟩
set_option maxRecDepth 20000 in
theorem mw_J0_coder_7d493 : sv_MW yJ0_coder_7d493 cJ0_coder_7d493 1 (some .byte) 0 := ⟨sv_in 626 (by decide +kernel) (by decide +kernel), sv_in 63 (by decide +kernel) (by decide +kernel), ⟨by decide, by decide, by decide +kernel⟩, by decide⟩
set_option maxRecDepth 20000 in
theorem mw_J0_charAt_5068e : sv_MW yJ0_charAt_5068e cJ0_charAt_5068e 2 (some .char) 1 := ⟨sv_in 632 (by decide +kernel) (by decide +kernel), sv_in 63 (by decide +kernel) (by decide +kernel), ⟨by decide, by decide, by decide +kernel⟩, by decide⟩
set_option maxRecDepth 20000 in
theorem mw_J0_isLatin1_aae02 : sv_MW yJ0_isLatin1_aae02 cJ0_isLatin1_aae02 1 (some .boolean) 0 := ⟨sv_in 636 (by decide +kernel) (by decide +kernel), sv_in 63 (by decide +kernel) (by decide +kernel), ⟨by decide, by decide, by decide +kernel⟩, by decide⟩
set_option maxRecDepth 20000 in
theorem mw_J1_charAt_3b067 : sv_MW yJ1_charAt_3b067 cJ1_charAt_3b067 2 (some .char) 2 := ⟨sv_in 639 (by decide +kernel) (by decide +kernel), sv_in 64 (by decide +kernel) (by decide +kernel), ⟨by decide, by decide, by decide +kernel⟩, by decide⟩
set_option maxRecDepth 20000 in
theorem mw_J0_checkIndex_df160 : sv_MW yJ0_checkIndex_df160 cJ0_checkIndex_df160 2 none 2 := ⟨sv_in 642 (by decide +kernel) (by decide +kernel), sv_in 63 (by decide +kernel) (by decide +kernel), ⟨by decide, by decide, by decide +kernel⟩, by decide⟩
set_option maxRecDepth 20000 in
theorem mw_J3_checkIndex_8e157 : sv_MW yJ3_checkIndex_8e157 cJ3_checkIndex_8e157 3 (some .int) 3 := ⟨sv_in 647 (by decide +kernel) (by decide +kernel), sv_in 65 (by decide +kernel) (by decide +kernel), ⟨by decide, by decide, by decide +kernel⟩, by decide⟩
set_option maxRecDepth 20000 in
theorem mw_J2_charAt_3b067 : sv_MW yJ2_charAt_3b067 cJ2_charAt_3b067 2 (some .char) 2 := ⟨sv_in 650 (by decide +kernel) (by decide +kernel), sv_in 66 (by decide +kernel) (by decide +kernel), ⟨by decide, by decide, by decide +kernel⟩, by decide⟩
set_option maxRecDepth 20000 in
theorem mw_J2_checkIndex_2214a : sv_MW yJ2_checkIndex_2214a cJ2_checkIndex_2214a 2 none 2 := ⟨sv_in 653 (by decide +kernel) (by decide +kernel), sv_in 66 (by decide +kernel) (by decide +kernel), ⟨by decide, by decide, by decide +kernel⟩, by decide⟩
set_option maxRecDepth 20000 in
theorem mw_J2_length_9d52b : sv_MW yJ2_length_9d52b cJ2_length_9d52b 1 (some .int) 1 := ⟨sv_in 656 (by decide +kernel) (by decide +kernel), sv_in 66 (by decide +kernel) (by decide +kernel), ⟨by decide, by decide, by decide +kernel⟩, by decide⟩
set_option maxRecDepth 20000 in
theorem mw_J2_getChar_3b067 : sv_MW yJ2_getChar_3b067 cJ2_getChar_3b067 2 (some .char) 2 := ⟨sv_in 660 (by decide +kernel) (by decide +kernel), sv_in 66 (by decide +kernel) (by decide +kernel), ⟨by decide, by decide, by decide +kernel⟩, by decide⟩
set_option maxRecDepth 20000 in
theorem mw_X3_readChain : sv_MW yX3_readChain cX3_readChain 7 (some .boolean) 3 := ⟨sv_in 670 (by decide +kernel) (by decide +kernel), sv_in 55 (by decide +kernel) (by decide +kernel), ⟨by decide, by decide, by decide +kernel⟩, by decide⟩
set_option maxRecDepth 20000 in
theorem mw_X3_readPiece : sv_MW yX3_readPiece cX3_readPiece 4 (some .boolean) 2 := ⟨sv_in 674 (by decide +kernel) (by decide +kernel), sv_in 55 (by decide +kernel) (by decide +kernel), ⟨by decide, by decide, by decide +kernel⟩, by decide⟩
set_option maxRecDepth 20000 in
theorem mw_X3_addLeaf : sv_MW yX3_addLeaf cX3_addLeaf 2 (some .boolean) 1 := ⟨sv_in 678 (by decide +kernel) (by decide +kernel), sv_in 55 (by decide +kernel) (by decide +kernel), ⟨by decide, by decide, by decide +kernel⟩, by decide⟩
set_option maxRecDepth 20000 in
theorem mw_X3_add : sv_MW yX3_add cX3_add 2 (some .boolean) 1 := ⟨sv_in 682 (by decide +kernel) (by decide +kernel), sv_in 55 (by decide +kernel) (by decide +kernel), ⟨by decide, by decide, by decide +kernel⟩, by decide⟩
set_option maxRecDepth 20000 in
theorem mw_X3_namesOfKey : sv_MW yX3_namesOfKey cX3_namesOfKey 1 (some (.object "java/lang/String")) 1 := ⟨sv_in 685 (by decide +kernel) (by decide +kernel), sv_in 55 (by decide +kernel) (by decide +kernel), ⟨by decide, by decide, by decide +kernel⟩, by decide⟩
set_option maxRecDepth 20000 in
theorem mw_J0_indexOf_0f7a4 : sv_MW yJ0_indexOf_0f7a4 cJ0_indexOf_0f7a4 2 (some .int) 1 := ⟨sv_in 692 (by decide +kernel) (by decide +kernel), sv_in 63 (by decide +kernel) (by decide +kernel), ⟨by decide, by decide, by decide +kernel⟩, by decide⟩
set_option maxRecDepth 20000 in
theorem mw_J0_indexOf_7cf53 : sv_MW yJ0_indexOf_7cf53 cJ0_indexOf_7cf53 3 (some .int) 2 := ⟨sv_in 696 (by decide +kernel) (by decide +kernel), sv_in 63 (by decide +kernel) (by decide +kernel), ⟨by decide, by decide, by decide +kernel⟩, by decide⟩
set_option maxRecDepth 20000 in
theorem mw_J1_indexOf_4cfef : sv_MW yJ1_indexOf_4cfef cJ1_indexOf_4cfef 4 (some .int) 4 := ⟨sv_in 700 (by decide +kernel) (by decide +kernel), sv_in 64 (by decide +kernel) (by decide +kernel), ⟨by decide, by decide, by decide +kernel⟩, by decide⟩
set_option maxRecDepth 20000 in
theorem mw_J1_canEncode_9a6ad : sv_MW yJ1_canEncode_9a6ad cJ1_canEncode_9a6ad 1 (some .boolean) 1 := ⟨sv_in 703 (by decide +kernel) (by decide +kernel), sv_in 64 (by decide +kernel) (by decide +kernel), ⟨by decide, by decide, by decide +kernel⟩, by decide⟩
set_option maxRecDepth 20000 in
theorem mw_J1_indexOfChar_4cfef : sv_MW yJ1_indexOfChar_4cfef cJ1_indexOfChar_4cfef 6 (some .int) 4 := ⟨sv_in 708 (by decide +kernel) (by decide +kernel), sv_in 64 (by decide +kernel) (by decide +kernel), ⟨by decide, by decide, by decide +kernel⟩, by decide⟩
set_option maxRecDepth 20000 in
theorem mw_J2_indexOf_4cfef : sv_MW yJ2_indexOf_4cfef cJ2_indexOf_4cfef 4 (some .int) 4 := ⟨sv_in 711 (by decide +kernel) (by decide +kernel), sv_in 66 (by decide +kernel) (by decide +kernel), ⟨by decide, by decide, by decide +kernel⟩, by decide⟩
set_option maxRecDepth 20000 in
theorem mw_J2_indexOfChar_4cfef : sv_MW yJ2_indexOfChar_4cfef cJ2_indexOfChar_4cfef 4 (some .int) 4 := ⟨sv_in 717 (by decide +kernel) (by decide +kernel), sv_in 66 (by decide +kernel) (by decide +kernel), ⟨by decide, by decide, by decide +kernel⟩, by decide⟩
set_option maxRecDepth 20000 in
theorem mw_J2_checkBoundsBeginEnd_d044e : sv_MW yJ2_checkBoundsBeginEnd_d044e cJ2_checkBoundsBeginEnd_d044e 3 none 3 := ⟨sv_in 720 (by decide +kernel) (by decide +kernel), sv_in 66 (by decide +kernel) (by decide +kernel), ⟨by decide, by decide, by decide +kernel⟩, by decide⟩
set_option maxRecDepth 20000 in
theorem mw_J0_checkBoundsBeginEnd_23922 : sv_MW yJ0_checkBoundsBeginEnd_23922 cJ0_checkBoundsBeginEnd_23922 3 none 3 := ⟨sv_in 723 (by decide +kernel) (by decide +kernel), sv_in 63 (by decide +kernel) (by decide +kernel), ⟨by decide, by decide, by decide +kernel⟩, by decide⟩
set_option maxRecDepth 20000 in
theorem mw_J3_checkFromToIndex_8c36e : sv_MW yJ3_checkFromToIndex_8c36e cJ3_checkFromToIndex_8c36e 4 (some .int) 4 := ⟨sv_in 726 (by decide +kernel) (by decide +kernel), sv_in 65 (by decide +kernel) (by decide +kernel), ⟨by decide, by decide, by decide +kernel⟩, by decide⟩
set_option maxRecDepth 20000 in
theorem mw_J2_indexOfCharUnsafe_4cfef : sv_MW yJ2_indexOfCharUnsafe_4cfef cJ2_indexOfCharUnsafe_4cfef 5 (some .int) 4 := ⟨sv_in 729 (by decide +kernel) (by decide +kernel), sv_in 66 (by decide +kernel) (by decide +kernel), ⟨by decide, by decide, by decide +kernel⟩, by decide⟩
set_option maxRecDepth 20000 in
theorem mw_J2_indexOfSupplementary_4cfef : sv_MW yJ2_indexOfSupplementary_4cfef cJ2_indexOfSupplementary_4cfef 7 (some .int) 4 := ⟨sv_in 732 (by decide +kernel) (by decide +kernel), sv_in 66 (by decide +kernel) (by decide +kernel), ⟨by decide, by decide, by decide +kernel⟩, by decide⟩
set_option maxRecDepth 20000 in
theorem mw_J11_isValidCodePoint_9a6ad : sv_MW yJ11_isValidCodePoint_9a6ad cJ11_isValidCodePoint_9a6ad 2 (some .boolean) 1 := ⟨sv_in 735 (by decide +kernel) (by decide +kernel), sv_in 67 (by decide +kernel) (by decide +kernel), ⟨by decide, by decide, by decide +kernel⟩, by decide⟩
set_option maxRecDepth 20000 in
theorem mw_J11_highSurrogate_5068e : sv_MW yJ11_highSurrogate_5068e cJ11_highSurrogate_5068e 1 (some .char) 1 := ⟨sv_in 738 (by decide +kernel) (by decide +kernel), sv_in 67 (by decide +kernel) (by decide +kernel), ⟨by decide, by decide, by decide +kernel⟩, by decide⟩
set_option maxRecDepth 20000 in
theorem mw_J11_lowSurrogate_5068e : sv_MW yJ11_lowSurrogate_5068e cJ11_lowSurrogate_5068e 1 (some .char) 1 := ⟨sv_in 742 (by decide +kernel) (by decide +kernel), sv_in 67 (by decide +kernel) (by decide +kernel), ⟨by decide, by decide, by decide +kernel⟩, by decide⟩
set_option maxRecDepth 20000 in
theorem mw_X3_isOneOf : sv_MW yX3_isOneOf cX3_isOneOf 2 (some .boolean) 1 := ⟨sv_in 748 (by decide +kernel) (by decide +kernel), sv_in 55 (by decide +kernel) (by decide +kernel), ⟨by decide, by decide, by decide +kernel⟩, by decide⟩
set_option maxRecDepth 20000 in
theorem mw_X3_readClosing : sv_MW yX3_readClosing cX3_readClosing 1 (some .boolean) 0 := ⟨sv_in 753 (by decide +kernel) (by decide +kernel), sv_in 55 (by decide +kernel) (by decide +kernel), ⟨by decide, by decide, by decide +kernel⟩, by decide⟩
set_option maxRecDepth 20000 in
theorem mw_X3_signsOf : sv_MW yX3_signsOf cX3_signsOf 1 (some (.object "java/lang/String")) 1 := ⟨sv_in 757 (by decide +kernel) (by decide +kernel), sv_in 55 (by decide +kernel) (by decide +kernel), ⟨by decide, by decide, by decide +kernel⟩, by decide⟩
set_option maxRecDepth 20000 in
theorem mw_X3_law : sv_MW yX3_law cX3_law 1 (some (.object "SmokeVotes$Law")) 0 := ⟨sv_in 766 (by decide +kernel) (by decide +kernel), sv_in 55 (by decide +kernel) (by decide +kernel), ⟨by decide, by decide, by decide +kernel⟩, by decide⟩
set_option maxRecDepth 20000 in
theorem mw_J7_copyOf_59c91 : sv_MW yJ7_copyOf_59c91 cJ7_copyOf_59c91 3 (some (.array .int)) 2 := ⟨sv_in 771 (by decide +kernel) (by decide +kernel), sv_in 61 (by decide +kernel) (by decide +kernel), ⟨by decide, by decide, by decide +kernel⟩, by decide⟩
set_option maxRecDepth 20000 in
theorem mw_X1_init : sv_MW yX1_init cX1_init 4 none 3 := ⟨sv_in 783 (by decide +kernel) (by decide +kernel), sv_in 68 (by decide +kernel) (by decide +kernel), ⟨by decide, by decide, by decide +kernel⟩, by decide⟩
set_option maxRecDepth 20000 in
theorem mw_X6_textTold : sv_MW yX6_textTold cX6_textTold 4 (some .int) 2 := ⟨sv_in 803 (by decide +kernel) (by decide +kernel), sv_in 53 (by decide +kernel) (by decide +kernel), ⟨by decide, by decide, by decide +kernel⟩, by decide⟩
set_option maxRecDepth 20000 in
theorem mw_X6_why : sv_MW yX6_why cX6_why 3 (some .int) 1 := ⟨sv_in 807 (by decide +kernel) (by decide +kernel), sv_in 53 (by decide +kernel) (by decide +kernel), ⟨by decide, by decide, by decide +kernel⟩, by decide⟩
set_option maxRecDepth 20000 in
theorem mw_X6_sheet : sv_MW yX6_sheet cX6_sheet 4 (some .int) 3 := ⟨sv_in 811 (by decide +kernel) (by decide +kernel), sv_in 53 (by decide +kernel) (by decide +kernel), ⟨by decide, by decide, by decide +kernel⟩, by decide⟩
set_option maxRecDepth 20000 in
theorem mw_X4_clear : sv_MW yX4_clear cX4_clear 3 none 2 := ⟨sv_in 815 (by decide +kernel) (by decide +kernel), sv_in 57 (by decide +kernel) (by decide +kernel), ⟨by decide, by decide, by decide +kernel⟩, by decide⟩
set_option maxRecDepth 20000 in
theorem mw_X6_mark : sv_MW yX6_mark cX6_mark 5 (some .int) 3 := ⟨sv_in 821 (by decide +kernel) (by decide +kernel), sv_in 53 (by decide +kernel) (by decide +kernel), ⟨by decide, by decide, by decide +kernel⟩, by decide⟩
set_option maxRecDepth 20000 in
theorem mw_X6_pour : sv_MW yX6_pour cX6_pour 6 (some .int) 1 := ⟨sv_in 829 (by decide +kernel) (by decide +kernel), sv_in 53 (by decide +kernel) (by decide +kernel), ⟨by decide, by decide, by decide +kernel⟩, by decide⟩
set_option maxRecDepth 20000 in
theorem mw_X6_reads : sv_MW yX6_reads cX6_reads 5 (some .int) 1 := ⟨sv_in 834 (by decide +kernel) (by decide +kernel), sv_in 53 (by decide +kernel) (by decide +kernel), ⟨by decide, by decide, by decide +kernel⟩, by decide⟩
set_option maxRecDepth 20000 in
theorem mw_X6_copy : sv_MW yX6_copy cX6_copy 8 (some .int) 5 := ⟨sv_in 838 (by decide +kernel) (by decide +kernel), sv_in 53 (by decide +kernel) (by decide +kernel), ⟨by decide, by decide, by decide +kernel⟩, by decide⟩
set_option maxRecDepth 20000 in
theorem mw_X4_hasStretch : sv_MW yX4_hasStretch cX4_hasStretch 3 (some .boolean) 2 := ⟨sv_in 842 (by decide +kernel) (by decide +kernel), sv_in 57 (by decide +kernel) (by decide +kernel), ⟨by decide, by decide, by decide +kernel⟩, by decide⟩
set_option maxRecDepth 20000 in
theorem mw_X6_lay : sv_MW yX6_lay cX6_lay 6 (some .int) 3 := ⟨sv_in 847 (by decide +kernel) (by decide +kernel), sv_in 53 (by decide +kernel) (by decide +kernel), ⟨by decide, by decide, by decide +kernel⟩, by decide⟩
set_option maxRecDepth 20000 in
theorem mw_X6_isSlot : sv_MW yX6_isSlot cX6_isSlot 1 (some .boolean) 1 := ⟨sv_in 850 (by decide +kernel) (by decide +kernel), sv_in 53 (by decide +kernel) (by decide +kernel), ⟨by decide, by decide, by decide +kernel⟩, by decide⟩
set_option maxRecDepth 20000 in
theorem mw_X4_become : sv_MW yX4_become cX4_become 2 none 1 := ⟨sv_in 854 (by decide +kernel) (by decide +kernel), sv_in 57 (by decide +kernel) (by decide +kernel), ⟨by decide, by decide, by decide +kernel⟩, by decide⟩
set_option maxRecDepth 20000 in
theorem mw_X6_ask : sv_MW yX6_ask cX6_ask 4 (some .int) 2 := ⟨sv_in 859 (by decide +kernel) (by decide +kernel), sv_in 53 (by decide +kernel) (by decide +kernel), ⟨by decide, by decide, by decide +kernel⟩, by decide⟩
set_option maxRecDepth 20000 in
theorem mw_X6_item : sv_MW yX6_item cX6_item 4 (some .int) 2 := ⟨sv_in 863 (by decide +kernel) (by decide +kernel), sv_in 53 (by decide +kernel) (by decide +kernel), ⟨by decide, by decide, by decide +kernel⟩, by decide⟩
set_option maxRecDepth 20000 in
theorem mw_X6_rest : sv_MW yX6_rest cX6_rest 4 (some .int) 2 := ⟨sv_in 867 (by decide +kernel) (by decide +kernel), sv_in 53 (by decide +kernel) (by decide +kernel), ⟨by decide, by decide, by decide +kernel⟩, by decide⟩
set_option maxRecDepth 20000 in
theorem mw_X6_tell : sv_MW yX6_tell cX6_tell 2 (some .int) 1 := ⟨sv_in 872 (by decide +kernel) (by decide +kernel), sv_in 53 (by decide +kernel) (by decide +kernel), ⟨by decide, by decide, by decide +kernel⟩, by decide⟩
set_option maxRecDepth 20000 in
theorem mw_X6_check : sv_MW yX6_check cX6_check 5 (some .int) 1 := ⟨sv_in 876 (by decide +kernel) (by decide +kernel), sv_in 53 (by decide +kernel) (by decide +kernel), ⟨by decide, by decide, by decide +kernel⟩, by decide⟩
set_option maxRecDepth 20000 in
theorem mw_X6_isTold : sv_MW yX6_isTold cX6_isTold 4 (some .boolean) 3 := ⟨sv_in 880 (by decide +kernel) (by decide +kernel), sv_in 53 (by decide +kernel) (by decide +kernel), ⟨by decide, by decide, by decide +kernel⟩, by decide⟩
set_option maxRecDepth 20000 in
theorem mw_X6_keep : sv_MW yX6_keep cX6_keep 1 (some .int) 0 := ⟨sv_in 884 (by decide +kernel) (by decide +kernel), sv_in 53 (by decide +kernel) (by decide +kernel), ⟨by decide, by decide, by decide +kernel⟩, by decide⟩
set_option maxRecDepth 20000 in
theorem mw_X6_back : sv_MW yX6_back cX6_back 1 (some .int) 0 := ⟨sv_in 888 (by decide +kernel) (by decide +kernel), sv_in 53 (by decide +kernel) (by decide +kernel), ⟨by decide, by decide, by decide +kernel⟩, by decide⟩
set_option maxRecDepth 20000 in
theorem mw_X6_count : sv_MW yX6_count cX6_count 2 (some .int) 1 := ⟨sv_in 892 (by decide +kernel) (by decide +kernel), sv_in 53 (by decide +kernel) (by decide +kernel), ⟨by decide, by decide, by decide +kernel⟩, by decide⟩
set_option maxRecDepth 20000 in
theorem mw_X7_init : sv_MW yX7_init cX7_init 1 none 0 := ⟨sv_in 897 (by decide +kernel) (by decide +kernel), sv_in 59 (by decide +kernel) (by decide +kernel), ⟨by decide, by decide, by decide +kernel⟩, by decide⟩
set_option maxRecDepth 20000 in
theorem mw_X7_voter : sv_MW yX7_voter cX7_voter 5 (some .int) 4 := ⟨sv_in 1010 (by decide +kernel) (by decide +kernel), sv_in 59 (by decide +kernel) (by decide +kernel), ⟨by decide, by decide, by decide +kernel⟩, by decide⟩
set_option maxRecDepth 20000 in
theorem mw_X7_in : sv_MW yX7_in cX7_in 3 (some .boolean) 3 := ⟨sv_in 1013 (by decide +kernel) (by decide +kernel), sv_in 59 (by decide +kernel) (by decide +kernel), ⟨by decide, by decide, by decide +kernel⟩, by decide⟩
set_option maxRecDepth 20000 in
theorem mw_X7_comes : sv_MW yX7_comes cX7_comes 6 (some .int) 4 := ⟨sv_in 1019 (by decide +kernel) (by decide +kernel), sv_in 59 (by decide +kernel) (by decide +kernel), ⟨by decide, by decide, by decide +kernel⟩, by decide⟩
set_option maxRecDepth 20000 in
theorem mw_X7_put : sv_MW yX7_put cX7_put 4 none 3 := ⟨sv_in 1023 (by decide +kernel) (by decide +kernel), sv_in 59 (by decide +kernel) (by decide +kernel), ⟨by decide, by decide, by decide +kernel⟩, by decide⟩
set_option maxRecDepth 20000 in
theorem mw_X7_told : sv_MW yX7_told cX7_told 3 (some .int) 2 := ⟨sv_in 1027 (by decide +kernel) (by decide +kernel), sv_in 59 (by decide +kernel) (by decide +kernel), ⟨by decide, by decide, by decide +kernel⟩, by decide⟩
set_option maxRecDepth 20000 in
theorem mw_X7_isVoter : sv_MW yX7_isVoter cX7_isVoter 2 (some .boolean) 1 := ⟨sv_in 1031 (by decide +kernel) (by decide +kernel), sv_in 59 (by decide +kernel) (by decide +kernel), ⟨by decide, by decide, by decide +kernel⟩, by decide⟩
set_option maxRecDepth 20000 in
theorem mw_X7_of : sv_MW yX7_of cX7_of 3 (some .int) 2 := ⟨sv_in 1035 (by decide +kernel) (by decide +kernel), sv_in 59 (by decide +kernel) (by decide +kernel), ⟨by decide, by decide, by decide +kernel⟩, by decide⟩
set_option maxRecDepth 20000 in
theorem mw_X7_has : sv_MW yX7_has cX7_has 4 (some .int) 1 := ⟨sv_in 1039 (by decide +kernel) (by decide +kernel), sv_in 59 (by decide +kernel) (by decide +kernel), ⟨by decide, by decide, by decide +kernel⟩, by decide⟩
set_option maxRecDepth 20000 in
theorem mw_X7_weightOf : sv_MW yX7_weightOf cX7_weightOf 2 (some .int) 1 := ⟨sv_in 1043 (by decide +kernel) (by decide +kernel), sv_in 59 (by decide +kernel) (by decide +kernel), ⟨by decide, by decide, by decide +kernel⟩, by decide⟩
set_option maxRecDepth 20000 in
theorem mw_X7_votesFor : sv_MW yX7_votesFor cX7_votesFor 3 (some .int) 1 := ⟨sv_in 1047 (by decide +kernel) (by decide +kernel), sv_in 59 (by decide +kernel) (by decide +kernel), ⟨by decide, by decide, by decide +kernel⟩, by decide⟩
set_option maxRecDepth 20000 in
theorem mw_X7_runners : sv_MW yX7_runners cX7_runners 3 (some .int) 0 := ⟨sv_in 1051 (by decide +kernel) (by decide +kernel), sv_in 59 (by decide +kernel) (by decide +kernel), ⟨by decide, by decide, by decide +kernel⟩, by decide⟩
set_option maxRecDepth 20000 in
theorem mw_X7_all : sv_MW yX7_all cX7_all 1 (some .int) 0 := ⟨sv_in 1055 (by decide +kernel) (by decide +kernel), sv_in 59 (by decide +kernel) (by decide +kernel), ⟨by decide, by decide, by decide +kernel⟩, by decide⟩
set_option maxRecDepth 20000 in
theorem mw_X7_mostOf : sv_MW yX7_mostOf cX7_mostOf 4 (some .int) 1 := ⟨sv_in 1059 (by decide +kernel) (by decide +kernel), sv_in 59 (by decide +kernel) (by decide +kernel), ⟨by decide, by decide, by decide +kernel⟩, by decide⟩
set_option maxRecDepth 20000 in
theorem mw_X7_loyally : sv_MW yX7_loyally cX7_loyally 4 (some .int) 2 := ⟨sv_in 1063 (by decide +kernel) (by decide +kernel), sv_in 59 (by decide +kernel) (by decide +kernel), ⟨by decide, by decide, by decide +kernel⟩, by decide⟩
set_option maxRecDepth 20000 in
theorem mw_X7_ofParty : sv_MW yX7_ofParty cX7_ofParty 4 (some .int) 1 := ⟨sv_in 1067 (by decide +kernel) (by decide +kernel), sv_in 59 (by decide +kernel) (by decide +kernel), ⟨by decide, by decide, by decide +kernel⟩, by decide⟩
set_option maxRecDepth 20000 in
theorem mw_X7_plainly : sv_MW yX7_plainly cX7_plainly 3 (some .int) 2 := ⟨sv_in 1071 (by decide +kernel) (by decide +kernel), sv_in 59 (by decide +kernel) (by decide +kernel), ⟨by decide, by decide, by decide +kernel⟩, by decide⟩
set_option maxRecDepth 20000 in
theorem mw_X7_swayed : sv_MW yX7_swayed cX7_swayed 6 (some .int) 2 := ⟨sv_in 1075 (by decide +kernel) (by decide +kernel), sv_in 59 (by decide +kernel) (by decide +kernel), ⟨by decide, by decide, by decide +kernel⟩, by decide⟩
set_option maxRecDepth 20000 in
theorem mw_X7_counts : sv_MW yX7_counts cX7_counts 3 (some .int) 1 := ⟨sv_in 1079 (by decide +kernel) (by decide +kernel), sv_in 59 (by decide +kernel) (by decide +kernel), ⟨by decide, by decide, by decide +kernel⟩, by decide⟩
set_option maxRecDepth 20000 in
theorem mw_X7_worksOut : sv_MW yX7_worksOut cX7_worksOut 6 (some .int) 1 := ⟨sv_in 1083 (by decide +kernel) (by decide +kernel), sv_in 59 (by decide +kernel) (by decide +kernel), ⟨by decide, by decide, by decide +kernel⟩, by decide⟩
set_option maxRecDepth 20000 in
theorem mw_X7_two : sv_MW yX7_two cX7_two 3 (some .int) 3 := ⟨sv_in 1086 (by decide +kernel) (by decide +kernel), sv_in 59 (by decide +kernel) (by decide +kernel), ⟨by decide, by decide, by decide +kernel⟩, by decide⟩
set_option maxRecDepth 20000 in
theorem mw_X7_within : sv_MW yX7_within cX7_within 3 (some .int) 3 := ⟨sv_in 1089 (by decide +kernel) (by decide +kernel), sv_in 59 (by decide +kernel) (by decide +kernel), ⟨by decide, by decide, by decide +kernel⟩, by decide⟩
set_option maxRecDepth 20000 in
theorem mw_X7_worthOf : sv_MW yX7_worthOf cX7_worthOf 3 (some .int) 1 := ⟨sv_in 1093 (by decide +kernel) (by decide +kernel), sv_in 59 (by decide +kernel) (by decide +kernel), ⟨by decide, by decide, by decide +kernel⟩, by decide⟩
set_option maxRecDepth 20000 in
theorem mw_X7_as : sv_MW yX7_as cX7_as 3 (some .int) 2 := ⟨sv_in 1097 (by decide +kernel) (by decide +kernel), sv_in 59 (by decide +kernel) (by decide +kernel), ⟨by decide, by decide, by decide +kernel⟩, by decide⟩
set_option maxRecDepth 20000 in
theorem mw_X7_isUnder : sv_MW yX7_isUnder cX7_isUnder 2 (some .boolean) 2 := ⟨sv_in 1100 (by decide +kernel) (by decide +kernel), sv_in 59 (by decide +kernel) (by decide +kernel), ⟨by decide, by decide, by decide +kernel⟩, by decide⟩
set_option maxRecDepth 20000 in
theorem mw_X7_turns : sv_MW yX7_turns cX7_turns 3 (some .int) 2 := ⟨sv_in 1105 (by decide +kernel) (by decide +kernel), sv_in 59 (by decide +kernel) (by decide +kernel), ⟨by decide, by decide, by decide +kernel⟩, by decide⟩
set_option maxRecDepth 20000 in
theorem mw_X7_becomes : sv_MW yX7_becomes cX7_becomes 4 (some .int) 2 := ⟨sv_in 1109 (by decide +kernel) (by decide +kernel), sv_in 59 (by decide +kernel) (by decide +kernel), ⟨by decide, by decide, by decide +kernel⟩, by decide⟩
set_option maxRecDepth 20000 in
theorem mw_X7_set : sv_MW yX7_set cX7_set 5 (some .int) 3 := ⟨sv_in 1113 (by decide +kernel) (by decide +kernel), sv_in 59 (by decide +kernel) (by decide +kernel), ⟨by decide, by decide, by decide +kernel⟩, by decide⟩
set_option maxRecDepth 20000 in
theorem mw_X7_rule : sv_MW yX7_rule cX7_rule 3 (some .int) 2 := ⟨sv_in 1117 (by decide +kernel) (by decide +kernel), sv_in 59 (by decide +kernel) (by decide +kernel), ⟨by decide, by decide, by decide +kernel⟩, by decide⟩
set_option maxRecDepth 20000 in
theorem mw_X7_again : sv_MW yX7_again cX7_again 3 (some .int) 0 := ⟨sv_in 1121 (by decide +kernel) (by decide +kernel), sv_in 59 (by decide +kernel) (by decide +kernel), ⟨by decide, by decide, by decide +kernel⟩, by decide⟩
set_option maxRecDepth 20000 in
theorem mw_X7_deal : sv_MW yX7_deal cX7_deal 7 (some .int) 1 := ⟨sv_in 1125 (by decide +kernel) (by decide +kernel), sv_in 59 (by decide +kernel) (by decide +kernel), ⟨by decide, by decide, by decide +kernel⟩, by decide⟩
set_option maxRecDepth 20000 in
theorem mw_X7_draw : sv_MW yX7_draw cX7_draw 1 (some .int) 0 := ⟨sv_in 1129 (by decide +kernel) (by decide +kernel), sv_in 59 (by decide +kernel) (by decide +kernel), ⟨by decide, by decide, by decide +kernel⟩, by decide⟩
set_option maxRecDepth 20000 in
theorem mw_X7_seed : sv_MW yX7_seed cX7_seed 2 (some .int) 1 := ⟨sv_in 1134 (by decide +kernel) (by decide +kernel), sv_in 59 (by decide +kernel) (by decide +kernel), ⟨by decide, by decide, by decide +kernel⟩, by decide⟩
set_option maxRecDepth 20000 in
theorem mw_X7_rounds : sv_MW yX7_rounds cX7_rounds 2 (some .int) 1 := ⟨sv_in 1138 (by decide +kernel) (by decide +kernel), sv_in 59 (by decide +kernel) (by decide +kernel), ⟨by decide, by decide, by decide +kernel⟩, by decide⟩
set_option maxRecDepth 20000 in
theorem mw_X7_goesOn : sv_MW yX7_goesOn cX7_goesOn 3 none 1 := ⟨sv_in 1142 (by decide +kernel) (by decide +kernel), sv_in 59 (by decide +kernel) (by decide +kernel), ⟨by decide, by decide, by decide +kernel⟩, by decide⟩
set_option maxRecDepth 20000 in
theorem mw_X7_round : sv_MW yX7_round cX7_round 1 none 0 := ⟨sv_in 1146 (by decide +kernel) (by decide +kernel), sv_in 59 (by decide +kernel) (by decide +kernel), ⟨by decide, by decide, by decide +kernel⟩, by decide⟩
set_option maxRecDepth 20000 in
theorem mw_X7_votes : sv_MW yX7_votes cX7_votes 3 none 0 := ⟨sv_in 1150 (by decide +kernel) (by decide +kernel), sv_in 59 (by decide +kernel) (by decide +kernel), ⟨by decide, by decide, by decide +kernel⟩, by decide⟩
set_option maxRecDepth 20000 in
theorem mw_X7_wanted : sv_MW yX7_wanted cX7_wanted 3 (some .int) 0 := ⟨sv_in 1154 (by decide +kernel) (by decide +kernel), sv_in 59 (by decide +kernel) (by decide +kernel), ⟨by decide, by decide, by decide +kernel⟩, by decide⟩
set_option maxRecDepth 20000 in
theorem mw_X7_conclave : sv_MW yX7_conclave cX7_conclave 2 (some .int) 1 := ⟨sv_in 1158 (by decide +kernel) (by decide +kernel), sv_in 59 (by decide +kernel) (by decide +kernel), ⟨by decide, by decide, by decide +kernel⟩, by decide⟩
set_option maxRecDepth 20000 in
theorem mw_X7_leader : sv_MW yX7_leader cX7_leader 2 (some .int) 0 := ⟨sv_in 1162 (by decide +kernel) (by decide +kernel), sv_in 59 (by decide +kernel) (by decide +kernel), ⟨by decide, by decide, by decide +kernel⟩, by decide⟩
set_option maxRecDepth 20000 in
theorem mw_X7_told0 : sv_MW yX7_told0 cX7_told0 1 (some .int) 1 := ⟨sv_in 1165 (by decide +kernel) (by decide +kernel), sv_in 59 (by decide +kernel) (by decide +kernel), ⟨by decide, by decide, by decide +kernel⟩, by decide⟩
set_option maxRecDepth 20000 in
theorem mw_X7_butOne : sv_MW yX7_butOne cX7_butOne 3 (some .int) 0 := ⟨sv_in 1170 (by decide +kernel) (by decide +kernel), sv_in 59 (by decide +kernel) (by decide +kernel), ⟨by decide, by decide, by decide +kernel⟩, by decide⟩
set_option maxRecDepth 20000 in
theorem mw_X7_decides : sv_MW yX7_decides cX7_decides 5 (some .int) 0 := ⟨sv_in 1174 (by decide +kernel) (by decide +kernel), sv_in 59 (by decide +kernel) (by decide +kernel), ⟨by decide, by decide, by decide +kernel⟩, by decide⟩
set_option maxRecDepth 20000 in
theorem mw_X7_splits : sv_MW yX7_splits cX7_splits 7 (some .int) 2 := ⟨sv_in 1178 (by decide +kernel) (by decide +kernel), sv_in 59 (by decide +kernel) (by decide +kernel), ⟨by decide, by decide, by decide +kernel⟩, by decide⟩
set_option maxRecDepth 20000 in
theorem mw_X7_behind : sv_MW yX7_behind cX7_behind 4 (some .int) 2 := ⟨sv_in 1182 (by decide +kernel) (by decide +kernel), sv_in 59 (by decide +kernel) (by decide +kernel), ⟨by decide, by decide, by decide +kernel⟩, by decide⟩
set_option maxRecDepth 20000 in
theorem mw_X7_thinks : sv_MW yX7_thinks cX7_thinks 2 none 0 := ⟨sv_in 1186 (by decide +kernel) (by decide +kernel), sv_in 59 (by decide +kernel) (by decide +kernel), ⟨by decide, by decide, by decide +kernel⟩, by decide⟩
set_option maxRecDepth 20000 in
theorem mw_X7_mostHad : sv_MW yX7_mostHad cX7_mostHad 2 (some .int) 0 := ⟨sv_in 1190 (by decide +kernel) (by decide +kernel), sv_in 59 (by decide +kernel) (by decide +kernel), ⟨by decide, by decide, by decide +kernel⟩, by decide⟩
set_option maxRecDepth 20000 in
theorem mw_X7_putsBack : sv_MW yX7_putsBack cX7_putsBack 2 none 0 := ⟨sv_in 1194 (by decide +kernel) (by decide +kernel), sv_in 59 (by decide +kernel) (by decide +kernel), ⟨by decide, by decide, by decide +kernel⟩, by decide⟩
set_option maxRecDepth 20000 in
theorem mw_X7_ends : sv_MW yX7_ends cX7_ends 2 (some .int) 0 := ⟨sv_in 1198 (by decide +kernel) (by decide +kernel), sv_in 59 (by decide +kernel) (by decide +kernel), ⟨by decide, by decide, by decide +kernel⟩, by decide⟩
set_option maxRecDepth 20000 in
theorem mw_X7_won : sv_MW yX7_won cX7_won 8 (some .int) 3 := ⟨sv_in 1202 (by decide +kernel) (by decide +kernel), sv_in 59 (by decide +kernel) (by decide +kernel), ⟨by decide, by decide, by decide +kernel⟩, by decide⟩
set_option maxRecDepth 20000 in
theorem mw_X7_party : sv_MW yX7_party cX7_party 5 (some .int) 1 := ⟨sv_in 1206 (by decide +kernel) (by decide +kernel), sv_in 59 (by decide +kernel) (by decide +kernel), ⟨by decide, by decide, by decide +kernel⟩, by decide⟩
set_option maxRecDepth 20000 in
theorem mw_X7_smokes : sv_MW yX7_smokes cX7_smokes 4 (some .int) 1 := ⟨sv_in 1210 (by decide +kernel) (by decide +kernel), sv_in 59 (by decide +kernel) (by decide +kernel), ⟨by decide, by decide, by decide +kernel⟩, by decide⟩
set_option maxRecDepth 20000 in
theorem mw_X7_fits : sv_MW yX7_fits cX7_fits 9 (some .int) 2 := ⟨sv_in 1214 (by decide +kernel) (by decide +kernel), sv_in 59 (by decide +kernel) (by decide +kernel), ⟨by decide, by decide, by decide +kernel⟩, by decide⟩
set_option maxRecDepth 20000 in
theorem mw_X7_isSheet : sv_MW yX7_isSheet cX7_isSheet 1 (some .boolean) 1 := ⟨sv_in 1217 (by decide +kernel) (by decide +kernel), sv_in 59 (by decide +kernel) (by decide +kernel), ⟨by decide, by decide, by decide +kernel⟩, by decide⟩
set_option maxRecDepth 20000 in
theorem mw_X7_offBy : sv_MW yX7_offBy cX7_offBy 9 (some .long) 2 := ⟨sv_in 1222 (by decide +kernel) (by decide +kernel), sv_in 59 (by decide +kernel) (by decide +kernel), ⟨by decide, by decide, by decide +kernel⟩, by decide⟩
set_option maxRecDepth 20000 in
theorem mw_X7_fee : sv_MW yX7_fee cX7_fee 2 (some .int) 0 := ⟨sv_in 1226 (by decide +kernel) (by decide +kernel), sv_in 59 (by decide +kernel) (by decide +kernel), ⟨by decide, by decide, by decide +kernel⟩, by decide⟩
set_option maxRecDepth 20000 in
theorem mw_X7_fine : sv_MW yX7_fine cX7_fine 3 (some .int) 1 := ⟨sv_in 1230 (by decide +kernel) (by decide +kernel), sv_in 59 (by decide +kernel) (by decide +kernel), ⟨by decide, by decide, by decide +kernel⟩, by decide⟩
set_option maxRecDepth 20000 in
theorem mw_X7_feed : sv_MW yX7_feed cX7_feed 6 (some .int) 3 := ⟨sv_in 1234 (by decide +kernel) (by decide +kernel), sv_in 59 (by decide +kernel) (by decide +kernel), ⟨by decide, by decide, by decide +kernel⟩, by decide⟩
set_option maxRecDepth 20000 in
theorem mw_X7_trim : sv_MW yX7_trim cX7_trim 2 (some .int) 1 := ⟨sv_in 1238 (by decide +kernel) (by decide +kernel), sv_in 59 (by decide +kernel) (by decide +kernel), ⟨by decide, by decide, by decide +kernel⟩, by decide⟩
set_option maxRecDepth 20000 in
theorem mw_X7_text : sv_MW yX7_text cX7_text 4 (some .int) 0 := ⟨sv_in 1242 (by decide +kernel) (by decide +kernel), sv_in 59 (by decide +kernel) (by decide +kernel), ⟨by decide, by decide, by decide +kernel⟩, by decide⟩
set_option maxRecDepth 20000 in
theorem mw_X7_go : sv_MW yX7_go cX7_go 2 none 0 := ⟨sv_in 1246 (by decide +kernel) (by decide +kernel), sv_in 59 (by decide +kernel) (by decide +kernel), ⟨by decide, by decide, by decide +kernel⟩, by decide⟩
set_option maxRecDepth 20000 in
theorem mw_X7_isLetter : sv_MW yX7_isLetter cX7_isLetter 2 (some .boolean) 1 := ⟨sv_in 1250 (by decide +kernel) (by decide +kernel), sv_in 59 (by decide +kernel) (by decide +kernel), ⟨by decide, by decide, by decide +kernel⟩, by decide⟩
set_option maxRecDepth 20000 in
theorem mw_X7_isFigure : sv_MW yX7_isFigure cX7_isFigure 2 (some .boolean) 1 := ⟨sv_in 1254 (by decide +kernel) (by decide +kernel), sv_in 59 (by decide +kernel) (by decide +kernel), ⟨by decide, by decide, by decide +kernel⟩, by decide⟩
set_option maxRecDepth 20000 in
theorem mw_X7_takesKey : sv_MW yX7_takesKey cX7_takesKey 5 (some .boolean) 0 := ⟨sv_in 1258 (by decide +kernel) (by decide +kernel), sv_in 59 (by decide +kernel) (by decide +kernel), ⟨by decide, by decide, by decide +kernel⟩, by decide⟩
set_option maxRecDepth 20000 in
theorem mw_X7_takesE : sv_MW yX7_takesE cX7_takesE 5 (some .boolean) 0 := ⟨sv_in 1262 (by decide +kernel) (by decide +kernel), sv_in 59 (by decide +kernel) (by decide +kernel), ⟨by decide, by decide, by decide +kernel⟩, by decide⟩
set_option maxRecDepth 20000 in
theorem mw_X7_takesPart : sv_MW yX7_takesPart cX7_takesPart 2 (some .boolean) 0 := ⟨sv_in 1266 (by decide +kernel) (by decide +kernel), sv_in 59 (by decide +kernel) (by decide +kernel), ⟨by decide, by decide, by decide +kernel⟩, by decide⟩
set_option maxRecDepth 20000 in
theorem mw_X7_nameOf : sv_MW yX7_nameOf cX7_nameOf 2 (some .int) 1 := ⟨sv_in 1270 (by decide +kernel) (by decide +kernel), sv_in 59 (by decide +kernel) (by decide +kernel), ⟨by decide, by decide, by decide +kernel⟩, by decide⟩
set_option maxRecDepth 20000 in
theorem mw_X7_settle : sv_MW yX7_settle cX7_settle 2 none 1 := ⟨sv_in 1274 (by decide +kernel) (by decide +kernel), sv_in 59 (by decide +kernel) (by decide +kernel), ⟨by decide, by decide, by decide +kernel⟩, by decide⟩
set_option maxRecDepth 20000 in
theorem mw_X7_rank : sv_MW yX7_rank cX7_rank 1 (some .int) 1 := ⟨sv_in 1277 (by decide +kernel) (by decide +kernel), sv_in 59 (by decide +kernel) (by decide +kernel), ⟨by decide, by decide, by decide +kernel⟩, by decide⟩
set_option maxRecDepth 20000 in
theorem mw_X7_notsOpen : sv_MW yX7_notsOpen cX7_notsOpen 3 (some .int) 0 := ⟨sv_in 1281 (by decide +kernel) (by decide +kernel), sv_in 59 (by decide +kernel) (by decide +kernel), ⟨by decide, by decide, by decide +kernel⟩, by decide⟩
set_option maxRecDepth 20000 in
theorem mw_X7_signHere : sv_MW yX7_signHere cX7_signHere 1 (some .int) 0 := ⟨sv_in 1285 (by decide +kernel) (by decide +kernel), sv_in 59 (by decide +kernel) (by decide +kernel), ⟨by decide, by decide, by decide +kernel⟩, by decide⟩
set_option maxRecDepth 20000 in
theorem mw_X7_textTold : sv_MW yX7_textTold cX7_textTold 3 (some .int) 2 := ⟨sv_in 1289 (by decide +kernel) (by decide +kernel), sv_in 59 (by decide +kernel) (by decide +kernel), ⟨by decide, by decide, by decide +kernel⟩, by decide⟩
set_option maxRecDepth 20000 in
theorem mw_X7_why : sv_MW yX7_why cX7_why 3 (some .int) 1 := ⟨sv_in 1293 (by decide +kernel) (by decide +kernel), sv_in 59 (by decide +kernel) (by decide +kernel), ⟨by decide, by decide, by decide +kernel⟩, by decide⟩
set_option maxRecDepth 20000 in
theorem mw_X7_sheet : sv_MW yX7_sheet cX7_sheet 5 (some .int) 3 := ⟨sv_in 1297 (by decide +kernel) (by decide +kernel), sv_in 59 (by decide +kernel) (by decide +kernel), ⟨by decide, by decide, by decide +kernel⟩, by decide⟩
set_option maxRecDepth 20000 in
theorem mw_X7_mark : sv_MW yX7_mark cX7_mark 4 (some .int) 3 := ⟨sv_in 1302 (by decide +kernel) (by decide +kernel), sv_in 59 (by decide +kernel) (by decide +kernel), ⟨by decide, by decide, by decide +kernel⟩, by decide⟩
set_option maxRecDepth 20000 in
theorem mw_X7_pour : sv_MW yX7_pour cX7_pour 6 (some .int) 1 := ⟨sv_in 1309 (by decide +kernel) (by decide +kernel), sv_in 59 (by decide +kernel) (by decide +kernel), ⟨by decide, by decide, by decide +kernel⟩, by decide⟩
set_option maxRecDepth 20000 in
theorem mw_X7_reads : sv_MW yX7_reads cX7_reads 4 (some .int) 1 := ⟨sv_in 1313 (by decide +kernel) (by decide +kernel), sv_in 59 (by decide +kernel) (by decide +kernel), ⟨by decide, by decide, by decide +kernel⟩, by decide⟩
set_option maxRecDepth 20000 in
theorem mw_X7_copy : sv_MW yX7_copy cX7_copy 7 (some .int) 5 := ⟨sv_in 1317 (by decide +kernel) (by decide +kernel), sv_in 59 (by decide +kernel) (by decide +kernel), ⟨by decide, by decide, by decide +kernel⟩, by decide⟩
set_option maxRecDepth 20000 in
theorem mw_X7_lay : sv_MW yX7_lay cX7_lay 6 (some .int) 3 := ⟨sv_in 1321 (by decide +kernel) (by decide +kernel), sv_in 59 (by decide +kernel) (by decide +kernel), ⟨by decide, by decide, by decide +kernel⟩, by decide⟩
set_option maxRecDepth 20000 in
theorem mw_X7_isSlot : sv_MW yX7_isSlot cX7_isSlot 1 (some .boolean) 1 := ⟨sv_in 1324 (by decide +kernel) (by decide +kernel), sv_in 59 (by decide +kernel) (by decide +kernel), ⟨by decide, by decide, by decide +kernel⟩, by decide⟩
set_option maxRecDepth 20000 in
theorem mw_X7_ask : sv_MW yX7_ask cX7_ask 3 (some .int) 2 := ⟨sv_in 1328 (by decide +kernel) (by decide +kernel), sv_in 59 (by decide +kernel) (by decide +kernel), ⟨by decide, by decide, by decide +kernel⟩, by decide⟩
set_option maxRecDepth 20000 in
theorem mw_X7_item : sv_MW yX7_item cX7_item 4 (some .int) 2 := ⟨sv_in 1332 (by decide +kernel) (by decide +kernel), sv_in 59 (by decide +kernel) (by decide +kernel), ⟨by decide, by decide, by decide +kernel⟩, by decide⟩
set_option maxRecDepth 20000 in
theorem mw_X7_rest : sv_MW yX7_rest cX7_rest 3 (some .int) 2 := ⟨sv_in 1336 (by decide +kernel) (by decide +kernel), sv_in 59 (by decide +kernel) (by decide +kernel), ⟨by decide, by decide, by decide +kernel⟩, by decide⟩
set_option maxRecDepth 20000 in
theorem mw_X7_tell : sv_MW yX7_tell cX7_tell 2 (some .int) 1 := ⟨sv_in 1341 (by decide +kernel) (by decide +kernel), sv_in 59 (by decide +kernel) (by decide +kernel), ⟨by decide, by decide, by decide +kernel⟩, by decide⟩
set_option maxRecDepth 20000 in
theorem mw_X7_check : sv_MW yX7_check cX7_check 6 (some .int) 1 := ⟨sv_in 1345 (by decide +kernel) (by decide +kernel), sv_in 59 (by decide +kernel) (by decide +kernel), ⟨by decide, by decide, by decide +kernel⟩, by decide⟩
set_option maxRecDepth 20000 in
theorem mw_X7_copyAll : sv_MW yX7_copyAll cX7_copyAll 3 none 2 := ⟨sv_in 1348 (by decide +kernel) (by decide +kernel), sv_in 59 (by decide +kernel) (by decide +kernel), ⟨by decide, by decide, by decide +kernel⟩, by decide⟩
set_option maxRecDepth 20000 in
theorem mw_X7_keep : sv_MW yX7_keep cX7_keep 1 (some .int) 0 := ⟨sv_in 1352 (by decide +kernel) (by decide +kernel), sv_in 59 (by decide +kernel) (by decide +kernel), ⟨by decide, by decide, by decide +kernel⟩, by decide⟩
set_option maxRecDepth 20000 in
theorem mw_X7_back : sv_MW yX7_back cX7_back 1 (some .int) 0 := ⟨sv_in 1356 (by decide +kernel) (by decide +kernel), sv_in 59 (by decide +kernel) (by decide +kernel), ⟨by decide, by decide, by decide +kernel⟩, by decide⟩
set_option maxRecDepth 20000 in
theorem mw_X7_count : sv_MW yX7_count cX7_count 2 (some .int) 1 := ⟨sv_in 1360 (by decide +kernel) (by decide +kernel), sv_in 59 (by decide +kernel) (by decide +kernel), ⟨by decide, by decide, by decide +kernel⟩, by decide⟩
set_option maxRecDepth 20000 in
theorem lk_L_9 : sv_LI RL 9 yX6_init := ⟨sv_in 71 (by decide +kernel) (by decide +kernel), sv_in 72 (by decide +kernel) (by decide +kernel), rfl⟩
set_option maxRecDepth 20000 in
theorem lk_X6_1 : Cond.methodLink RX6 1 Lib.objectInit ∈ sv_tbl := sv_in 74 (by decide +kernel) (by decide +kernel)
set_option maxRecDepth 20000 in
theorem lk_X6_9 : sv_LIN RX6 9 yX2_init RX6 := ⟨by decide +kernel, sv_in 80 (by decide +kernel) (by decide +kernel), rfl⟩
set_option maxRecDepth 20000 in
theorem lk_X2_3 : Cond.methodLink RX2 3 Lib.objectInit ∈ sv_tbl := sv_in 82 (by decide +kernel) (by decide +kernel)
set_option maxRecDepth 20000 in
theorem lk_X6_18 : sv_LIN RX6 18 yX3_init RX6 := ⟨by decide +kernel, sv_in 97 (by decide +kernel) (by decide +kernel), rfl⟩
set_option maxRecDepth 20000 in
theorem lk_X3_3 : Cond.methodLink RX3 3 Lib.objectInit ∈ sv_tbl := sv_in 99 (by decide +kernel) (by decide +kernel)
set_option maxRecDepth 20000 in
theorem lk_X6_25 : sv_LI RX6 25 yX0_init := ⟨sv_in 134 (by decide +kernel) (by decide +kernel), sv_in 135 (by decide +kernel) (by decide +kernel), rfl⟩
set_option maxRecDepth 20000 in
theorem lk_X0_3 : Cond.methodLink RX0 3 Lib.objectInit ∈ sv_tbl := sv_in 137 (by decide +kernel) (by decide +kernel)
set_option maxRecDepth 20000 in
theorem lk_X6_44 : sv_LIN RX6 44 yX4_init RX6 := ⟨by decide +kernel, sv_in 218 (by decide +kernel) (by decide +kernel), rfl⟩
set_option maxRecDepth 20000 in
theorem lk_X4_3 : Cond.methodLink RX4 3 Lib.objectInit ∈ sv_tbl := sv_in 220 (by decide +kernel) (by decide +kernel)
set_option maxRecDepth 20000 in
theorem lk_X6_51 : sv_LIN RX6 51 yX5_init RX6 := ⟨by decide +kernel, sv_in 238 (by decide +kernel) (by decide +kernel), rfl⟩
set_option maxRecDepth 20000 in
theorem lk_X5_3 : Cond.methodLink RX5 3 Lib.objectInit ∈ sv_tbl := sv_in 240 (by decide +kernel) (by decide +kernel)
set_option maxRecDepth 20000 in
theorem lk_X5_11 : sv_LIN RX5 11 yX4_init RX6 := ⟨by decide +kernel, sv_in 218 (by decide +kernel) (by decide +kernel), rfl⟩
set_option maxRecDepth 20000 in
theorem lk_L_13 : sv_LV RL 13 yX6_voter := ⟨sv_in 298 (by decide +kernel) (by decide +kernel), sv_in 299 (by decide +kernel) (by decide +kernel), sv_in 300 (by decide +kernel) (by decide +kernel)⟩
set_option maxRecDepth 20000 in
theorem lk_X6_67 : sv_LS RX6 67 yX6_isWithin := ⟨sv_in 302 (by decide +kernel) (by decide +kernel), sv_in 303 (by decide +kernel) (by decide +kernel)⟩
set_option maxRecDepth 20000 in
theorem lk_X6_76 : sv_LV RX6 76 yX0_enter := ⟨sv_in 307 (by decide +kernel) (by decide +kernel), sv_in 308 (by decide +kernel) (by decide +kernel), sv_in 309 (by decide +kernel) (by decide +kernel)⟩
set_option maxRecDepth 20000 in
theorem lk_L_18 : sv_LV RL 18 yX6_told := ⟨sv_in 311 (by decide +kernel) (by decide +kernel), sv_in 312 (by decide +kernel) (by decide +kernel), sv_in 313 (by decide +kernel) (by decide +kernel)⟩
set_option maxRecDepth 20000 in
theorem lk_X6_80 : sv_LV RX6 80 yX0_isVoter := ⟨sv_in 315 (by decide +kernel) (by decide +kernel), sv_in 316 (by decide +kernel) (by decide +kernel), sv_in 317 (by decide +kernel) (by decide +kernel)⟩
set_option maxRecDepth 20000 in
theorem lk_X6_105 : sv_LV RX6 105 yX0_runners := ⟨sv_in 319 (by decide +kernel) (by decide +kernel), sv_in 320 (by decide +kernel) (by decide +kernel), sv_in 321 (by decide +kernel) (by decide +kernel)⟩
set_option maxRecDepth 20000 in
theorem lk_X0_128 : sv_LV RX0 128 yX0_mostAmong := ⟨sv_in 323 (by decide +kernel) (by decide +kernel), sv_in 324 (by decide +kernel) (by decide +kernel), sv_in 325 (by decide +kernel) (by decide +kernel)⟩
set_option maxRecDepth 20000 in
theorem lk_X0_117 : sv_LV RX0 117 yX0_isVoter := ⟨sv_in 327 (by decide +kernel) (by decide +kernel), sv_in 316 (by decide +kernel) (by decide +kernel), sv_in 317 (by decide +kernel) (by decide +kernel)⟩
set_option maxRecDepth 20000 in
theorem lk_X6_109 : sv_LV RX6 109 yX0_leader := ⟨sv_in 328 (by decide +kernel) (by decide +kernel), sv_in 329 (by decide +kernel) (by decide +kernel), sv_in 330 (by decide +kernel) (by decide +kernel)⟩
set_option maxRecDepth 20000 in
theorem lk_X6_112 : sv_LV RX6 112 yX0_choice := ⟨sv_in 332 (by decide +kernel) (by decide +kernel), sv_in 333 (by decide +kernel) (by decide +kernel), sv_in 334 (by decide +kernel) (by decide +kernel)⟩
set_option maxRecDepth 20000 in
theorem lk_X0_131 : sv_LV RX0 131 yX0_choiceOfLoyal := ⟨sv_in 336 (by decide +kernel) (by decide +kernel), sv_in 337 (by decide +kernel) (by decide +kernel), sv_in 338 (by decide +kernel) (by decide +kernel)⟩
set_option maxRecDepth 20000 in
theorem lk_X0_137 : sv_LV RX0 137 yX0_choiceOfPlain := ⟨sv_in 340 (by decide +kernel) (by decide +kernel), sv_in 341 (by decide +kernel) (by decide +kernel), sv_in 342 (by decide +kernel) (by decide +kernel)⟩
set_option maxRecDepth 20000 in
theorem lk_X0_134 : sv_LV RX0 134 yX0_choiceOfSwayed := ⟨sv_in 344 (by decide +kernel) (by decide +kernel), sv_in 345 (by decide +kernel) (by decide +kernel), sv_in 346 (by decide +kernel) (by decide +kernel)⟩
set_option maxRecDepth 20000 in
theorem lk_X0_140 : sv_LV RX0 140 yX2_latest := ⟨sv_in 348 (by decide +kernel) (by decide +kernel), sv_in 349 (by decide +kernel) (by decide +kernel), sv_in 350 (by decide +kernel) (by decide +kernel)⟩
set_option maxRecDepth 20000 in
theorem lk_X2_21 : Cond.methodLink RX2 21 Lib.Math.min.name ∈ sv_tbl := sv_in 352 (by decide +kernel) (by decide +kernel)
set_option maxRecDepth 20000 in
theorem lk_X0_146 : sv_LV RX0 146 yX2_value := ⟨sv_in 355 (by decide +kernel) (by decide +kernel), sv_in 356 (by decide +kernel) (by decide +kernel), sv_in 357 (by decide +kernel) (by decide +kernel)⟩
set_option maxRecDepth 20000 in
theorem lk_X2_31 : sv_LSN RX2 31 yX6_isWithin RX6 := ⟨by decide +kernel, sv_in 303 (by decide +kernel) (by decide +kernel)⟩
set_option maxRecDepth 20000 in
theorem lk_X2_38 : sv_LS RX2 38 yX2_leaf := ⟨sv_in 360 (by decide +kernel) (by decide +kernel), sv_in 361 (by decide +kernel) (by decide +kernel)⟩
set_option maxRecDepth 20000 in
theorem lk_X2_42 : sv_LS RX2 42 yX2_truth := ⟨sv_in 363 (by decide +kernel) (by decide +kernel), sv_in 364 (by decide +kernel) (by decide +kernel)⟩
set_option maxRecDepth 20000 in
theorem lk_X2_46 : sv_LS RX2 46 yX2_joined := ⟨sv_in 366 (by decide +kernel) (by decide +kernel), sv_in 367 (by decide +kernel) (by decide +kernel)⟩
set_option maxRecDepth 20000 in
theorem lk_X0_150 : sv_LSN RX0 150 yX6_held RX6 := ⟨by decide +kernel, sv_in 370 (by decide +kernel) (by decide +kernel)⟩
set_option maxRecDepth 20000 in
theorem lk_X6_151 : Cond.methodLink RX6 151 Lib.Math.min.name ∈ sv_tbl := sv_in 372 (by decide +kernel) (by decide +kernel)
set_option maxRecDepth 20000 in
theorem lk_X6_315 : Cond.methodLink RX6 315 Lib.Math.max.name ∈ sv_tbl := sv_in 373 (by decide +kernel) (by decide +kernel)
set_option maxRecDepth 20000 in
theorem lk_X6_116 : sv_LS RX6 116 yX6_weight := ⟨sv_in 376 (by decide +kernel) (by decide +kernel), sv_in 377 (by decide +kernel) (by decide +kernel)⟩
set_option maxRecDepth 20000 in
theorem lk_X6_120 : sv_LS RX6 120 yX6_worth := ⟨sv_in 379 (by decide +kernel) (by decide +kernel), sv_in 380 (by decide +kernel) (by decide +kernel)⟩
set_option maxRecDepth 20000 in
theorem lk_L_23 : sv_LV RL 23 yX6_as := ⟨sv_in 382 (by decide +kernel) (by decide +kernel), sv_in 383 (by decide +kernel) (by decide +kernel), sv_in 384 (by decide +kernel) (by decide +kernel)⟩
set_option maxRecDepth 20000 in
theorem lk_X6_124 : sv_LS RX6 124 yX6_isOfKind := ⟨sv_in 386 (by decide +kernel) (by decide +kernel), sv_in 387 (by decide +kernel) (by decide +kernel)⟩
set_option maxRecDepth 20000 in
theorem lk_L_27 : sv_LV RL 27 yX6_turns := ⟨sv_in 392 (by decide +kernel) (by decide +kernel), sv_in 393 (by decide +kernel) (by decide +kernel), sv_in 394 (by decide +kernel) (by decide +kernel)⟩
set_option maxRecDepth 20000 in
theorem lk_X6_129 : sv_LV RX6 129 yX0_tally := ⟨sv_in 396 (by decide +kernel) (by decide +kernel), sv_in 397 (by decide +kernel) (by decide +kernel), sv_in 398 (by decide +kernel) (by decide +kernel)⟩
set_option maxRecDepth 20000 in
theorem lk_X0_86 : sv_LS RX0 86 yJ7_fill_53178 := ⟨sv_in 400 (by decide +kernel) (by decide +kernel), sv_in 401 (by decide +kernel) (by decide +kernel)⟩
set_option maxRecDepth 20000 in
theorem lk_X0_121 : sv_LSN RX0 121 yX6_weight RX6 := ⟨by decide +kernel, sv_in 377 (by decide +kernel) (by decide +kernel)⟩
set_option maxRecDepth 20000 in
theorem lk_L_31 : sv_LV RL 31 yX6_set := ⟨sv_in 404 (by decide +kernel) (by decide +kernel), sv_in 405 (by decide +kernel) (by decide +kernel), sv_in 406 (by decide +kernel) (by decide +kernel)⟩
set_option maxRecDepth 20000 in
theorem lk_X6_132 : sv_LS RX6 132 yX6_put := ⟨sv_in 408 (by decide +kernel) (by decide +kernel), sv_in 409 (by decide +kernel) (by decide +kernel)⟩
set_option maxRecDepth 20000 in
theorem lk_L_36 : sv_LV RL 36 yX6_rule := ⟨sv_in 411 (by decide +kernel) (by decide +kernel), sv_in 412 (by decide +kernel) (by decide +kernel), sv_in 413 (by decide +kernel) (by decide +kernel)⟩
set_option maxRecDepth 20000 in
theorem lk_L_40 : sv_LV RL 40 yX6_again := ⟨sv_in 415 (by decide +kernel) (by decide +kernel), sv_in 416 (by decide +kernel) (by decide +kernel), sv_in 417 (by decide +kernel) (by decide +kernel)⟩
set_option maxRecDepth 20000 in
theorem lk_X6_148 : sv_LV RX6 148 yX0_startOver := ⟨sv_in 419 (by decide +kernel) (by decide +kernel), sv_in 420 (by decide +kernel) (by decide +kernel), sv_in 421 (by decide +kernel) (by decide +kernel)⟩
set_option maxRecDepth 20000 in
theorem lk_L_45 : sv_LV RL 45 yX6_deal := ⟨sv_in 423 (by decide +kernel) (by decide +kernel), sv_in 424 (by decide +kernel) (by decide +kernel), sv_in 425 (by decide +kernel) (by decide +kernel)⟩
set_option maxRecDepth 20000 in
theorem lk_X6_156 : sv_LV RX6 156 yX0_enterDrawn := ⟨sv_in 427 (by decide +kernel) (by decide +kernel), sv_in 428 (by decide +kernel) (by decide +kernel), sv_in 429 (by decide +kernel) (by decide +kernel)⟩
set_option maxRecDepth 20000 in
theorem lk_X0_77 : sv_LV RX0 77 yX0_draw := ⟨sv_in 431 (by decide +kernel) (by decide +kernel), sv_in 432 (by decide +kernel) (by decide +kernel), sv_in 433 (by decide +kernel) (by decide +kernel)⟩
set_option maxRecDepth 20000 in
theorem lk_X0_81 : sv_LV RX0 81 yX0_enter := ⟨sv_in 436 (by decide +kernel) (by decide +kernel), sv_in 308 (by decide +kernel) (by decide +kernel), sv_in 309 (by decide +kernel) (by decide +kernel)⟩
set_option maxRecDepth 20000 in
theorem lk_L_50 : sv_LV RL 50 yX6_seed := ⟨sv_in 437 (by decide +kernel) (by decide +kernel), sv_in 438 (by decide +kernel) (by decide +kernel), sv_in 439 (by decide +kernel) (by decide +kernel)⟩
set_option maxRecDepth 20000 in
theorem lk_L_54 : sv_LV RL 54 yX6_rounds := ⟨sv_in 441 (by decide +kernel) (by decide +kernel), sv_in 442 (by decide +kernel) (by decide +kernel), sv_in 443 (by decide +kernel) (by decide +kernel)⟩
set_option maxRecDepth 20000 in
theorem lk_X6_165 : sv_LV RX6 165 yX0_go := ⟨sv_in 445 (by decide +kernel) (by decide +kernel), sv_in 446 (by decide +kernel) (by decide +kernel), sv_in 447 (by decide +kernel) (by decide +kernel)⟩
set_option maxRecDepth 20000 in
theorem lk_X0_92 : sv_LV RX0 92 yX0_round := ⟨sv_in 449 (by decide +kernel) (by decide +kernel), sv_in 450 (by decide +kernel) (by decide +kernel), sv_in 451 (by decide +kernel) (by decide +kernel)⟩
set_option maxRecDepth 20000 in
theorem lk_X0_95 : sv_LV RX0 95 yX0_runners := ⟨sv_in 453 (by decide +kernel) (by decide +kernel), sv_in 320 (by decide +kernel) (by decide +kernel), sv_in 321 (by decide +kernel) (by decide +kernel)⟩
set_option maxRecDepth 20000 in
theorem lk_X0_98 : sv_LV RX0 98 yX0_leader := ⟨sv_in 454 (by decide +kernel) (by decide +kernel), sv_in 329 (by decide +kernel) (by decide +kernel), sv_in 330 (by decide +kernel) (by decide +kernel)⟩
set_option maxRecDepth 20000 in
theorem lk_X0_101 : sv_LV RX0 101 yX0_choice := ⟨sv_in 455 (by decide +kernel) (by decide +kernel), sv_in 333 (by decide +kernel) (by decide +kernel), sv_in 334 (by decide +kernel) (by decide +kernel)⟩
set_option maxRecDepth 20000 in
theorem lk_X0_105 : sv_LV RX0 105 yX0_tally := ⟨sv_in 456 (by decide +kernel) (by decide +kernel), sv_in 397 (by decide +kernel) (by decide +kernel), sv_in 398 (by decide +kernel) (by decide +kernel)⟩
set_option maxRecDepth 20000 in
theorem lk_X0_108 : sv_LV RX0 108 yX0_elected := ⟨sv_in 457 (by decide +kernel) (by decide +kernel), sv_in 458 (by decide +kernel) (by decide +kernel), sv_in 459 (by decide +kernel) (by decide +kernel)⟩
set_option maxRecDepth 20000 in
theorem lk_X0_125 : sv_LV RX0 125 yX0_wanted := ⟨sv_in 461 (by decide +kernel) (by decide +kernel), sv_in 462 (by decide +kernel) (by decide +kernel), sv_in 463 (by decide +kernel) (by decide +kernel)⟩
set_option maxRecDepth 20000 in
theorem lk_X0_111 : sv_LV RX0 111 yX0_smokeNow := ⟨sv_in 465 (by decide +kernel) (by decide +kernel), sv_in 466 (by decide +kernel) (by decide +kernel), sv_in 467 (by decide +kernel) (by decide +kernel)⟩
set_option maxRecDepth 20000 in
theorem lk_X0_114 : sv_LV RX0 114 yX0_wetPapers := ⟨sv_in 469 (by decide +kernel) (by decide +kernel), sv_in 470 (by decide +kernel) (by decide +kernel), sv_in 471 (by decide +kernel) (by decide +kernel)⟩
set_option maxRecDepth 20000 in
theorem lk_L_58 : sv_LV RL 58 yX6_conclave := ⟨sv_in 473 (by decide +kernel) (by decide +kernel), sv_in 474 (by decide +kernel) (by decide +kernel), sv_in 475 (by decide +kernel) (by decide +kernel)⟩
set_option maxRecDepth 20000 in
theorem lk_X6_172 : sv_LV RX6 172 yX0_wanted := ⟨sv_in 477 (by decide +kernel) (by decide +kernel), sv_in 462 (by decide +kernel) (by decide +kernel), sv_in 463 (by decide +kernel) (by decide +kernel)⟩
set_option maxRecDepth 20000 in
theorem lk_X6_181 : sv_LV RX6 181 yX0_mostVotes := ⟨sv_in 478 (by decide +kernel) (by decide +kernel), sv_in 479 (by decide +kernel) (by decide +kernel), sv_in 480 (by decide +kernel) (by decide +kernel)⟩
set_option maxRecDepth 20000 in
theorem lk_L_62 : sv_LV RL 62 yX6_butOne := ⟨sv_in 483 (by decide +kernel) (by decide +kernel), sv_in 484 (by decide +kernel) (by decide +kernel), sv_in 485 (by decide +kernel) (by decide +kernel)⟩
set_option maxRecDepth 20000 in
theorem lk_L_66 : sv_LV RL 66 yX6_decides := ⟨sv_in 487 (by decide +kernel) (by decide +kernel), sv_in 488 (by decide +kernel) (by decide +kernel), sv_in 489 (by decide +kernel) (by decide +kernel)⟩
set_option maxRecDepth 20000 in
theorem lk_L_70 : sv_LV RL 70 yX6_splits := ⟨sv_in 491 (by decide +kernel) (by decide +kernel), sv_in 492 (by decide +kernel) (by decide +kernel), sv_in 493 (by decide +kernel) (by decide +kernel)⟩
set_option maxRecDepth 20000 in
theorem lk_X6_185 : sv_LS RX6 185 yJ7_fill_53178 := ⟨sv_in 495 (by decide +kernel) (by decide +kernel), sv_in 401 (by decide +kernel) (by decide +kernel)⟩
set_option maxRecDepth 20000 in
theorem lk_X6_191 : sv_LV RX6 191 yX6_waysWithOneMore := ⟨sv_in 496 (by decide +kernel) (by decide +kernel), sv_in 498 (by decide +kernel) (by decide +kernel), sv_in 0 (by decide +kernel) (by decide +kernel)⟩
set_option maxRecDepth 20000 in
theorem lk_L_74 : sv_LV RL 74 yX6_behind := ⟨sv_in 500 (by decide +kernel) (by decide +kernel), sv_in 501 (by decide +kernel) (by decide +kernel), sv_in 502 (by decide +kernel) (by decide +kernel)⟩
set_option maxRecDepth 20000 in
theorem lk_X6_194 : sv_LV RX6 194 yX0_become := ⟨sv_in 504 (by decide +kernel) (by decide +kernel), sv_in 505 (by decide +kernel) (by decide +kernel), sv_in 506 (by decide +kernel) (by decide +kernel)⟩
set_option maxRecDepth 20000 in
theorem lk_X0_71 : Cond.methodLink RX0 71 arraycopyName ∈ sv_tbl := sv_in 508 (by decide +kernel) (by decide +kernel)
set_option maxRecDepth 20000 in
theorem lk_L_78 : sv_LV RL 78 yX6_ends := ⟨sv_in 511 (by decide +kernel) (by decide +kernel), sv_in 512 (by decide +kernel) (by decide +kernel), sv_in 513 (by decide +kernel) (by decide +kernel)⟩
set_option maxRecDepth 20000 in
theorem lk_X6_198 : sv_LV RX6 198 yX0_round := ⟨sv_in 515 (by decide +kernel) (by decide +kernel), sv_in 450 (by decide +kernel) (by decide +kernel), sv_in 451 (by decide +kernel) (by decide +kernel)⟩
set_option maxRecDepth 20000 in
theorem lk_L_82 : sv_LV RL 82 yX6_won := ⟨sv_in 516 (by decide +kernel) (by decide +kernel), sv_in 517 (by decide +kernel) (by decide +kernel), sv_in 518 (by decide +kernel) (by decide +kernel)⟩
set_option maxRecDepth 20000 in
theorem lk_L_86 : sv_LV RL 86 yX6_party := ⟨sv_in 520 (by decide +kernel) (by decide +kernel), sv_in 521 (by decide +kernel) (by decide +kernel), sv_in 522 (by decide +kernel) (by decide +kernel)⟩
set_option maxRecDepth 20000 in
theorem lk_X6_201 : sv_LV RX6 201 yX0_convince := ⟨sv_in 524 (by decide +kernel) (by decide +kernel), sv_in 525 (by decide +kernel) (by decide +kernel), sv_in 526 (by decide +kernel) (by decide +kernel)⟩
set_option maxRecDepth 20000 in
theorem lk_L_90 : sv_LV RL 90 yX6_smokes := ⟨sv_in 528 (by decide +kernel) (by decide +kernel), sv_in 529 (by decide +kernel) (by decide +kernel), sv_in 530 (by decide +kernel) (by decide +kernel)⟩
set_option maxRecDepth 20000 in
theorem lk_L_94 : sv_LV RL 94 yX6_fits := ⟨sv_in 532 (by decide +kernel) (by decide +kernel), sv_in 533 (by decide +kernel) (by decide +kernel), sv_in 534 (by decide +kernel) (by decide +kernel)⟩
set_option maxRecDepth 20000 in
theorem lk_X6_204 : sv_LS RX6 204 yX6_isSheet := ⟨sv_in 536 (by decide +kernel) (by decide +kernel), sv_in 537 (by decide +kernel) (by decide +kernel)⟩
set_option maxRecDepth 20000 in
theorem lk_X6_207 : sv_LV RX6 207 yX4_isMissing := ⟨sv_in 539 (by decide +kernel) (by decide +kernel), sv_in 540 (by decide +kernel) (by decide +kernel), sv_in 541 (by decide +kernel) (by decide +kernel)⟩
set_option maxRecDepth 20000 in
theorem lk_X6_212 : sv_LV RX6 212 yX6_differenceWith := ⟨sv_in 544 (by decide +kernel) (by decide +kernel), sv_in 546 (by decide +kernel) (by decide +kernel), sv_in 1 (by decide +kernel) (by decide +kernel)⟩
set_option maxRecDepth 20000 in
theorem lk_X6_271 : sv_LV RX6 271 yX4_isNumber := ⟨sv_in 548 (by decide +kernel) (by decide +kernel), sv_in 549 (by decide +kernel) (by decide +kernel), sv_in 550 (by decide +kernel) (by decide +kernel)⟩
set_option maxRecDepth 20000 in
theorem lk_X4_22 : sv_LV RX4 22 yX4_hasPlace := ⟨sv_in 552 (by decide +kernel) (by decide +kernel), sv_in 553 (by decide +kernel) (by decide +kernel), sv_in 554 (by decide +kernel) (by decide +kernel)⟩
set_option maxRecDepth 20000 in
theorem lk_X6_312 : Cond.methodLink RX6 312 Lib.Math.abs.name ∈ sv_tbl := sv_in 557 (by decide +kernel) (by decide +kernel)
set_option maxRecDepth 20000 in
theorem lk_L_98 : sv_LV RL 98 yX6_fee := ⟨sv_in 560 (by decide +kernel) (by decide +kernel), sv_in 561 (by decide +kernel) (by decide +kernel), sv_in 562 (by decide +kernel) (by decide +kernel)⟩
set_option maxRecDepth 20000 in
theorem lk_X6_219 : sv_LV RX6 219 yX2_latest := ⟨sv_in 564 (by decide +kernel) (by decide +kernel), sv_in 349 (by decide +kernel) (by decide +kernel), sv_in 350 (by decide +kernel) (by decide +kernel)⟩
set_option maxRecDepth 20000 in
theorem lk_X6_222 : sv_LV RX6 222 yX2_value := ⟨sv_in 565 (by decide +kernel) (by decide +kernel), sv_in 356 (by decide +kernel) (by decide +kernel), sv_in 357 (by decide +kernel) (by decide +kernel)⟩
set_option maxRecDepth 20000 in
theorem lk_L_102 : sv_LV RL 102 yX6_fine := ⟨sv_in 566 (by decide +kernel) (by decide +kernel), sv_in 567 (by decide +kernel) (by decide +kernel), sv_in 568 (by decide +kernel) (by decide +kernel)⟩
set_option maxRecDepth 20000 in
theorem lk_L_106 : sv_LV RL 106 yX6_feed := ⟨sv_in 570 (by decide +kernel) (by decide +kernel), sv_in 571 (by decide +kernel) (by decide +kernel), sv_in 572 (by decide +kernel) (by decide +kernel)⟩
set_option maxRecDepth 20000 in
theorem lk_X6_229 : sv_LV RX6 229 yX3_addFour := ⟨sv_in 574 (by decide +kernel) (by decide +kernel), sv_in 575 (by decide +kernel) (by decide +kernel), sv_in 576 (by decide +kernel) (by decide +kernel)⟩
set_option maxRecDepth 20000 in
theorem lk_L_110 : sv_LV RL 110 yX6_trim := ⟨sv_in 578 (by decide +kernel) (by decide +kernel), sv_in 579 (by decide +kernel) (by decide +kernel), sv_in 580 (by decide +kernel) (by decide +kernel)⟩
set_option maxRecDepth 20000 in
theorem lk_L_114 : sv_LV RL 114 yX6_text := ⟨sv_in 582 (by decide +kernel) (by decide +kernel), sv_in 583 (by decide +kernel) (by decide +kernel), sv_in 584 (by decide +kernel) (by decide +kernel)⟩
set_option maxRecDepth 20000 in
theorem lk_X6_232 : sv_LV RX6 232 yX3_read := ⟨sv_in 586 (by decide +kernel) (by decide +kernel), sv_in 587 (by decide +kernel) (by decide +kernel), sv_in 588 (by decide +kernel) (by decide +kernel)⟩
set_option maxRecDepth 20000 in
theorem lk_X3_43 : sv_LV RX3 43 yX3_next := ⟨sv_in 590 (by decide +kernel) (by decide +kernel), sv_in 592 (by decide +kernel) (by decide +kernel), sv_in 2 (by decide +kernel) (by decide +kernel)⟩
set_option maxRecDepth 20000 in
theorem lk_X3_65 : sv_LS RX3 65 yX3_sortOf := ⟨sv_in 594 (by decide +kernel) (by decide +kernel), sv_in 595 (by decide +kernel) (by decide +kernel)⟩
set_option maxRecDepth 20000 in
theorem lk_X3_69 : sv_LV RX3 69 yX3_endOfWord := ⟨sv_in 597 (by decide +kernel) (by decide +kernel), sv_in 599 (by decide +kernel) (by decide +kernel), sv_in 3 (by decide +kernel) (by decide +kernel)⟩
set_option maxRecDepth 20000 in
theorem lk_X3_73 : sv_LV RX3 73 yX3_readValue := ⟨sv_in 601 (by decide +kernel) (by decide +kernel), sv_in 603 (by decide +kernel) (by decide +kernel), sv_in 4 (by decide +kernel) (by decide +kernel)⟩
set_option maxRecDepth 20000 in
theorem lk_X3_46 : sv_LV RX3 46 yX3_readKey := ⟨sv_in 605 (by decide +kernel) (by decide +kernel), sv_in 607 (by decide +kernel) (by decide +kernel), sv_in 5 (by decide +kernel) (by decide +kernel)⟩
set_option maxRecDepth 20000 in
theorem lk_X3_76 : sv_LS RX3 76 yX3_nameOfKey := ⟨sv_in 609 (by decide +kernel) (by decide +kernel), sv_in 610 (by decide +kernel) (by decide +kernel)⟩
set_option maxRecDepth 20000 in
theorem lk_X3_80 : sv_LV RX3 80 yX3_isWord := ⟨sv_in 615 (by decide +kernel) (by decide +kernel), sv_in 617 (by decide +kernel) (by decide +kernel), sv_in 6 (by decide +kernel) (by decide +kernel)⟩
set_option maxRecDepth 20000 in
theorem lk_X3_84 : sv_LV RX3 84 yJ0_length_8abf5 := ⟨sv_in 619 (by decide +kernel) (by decide +kernel), sv_in 620 (by decide +kernel) (by decide +kernel), sv_in 621 (by decide +kernel) (by decide +kernel)⟩
set_option maxRecDepth 20000 in
theorem lk_J0_335 : sv_LV RJ0 335 yJ0_coder_7d493 := ⟨sv_in 623 (by decide +kernel) (by decide +kernel), sv_in 624 (by decide +kernel) (by decide +kernel), sv_in 625 (by decide +kernel) (by decide +kernel)⟩
set_option maxRecDepth 20000 in
theorem lk_X3_88 : sv_LV RX3 88 yJ0_charAt_5068e := ⟨sv_in 629 (by decide +kernel) (by decide +kernel), sv_in 630 (by decide +kernel) (by decide +kernel), sv_in 631 (by decide +kernel) (by decide +kernel)⟩
set_option maxRecDepth 20000 in
theorem lk_J0_492 : sv_LV RJ0 492 yJ0_isLatin1_aae02 := ⟨sv_in 633 (by decide +kernel) (by decide +kernel), sv_in 634 (by decide +kernel) (by decide +kernel), sv_in 635 (by decide +kernel) (by decide +kernel)⟩
set_option maxRecDepth 20000 in
theorem lk_J0_495 : sv_LS RJ0 495 yJ1_charAt_3b067 := ⟨sv_in 637 (by decide +kernel) (by decide +kernel), sv_in 638 (by decide +kernel) (by decide +kernel)⟩
set_option maxRecDepth 20000 in
theorem lk_J1_9 : sv_LS RJ1 9 yJ0_checkIndex_df160 := ⟨sv_in 640 (by decide +kernel) (by decide +kernel), sv_in 641 (by decide +kernel) (by decide +kernel)⟩
set_option maxRecDepth 20000 in
theorem lk_J0_1059 : sv_LS RJ0 1059 yJ3_checkIndex_8e157 := ⟨sv_in 645 (by decide +kernel) (by decide +kernel), sv_in 646 (by decide +kernel) (by decide +kernel)⟩
set_option maxRecDepth 20000 in
theorem lk_J0_498 : sv_LS RJ0 498 yJ2_charAt_3b067 := ⟨sv_in 648 (by decide +kernel) (by decide +kernel), sv_in 649 (by decide +kernel) (by decide +kernel)⟩
set_option maxRecDepth 20000 in
theorem lk_J2_67 : sv_LS RJ2 67 yJ2_checkIndex_2214a := ⟨sv_in 651 (by decide +kernel) (by decide +kernel), sv_in 652 (by decide +kernel) (by decide +kernel)⟩
set_option maxRecDepth 20000 in
theorem lk_J2_48 : sv_LS RJ2 48 yJ2_length_9d52b := ⟨sv_in 654 (by decide +kernel) (by decide +kernel), sv_in 655 (by decide +kernel) (by decide +kernel)⟩
set_option maxRecDepth 20000 in
theorem lk_J2_414 : sv_LS RJ2 414 yJ0_checkIndex_df160 := ⟨sv_in 657 (by decide +kernel) (by decide +kernel), sv_in 641 (by decide +kernel) (by decide +kernel)⟩
set_option maxRecDepth 20000 in
theorem lk_J2_71 : sv_LS RJ2 71 yJ2_getChar_3b067 := ⟨sv_in 658 (by decide +kernel) (by decide +kernel), sv_in 659 (by decide +kernel) (by decide +kernel)⟩
set_option maxRecDepth 20000 in
theorem lk_X3_50 : sv_LV RX3 50 yX3_readChain := ⟨sv_in 667 (by decide +kernel) (by decide +kernel), sv_in 669 (by decide +kernel) (by decide +kernel), sv_in 7 (by decide +kernel) (by decide +kernel)⟩
set_option maxRecDepth 20000 in
theorem lk_X3_114 : sv_LV RX3 114 yX3_readPiece := ⟨sv_in 671 (by decide +kernel) (by decide +kernel), sv_in 673 (by decide +kernel) (by decide +kernel), sv_in 8 (by decide +kernel) (by decide +kernel)⟩
set_option maxRecDepth 20000 in
theorem lk_X3_131 : sv_LV RX3 131 yX3_addLeaf := ⟨sv_in 675 (by decide +kernel) (by decide +kernel), sv_in 677 (by decide +kernel) (by decide +kernel), sv_in 9 (by decide +kernel) (by decide +kernel)⟩
set_option maxRecDepth 20000 in
theorem lk_X3_124 : sv_LV RX3 124 yX3_add := ⟨sv_in 679 (by decide +kernel) (by decide +kernel), sv_in 681 (by decide +kernel) (by decide +kernel), sv_in 10 (by decide +kernel) (by decide +kernel)⟩
set_option maxRecDepth 20000 in
theorem lk_X3_134 : sv_LS RX3 134 yX3_namesOfKey := ⟨sv_in 683 (by decide +kernel) (by decide +kernel), sv_in 684 (by decide +kernel) (by decide +kernel)⟩
set_option maxRecDepth 20000 in
theorem lk_X3_128 : sv_LV RX3 128 yJ0_indexOf_0f7a4 := ⟨sv_in 689 (by decide +kernel) (by decide +kernel), sv_in 690 (by decide +kernel) (by decide +kernel), sv_in 691 (by decide +kernel) (by decide +kernel)⟩
set_option maxRecDepth 20000 in
theorem lk_J0_633 : sv_LV RJ0 633 yJ0_indexOf_7cf53 := ⟨sv_in 693 (by decide +kernel) (by decide +kernel), sv_in 694 (by decide +kernel) (by decide +kernel), sv_in 695 (by decide +kernel) (by decide +kernel)⟩
set_option maxRecDepth 20000 in
theorem lk_J0_505 : sv_LV RJ0 505 yJ0_length_8abf5 := ⟨sv_in 697 (by decide +kernel) (by decide +kernel), sv_in 620 (by decide +kernel) (by decide +kernel), sv_in 621 (by decide +kernel) (by decide +kernel)⟩
set_option maxRecDepth 20000 in
theorem lk_J0_637 : sv_LS RJ0 637 yJ1_indexOf_4cfef := ⟨sv_in 698 (by decide +kernel) (by decide +kernel), sv_in 699 (by decide +kernel) (by decide +kernel)⟩
set_option maxRecDepth 20000 in
theorem lk_J1_88 : sv_LS RJ1 88 yJ1_canEncode_9a6ad := ⟨sv_in 701 (by decide +kernel) (by decide +kernel), sv_in 702 (by decide +kernel) (by decide +kernel)⟩
set_option maxRecDepth 20000 in
theorem lk_J1_92 : Cond.methodLink RJ1 92 Lib.Math.max.name ∈ sv_tbl := sv_in 704 (by decide +kernel) (by decide +kernel)
set_option maxRecDepth 20000 in
theorem lk_J1_38 : Cond.methodLink RJ1 38 Lib.Math.min.name ∈ sv_tbl := sv_in 705 (by decide +kernel) (by decide +kernel)
set_option maxRecDepth 20000 in
theorem lk_J1_95 : sv_LS RJ1 95 yJ1_indexOfChar_4cfef := ⟨sv_in 706 (by decide +kernel) (by decide +kernel), sv_in 707 (by decide +kernel) (by decide +kernel)⟩
set_option maxRecDepth 20000 in
theorem lk_J0_640 : sv_LS RJ0 640 yJ2_indexOf_4cfef := ⟨sv_in 709 (by decide +kernel) (by decide +kernel), sv_in 710 (by decide +kernel) (by decide +kernel)⟩
set_option maxRecDepth 20000 in
theorem lk_J2_224 : Cond.methodLink RJ2 224 Lib.Math.max.name ∈ sv_tbl := sv_in 712 (by decide +kernel) (by decide +kernel)
set_option maxRecDepth 20000 in
theorem lk_J2_183 : Cond.methodLink RJ2 183 Lib.Math.min.name ∈ sv_tbl := sv_in 713 (by decide +kernel) (by decide +kernel)
set_option maxRecDepth 20000 in
theorem lk_J2_228 : sv_LS RJ2 228 yJ2_indexOfChar_4cfef := ⟨sv_in 715 (by decide +kernel) (by decide +kernel), sv_in 716 (by decide +kernel) (by decide +kernel)⟩
set_option maxRecDepth 20000 in
theorem lk_J2_96 : sv_LS RJ2 96 yJ2_checkBoundsBeginEnd_d044e := ⟨sv_in 718 (by decide +kernel) (by decide +kernel), sv_in 719 (by decide +kernel) (by decide +kernel)⟩
set_option maxRecDepth 20000 in
theorem lk_J2_241 : sv_LS RJ2 241 yJ0_checkBoundsBeginEnd_23922 := ⟨sv_in 721 (by decide +kernel) (by decide +kernel), sv_in 722 (by decide +kernel) (by decide +kernel)⟩
set_option maxRecDepth 20000 in
theorem lk_J0_1062 : sv_LS RJ0 1062 yJ3_checkFromToIndex_8c36e := ⟨sv_in 724 (by decide +kernel) (by decide +kernel), sv_in 725 (by decide +kernel) (by decide +kernel)⟩
set_option maxRecDepth 20000 in
theorem lk_J2_244 : sv_LS RJ2 244 yJ2_indexOfCharUnsafe_4cfef := ⟨sv_in 727 (by decide +kernel) (by decide +kernel), sv_in 728 (by decide +kernel) (by decide +kernel)⟩
set_option maxRecDepth 20000 in
theorem lk_J2_232 : sv_LS RJ2 232 yJ2_indexOfSupplementary_4cfef := ⟨sv_in 730 (by decide +kernel) (by decide +kernel), sv_in 731 (by decide +kernel) (by decide +kernel)⟩
set_option maxRecDepth 20000 in
theorem lk_J2_164 : sv_LS RJ2 164 yJ11_isValidCodePoint_9a6ad := ⟨sv_in 733 (by decide +kernel) (by decide +kernel), sv_in 734 (by decide +kernel) (by decide +kernel)⟩
set_option maxRecDepth 20000 in
theorem lk_J2_157 : sv_LS RJ2 157 yJ11_highSurrogate_5068e := ⟨sv_in 736 (by decide +kernel) (by decide +kernel), sv_in 737 (by decide +kernel) (by decide +kernel)⟩
set_option maxRecDepth 20000 in
theorem lk_J2_161 : sv_LS RJ2 161 yJ11_lowSurrogate_5068e := ⟨sv_in 740 (by decide +kernel) (by decide +kernel), sv_in 741 (by decide +kernel) (by decide +kernel)⟩
set_option maxRecDepth 20000 in
theorem lk_X3_121 : sv_LV RX3 121 yX3_isOneOf := ⟨sv_in 745 (by decide +kernel) (by decide +kernel), sv_in 747 (by decide +kernel) (by decide +kernel), sv_in 11 (by decide +kernel) (by decide +kernel)⟩
set_option maxRecDepth 20000 in
theorem lk_X3_141 : sv_LV RX3 141 yX3_readClosing := ⟨sv_in 750 (by decide +kernel) (by decide +kernel), sv_in 752 (by decide +kernel) (by decide +kernel), sv_in 12 (by decide +kernel) (by decide +kernel)⟩
set_option maxRecDepth 20000 in
theorem lk_X3_118 : sv_LS RX3 118 yX3_signsOf := ⟨sv_in 755 (by decide +kernel) (by decide +kernel), sv_in 756 (by decide +kernel) (by decide +kernel)⟩
set_option maxRecDepth 20000 in
theorem lk_X6_239 : sv_LV RX6 239 yX3_law := ⟨sv_in 763 (by decide +kernel) (by decide +kernel), sv_in 764 (by decide +kernel) (by decide +kernel), sv_in 765 (by decide +kernel) (by decide +kernel)⟩
set_option maxRecDepth 20000 in
theorem lk_X3_56 : sv_LS RX3 56 yJ7_copyOf_59c91 := ⟨sv_in 769 (by decide +kernel) (by decide +kernel), sv_in 770 (by decide +kernel) (by decide +kernel)⟩
set_option maxRecDepth 20000 in
theorem lk_J7_304 : Cond.methodLink RJ7 304 Lib.Math.min.name ∈ sv_tbl := sv_in 779 (by decide +kernel) (by decide +kernel)
set_option maxRecDepth 20000 in
theorem lk_J7_150 : Cond.methodLink RJ7 150 arraycopyName ∈ sv_tbl := sv_in 780 (by decide +kernel) (by decide +kernel)
set_option maxRecDepth 20000 in
theorem lk_X3_62 : sv_LI RX3 62 yX1_init := ⟨sv_in 781 (by decide +kernel) (by decide +kernel), sv_in 782 (by decide +kernel) (by decide +kernel), rfl⟩
set_option maxRecDepth 20000 in
theorem lk_X1_1 : Cond.methodLink RX1 1 Lib.objectInit ∈ sv_tbl := sv_in 784 (by decide +kernel) (by decide +kernel)
set_option maxRecDepth 20000 in
theorem lk_L_118 : sv_LV RL 118 yX6_textTold := ⟨sv_in 800 (by decide +kernel) (by decide +kernel), sv_in 801 (by decide +kernel) (by decide +kernel), sv_in 802 (by decide +kernel) (by decide +kernel)⟩
set_option maxRecDepth 20000 in
theorem lk_L_122 : sv_LV RL 122 yX6_why := ⟨sv_in 804 (by decide +kernel) (by decide +kernel), sv_in 805 (by decide +kernel) (by decide +kernel), sv_in 806 (by decide +kernel) (by decide +kernel)⟩
set_option maxRecDepth 20000 in
theorem lk_L_126 : sv_LV RL 126 yX6_sheet := ⟨sv_in 808 (by decide +kernel) (by decide +kernel), sv_in 809 (by decide +kernel) (by decide +kernel), sv_in 810 (by decide +kernel) (by decide +kernel)⟩
set_option maxRecDepth 20000 in
theorem lk_X6_251 : sv_LV RX6 251 yX4_clear := ⟨sv_in 812 (by decide +kernel) (by decide +kernel), sv_in 813 (by decide +kernel) (by decide +kernel), sv_in 814 (by decide +kernel) (by decide +kernel)⟩
set_option maxRecDepth 20000 in
theorem lk_X4_27 : sv_LS RX4 27 yJ7_fill_53178 := ⟨sv_in 816 (by decide +kernel) (by decide +kernel), sv_in 401 (by decide +kernel) (by decide +kernel)⟩
set_option maxRecDepth 20000 in
theorem lk_L_130 : sv_LV RL 130 yX6_mark := ⟨sv_in 818 (by decide +kernel) (by decide +kernel), sv_in 819 (by decide +kernel) (by decide +kernel), sv_in 820 (by decide +kernel) (by decide +kernel)⟩
set_option maxRecDepth 20000 in
theorem lk_X6_256 : sv_LV RX6 256 yX4_hasPlace := ⟨sv_in 822 (by decide +kernel) (by decide +kernel), sv_in 553 (by decide +kernel) (by decide +kernel), sv_in 554 (by decide +kernel) (by decide +kernel)⟩
set_option maxRecDepth 20000 in
theorem lk_L_134 : sv_LV RL 134 yX6_pour := ⟨sv_in 826 (by decide +kernel) (by decide +kernel), sv_in 827 (by decide +kernel) (by decide +kernel), sv_in 828 (by decide +kernel) (by decide +kernel)⟩
set_option maxRecDepth 20000 in
theorem lk_X6_274 : sv_LS RX6 274 yX6_held := ⟨sv_in 830 (by decide +kernel) (by decide +kernel), sv_in 370 (by decide +kernel) (by decide +kernel)⟩
set_option maxRecDepth 20000 in
theorem lk_L_138 : sv_LV RL 138 yX6_reads := ⟨sv_in 831 (by decide +kernel) (by decide +kernel), sv_in 832 (by decide +kernel) (by decide +kernel), sv_in 833 (by decide +kernel) (by decide +kernel)⟩
set_option maxRecDepth 20000 in
theorem lk_L_142 : sv_LV RL 142 yX6_copy := ⟨sv_in 835 (by decide +kernel) (by decide +kernel), sv_in 836 (by decide +kernel) (by decide +kernel), sv_in 837 (by decide +kernel) (by decide +kernel)⟩
set_option maxRecDepth 20000 in
theorem lk_X6_277 : sv_LV RX6 277 yX4_hasStretch := ⟨sv_in 839 (by decide +kernel) (by decide +kernel), sv_in 840 (by decide +kernel) (by decide +kernel), sv_in 841 (by decide +kernel) (by decide +kernel)⟩
set_option maxRecDepth 20000 in
theorem lk_X6_280 : Cond.methodLink RX6 280 arraycopyName ∈ sv_tbl := sv_in 843 (by decide +kernel) (by decide +kernel)
set_option maxRecDepth 20000 in
theorem lk_L_147 : sv_LV RL 147 yX6_lay := ⟨sv_in 844 (by decide +kernel) (by decide +kernel), sv_in 845 (by decide +kernel) (by decide +kernel), sv_in 846 (by decide +kernel) (by decide +kernel)⟩
set_option maxRecDepth 20000 in
theorem lk_X6_286 : sv_LS RX6 286 yX6_isSlot := ⟨sv_in 848 (by decide +kernel) (by decide +kernel), sv_in 849 (by decide +kernel) (by decide +kernel)⟩
set_option maxRecDepth 20000 in
theorem lk_X6_302 : sv_LV RX6 302 yX4_become := ⟨sv_in 851 (by decide +kernel) (by decide +kernel), sv_in 852 (by decide +kernel) (by decide +kernel), sv_in 853 (by decide +kernel) (by decide +kernel)⟩
set_option maxRecDepth 20000 in
theorem lk_X4_33 : Cond.methodLink RX4 33 arraycopyName ∈ sv_tbl := sv_in 855 (by decide +kernel) (by decide +kernel)
set_option maxRecDepth 20000 in
theorem lk_L_151 : sv_LV RL 151 yX6_ask := ⟨sv_in 856 (by decide +kernel) (by decide +kernel), sv_in 857 (by decide +kernel) (by decide +kernel), sv_in 858 (by decide +kernel) (by decide +kernel)⟩
set_option maxRecDepth 20000 in
theorem lk_L_155 : sv_LV RL 155 yX6_item := ⟨sv_in 860 (by decide +kernel) (by decide +kernel), sv_in 861 (by decide +kernel) (by decide +kernel), sv_in 862 (by decide +kernel) (by decide +kernel)⟩
set_option maxRecDepth 20000 in
theorem lk_L_159 : sv_LV RL 159 yX6_rest := ⟨sv_in 864 (by decide +kernel) (by decide +kernel), sv_in 865 (by decide +kernel) (by decide +kernel), sv_in 866 (by decide +kernel) (by decide +kernel)⟩
set_option maxRecDepth 20000 in
theorem lk_L_163 : sv_LV RL 163 yX6_tell := ⟨sv_in 869 (by decide +kernel) (by decide +kernel), sv_in 870 (by decide +kernel) (by decide +kernel), sv_in 871 (by decide +kernel) (by decide +kernel)⟩
set_option maxRecDepth 20000 in
theorem lk_L_167 : sv_LV RL 167 yX6_check := ⟨sv_in 873 (by decide +kernel) (by decide +kernel), sv_in 874 (by decide +kernel) (by decide +kernel), sv_in 875 (by decide +kernel) (by decide +kernel)⟩
set_option maxRecDepth 20000 in
theorem lk_X6_309 : sv_LV RX6 309 yX6_isTold := ⟨sv_in 877 (by decide +kernel) (by decide +kernel), sv_in 879 (by decide +kernel) (by decide +kernel), sv_in 13 (by decide +kernel) (by decide +kernel)⟩
set_option maxRecDepth 20000 in
theorem lk_L_171 : sv_LV RL 171 yX6_keep := ⟨sv_in 881 (by decide +kernel) (by decide +kernel), sv_in 882 (by decide +kernel) (by decide +kernel), sv_in 883 (by decide +kernel) (by decide +kernel)⟩
set_option maxRecDepth 20000 in
theorem lk_L_175 : sv_LV RL 175 yX6_back := ⟨sv_in 885 (by decide +kernel) (by decide +kernel), sv_in 886 (by decide +kernel) (by decide +kernel), sv_in 887 (by decide +kernel) (by decide +kernel)⟩
set_option maxRecDepth 20000 in
theorem lk_L_179 : sv_LV RL 179 yX6_count := ⟨sv_in 889 (by decide +kernel) (by decide +kernel), sv_in 890 (by decide +kernel) (by decide +kernel), sv_in 891 (by decide +kernel) (by decide +kernel)⟩
set_option maxRecDepth 20000 in
theorem lk_L_12 : sv_LI RL 12 yX7_init := ⟨sv_in 895 (by decide +kernel) (by decide +kernel), sv_in 896 (by decide +kernel) (by decide +kernel), rfl⟩
set_option maxRecDepth 20000 in
theorem lk_X7_1 : Cond.methodLink RX7 1 Lib.objectInit ∈ sv_tbl := sv_in 898 (by decide +kernel) (by decide +kernel)
set_option maxRecDepth 20000 in
theorem lk_L_17 : sv_LV RL 17 yX7_voter := ⟨sv_in 1007 (by decide +kernel) (by decide +kernel), sv_in 1008 (by decide +kernel) (by decide +kernel), sv_in 1009 (by decide +kernel) (by decide +kernel)⟩
set_option maxRecDepth 20000 in
theorem lk_X7_82 : sv_LS RX7 82 yX7_in := ⟨sv_in 1011 (by decide +kernel) (by decide +kernel), sv_in 1012 (by decide +kernel) (by decide +kernel)⟩
set_option maxRecDepth 20000 in
theorem lk_X7_92 : sv_LV RX7 92 yX7_comes := ⟨sv_in 1016 (by decide +kernel) (by decide +kernel), sv_in 1018 (by decide +kernel) (by decide +kernel), sv_in 14 (by decide +kernel) (by decide +kernel)⟩
set_option maxRecDepth 20000 in
theorem lk_X7_86 : sv_LV RX7 86 yX7_put := ⟨sv_in 1020 (by decide +kernel) (by decide +kernel), sv_in 1022 (by decide +kernel) (by decide +kernel), sv_in 15 (by decide +kernel) (by decide +kernel)⟩
set_option maxRecDepth 20000 in
theorem lk_L_22 : sv_LV RL 22 yX7_told := ⟨sv_in 1024 (by decide +kernel) (by decide +kernel), sv_in 1025 (by decide +kernel) (by decide +kernel), sv_in 1026 (by decide +kernel) (by decide +kernel)⟩
set_option maxRecDepth 20000 in
theorem lk_X7_139 : sv_LV RX7 139 yX7_isVoter := ⟨sv_in 1028 (by decide +kernel) (by decide +kernel), sv_in 1030 (by decide +kernel) (by decide +kernel), sv_in 16 (by decide +kernel) (by decide +kernel)⟩
set_option maxRecDepth 20000 in
theorem lk_X7_96 : sv_LV RX7 96 yX7_of := ⟨sv_in 1032 (by decide +kernel) (by decide +kernel), sv_in 1034 (by decide +kernel) (by decide +kernel), sv_in 17 (by decide +kernel) (by decide +kernel)⟩
set_option maxRecDepth 20000 in
theorem lk_X7_104 : sv_LV RX7 104 yX7_has := ⟨sv_in 1036 (by decide +kernel) (by decide +kernel), sv_in 1038 (by decide +kernel) (by decide +kernel), sv_in 18 (by decide +kernel) (by decide +kernel)⟩
set_option maxRecDepth 20000 in
theorem lk_X7_100 : sv_LV RX7 100 yX7_weightOf := ⟨sv_in 1040 (by decide +kernel) (by decide +kernel), sv_in 1042 (by decide +kernel) (by decide +kernel), sv_in 19 (by decide +kernel) (by decide +kernel)⟩
set_option maxRecDepth 20000 in
theorem lk_X7_143 : sv_LV RX7 143 yX7_votesFor := ⟨sv_in 1044 (by decide +kernel) (by decide +kernel), sv_in 1046 (by decide +kernel) (by decide +kernel), sv_in 20 (by decide +kernel) (by decide +kernel)⟩
set_option maxRecDepth 20000 in
theorem lk_X7_130 : sv_LV RX7 130 yX7_runners := ⟨sv_in 1048 (by decide +kernel) (by decide +kernel), sv_in 1050 (by decide +kernel) (by decide +kernel), sv_in 21 (by decide +kernel) (by decide +kernel)⟩
set_option maxRecDepth 20000 in
theorem lk_X7_107 : sv_LV RX7 107 yX7_all := ⟨sv_in 1052 (by decide +kernel) (by decide +kernel), sv_in 1054 (by decide +kernel) (by decide +kernel), sv_in 22 (by decide +kernel) (by decide +kernel)⟩
set_option maxRecDepth 20000 in
theorem lk_X7_111 : sv_LV RX7 111 yX7_mostOf := ⟨sv_in 1056 (by decide +kernel) (by decide +kernel), sv_in 1058 (by decide +kernel) (by decide +kernel), sv_in 23 (by decide +kernel) (by decide +kernel)⟩
set_option maxRecDepth 20000 in
theorem lk_X7_133 : sv_LV RX7 133 yX7_loyally := ⟨sv_in 1060 (by decide +kernel) (by decide +kernel), sv_in 1062 (by decide +kernel) (by decide +kernel), sv_in 24 (by decide +kernel) (by decide +kernel)⟩
set_option maxRecDepth 20000 in
theorem lk_X7_114 : sv_LV RX7 114 yX7_ofParty := ⟨sv_in 1064 (by decide +kernel) (by decide +kernel), sv_in 1066 (by decide +kernel) (by decide +kernel), sv_in 25 (by decide +kernel) (by decide +kernel)⟩
set_option maxRecDepth 20000 in
theorem lk_X7_117 : sv_LV RX7 117 yX7_plainly := ⟨sv_in 1068 (by decide +kernel) (by decide +kernel), sv_in 1070 (by decide +kernel) (by decide +kernel), sv_in 26 (by decide +kernel) (by decide +kernel)⟩
set_option maxRecDepth 20000 in
theorem lk_X7_136 : sv_LV RX7 136 yX7_swayed := ⟨sv_in 1072 (by decide +kernel) (by decide +kernel), sv_in 1074 (by decide +kernel) (by decide +kernel), sv_in 27 (by decide +kernel) (by decide +kernel)⟩
set_option maxRecDepth 20000 in
theorem lk_X7_120 : sv_LV RX7 120 yX7_counts := ⟨sv_in 1076 (by decide +kernel) (by decide +kernel), sv_in 1078 (by decide +kernel) (by decide +kernel), sv_in 28 (by decide +kernel) (by decide +kernel)⟩
set_option maxRecDepth 20000 in
theorem lk_X7_123 : sv_LV RX7 123 yX7_worksOut := ⟨sv_in 1080 (by decide +kernel) (by decide +kernel), sv_in 1082 (by decide +kernel) (by decide +kernel), sv_in 29 (by decide +kernel) (by decide +kernel)⟩
set_option maxRecDepth 20000 in
theorem lk_X7_262 : sv_LS RX7 262 yX7_two := ⟨sv_in 1084 (by decide +kernel) (by decide +kernel), sv_in 1085 (by decide +kernel) (by decide +kernel)⟩
set_option maxRecDepth 20000 in
theorem lk_X7_126 : sv_LS RX7 126 yX7_within := ⟨sv_in 1087 (by decide +kernel) (by decide +kernel), sv_in 1088 (by decide +kernel) (by decide +kernel)⟩
set_option maxRecDepth 20000 in
theorem lk_X7_146 : sv_LV RX7 146 yX7_worthOf := ⟨sv_in 1090 (by decide +kernel) (by decide +kernel), sv_in 1092 (by decide +kernel) (by decide +kernel), sv_in 30 (by decide +kernel) (by decide +kernel)⟩
set_option maxRecDepth 20000 in
theorem lk_L_26 : sv_LV RL 26 yX7_as := ⟨sv_in 1094 (by decide +kernel) (by decide +kernel), sv_in 1095 (by decide +kernel) (by decide +kernel), sv_in 1096 (by decide +kernel) (by decide +kernel)⟩
set_option maxRecDepth 20000 in
theorem lk_X7_149 : sv_LS RX7 149 yX7_isUnder := ⟨sv_in 1098 (by decide +kernel) (by decide +kernel), sv_in 1099 (by decide +kernel) (by decide +kernel)⟩
set_option maxRecDepth 20000 in
theorem lk_L_30 : sv_LV RL 30 yX7_turns := ⟨sv_in 1102 (by decide +kernel) (by decide +kernel), sv_in 1103 (by decide +kernel) (by decide +kernel), sv_in 1104 (by decide +kernel) (by decide +kernel)⟩
set_option maxRecDepth 20000 in
theorem lk_X7_154 : sv_LV RX7 154 yX7_becomes := ⟨sv_in 1106 (by decide +kernel) (by decide +kernel), sv_in 1108 (by decide +kernel) (by decide +kernel), sv_in 31 (by decide +kernel) (by decide +kernel)⟩
set_option maxRecDepth 20000 in
theorem lk_L_35 : sv_LV RL 35 yX7_set := ⟨sv_in 1110 (by decide +kernel) (by decide +kernel), sv_in 1111 (by decide +kernel) (by decide +kernel), sv_in 1112 (by decide +kernel) (by decide +kernel)⟩
set_option maxRecDepth 20000 in
theorem lk_L_39 : sv_LV RL 39 yX7_rule := ⟨sv_in 1114 (by decide +kernel) (by decide +kernel), sv_in 1115 (by decide +kernel) (by decide +kernel), sv_in 1116 (by decide +kernel) (by decide +kernel)⟩
set_option maxRecDepth 20000 in
theorem lk_L_44 : sv_LV RL 44 yX7_again := ⟨sv_in 1118 (by decide +kernel) (by decide +kernel), sv_in 1119 (by decide +kernel) (by decide +kernel), sv_in 1120 (by decide +kernel) (by decide +kernel)⟩
set_option maxRecDepth 20000 in
theorem lk_L_49 : sv_LV RL 49 yX7_deal := ⟨sv_in 1122 (by decide +kernel) (by decide +kernel), sv_in 1123 (by decide +kernel) (by decide +kernel), sv_in 1124 (by decide +kernel) (by decide +kernel)⟩
set_option maxRecDepth 20000 in
theorem lk_X7_158 : sv_LV RX7 158 yX7_draw := ⟨sv_in 1126 (by decide +kernel) (by decide +kernel), sv_in 1128 (by decide +kernel) (by decide +kernel), sv_in 32 (by decide +kernel) (by decide +kernel)⟩
set_option maxRecDepth 20000 in
theorem lk_L_53 : sv_LV RL 53 yX7_seed := ⟨sv_in 1131 (by decide +kernel) (by decide +kernel), sv_in 1132 (by decide +kernel) (by decide +kernel), sv_in 1133 (by decide +kernel) (by decide +kernel)⟩
set_option maxRecDepth 20000 in
theorem lk_L_57 : sv_LV RL 57 yX7_rounds := ⟨sv_in 1135 (by decide +kernel) (by decide +kernel), sv_in 1136 (by decide +kernel) (by decide +kernel), sv_in 1137 (by decide +kernel) (by decide +kernel)⟩
set_option maxRecDepth 20000 in
theorem lk_X7_170 : sv_LV RX7 170 yX7_goesOn := ⟨sv_in 1139 (by decide +kernel) (by decide +kernel), sv_in 1141 (by decide +kernel) (by decide +kernel), sv_in 33 (by decide +kernel) (by decide +kernel)⟩
set_option maxRecDepth 20000 in
theorem lk_X7_167 : sv_LV RX7 167 yX7_round := ⟨sv_in 1143 (by decide +kernel) (by decide +kernel), sv_in 1145 (by decide +kernel) (by decide +kernel), sv_in 34 (by decide +kernel) (by decide +kernel)⟩
set_option maxRecDepth 20000 in
theorem lk_X7_164 : sv_LV RX7 164 yX7_votes := ⟨sv_in 1147 (by decide +kernel) (by decide +kernel), sv_in 1149 (by decide +kernel) (by decide +kernel), sv_in 35 (by decide +kernel) (by decide +kernel)⟩
set_option maxRecDepth 20000 in
theorem lk_X7_161 : sv_LV RX7 161 yX7_wanted := ⟨sv_in 1151 (by decide +kernel) (by decide +kernel), sv_in 1153 (by decide +kernel) (by decide +kernel), sv_in 36 (by decide +kernel) (by decide +kernel)⟩
set_option maxRecDepth 20000 in
theorem lk_L_61 : sv_LV RL 61 yX7_conclave := ⟨sv_in 1155 (by decide +kernel) (by decide +kernel), sv_in 1156 (by decide +kernel) (by decide +kernel), sv_in 1157 (by decide +kernel) (by decide +kernel)⟩
set_option maxRecDepth 20000 in
theorem lk_X7_174 : sv_LV RX7 174 yX7_leader := ⟨sv_in 1159 (by decide +kernel) (by decide +kernel), sv_in 1161 (by decide +kernel) (by decide +kernel), sv_in 37 (by decide +kernel) (by decide +kernel)⟩
set_option maxRecDepth 20000 in
theorem lk_X7_177 : sv_LS RX7 177 yX7_told0 := ⟨sv_in 1163 (by decide +kernel) (by decide +kernel), sv_in 1164 (by decide +kernel) (by decide +kernel)⟩
set_option maxRecDepth 20000 in
theorem lk_L_65 : sv_LV RL 65 yX7_butOne := ⟨sv_in 1167 (by decide +kernel) (by decide +kernel), sv_in 1168 (by decide +kernel) (by decide +kernel), sv_in 1169 (by decide +kernel) (by decide +kernel)⟩
set_option maxRecDepth 20000 in
theorem lk_L_69 : sv_LV RL 69 yX7_decides := ⟨sv_in 1171 (by decide +kernel) (by decide +kernel), sv_in 1172 (by decide +kernel) (by decide +kernel), sv_in 1173 (by decide +kernel) (by decide +kernel)⟩
set_option maxRecDepth 20000 in
theorem lk_L_73 : sv_LV RL 73 yX7_splits := ⟨sv_in 1175 (by decide +kernel) (by decide +kernel), sv_in 1176 (by decide +kernel) (by decide +kernel), sv_in 1177 (by decide +kernel) (by decide +kernel)⟩
set_option maxRecDepth 20000 in
theorem lk_L_77 : sv_LV RL 77 yX7_behind := ⟨sv_in 1179 (by decide +kernel) (by decide +kernel), sv_in 1180 (by decide +kernel) (by decide +kernel), sv_in 1181 (by decide +kernel) (by decide +kernel)⟩
set_option maxRecDepth 20000 in
theorem lk_X7_180 : sv_LV RX7 180 yX7_thinks := ⟨sv_in 1183 (by decide +kernel) (by decide +kernel), sv_in 1185 (by decide +kernel) (by decide +kernel), sv_in 38 (by decide +kernel) (by decide +kernel)⟩
set_option maxRecDepth 20000 in
theorem lk_X7_183 : sv_LV RX7 183 yX7_mostHad := ⟨sv_in 1187 (by decide +kernel) (by decide +kernel), sv_in 1189 (by decide +kernel) (by decide +kernel), sv_in 39 (by decide +kernel) (by decide +kernel)⟩
set_option maxRecDepth 20000 in
theorem lk_X7_186 : sv_LV RX7 186 yX7_putsBack := ⟨sv_in 1191 (by decide +kernel) (by decide +kernel), sv_in 1193 (by decide +kernel) (by decide +kernel), sv_in 40 (by decide +kernel) (by decide +kernel)⟩
set_option maxRecDepth 20000 in
theorem lk_L_81 : sv_LV RL 81 yX7_ends := ⟨sv_in 1195 (by decide +kernel) (by decide +kernel), sv_in 1196 (by decide +kernel) (by decide +kernel), sv_in 1197 (by decide +kernel) (by decide +kernel)⟩
set_option maxRecDepth 20000 in
theorem lk_L_85 : sv_LV RL 85 yX7_won := ⟨sv_in 1199 (by decide +kernel) (by decide +kernel), sv_in 1200 (by decide +kernel) (by decide +kernel), sv_in 1201 (by decide +kernel) (by decide +kernel)⟩
set_option maxRecDepth 20000 in
theorem lk_L_89 : sv_LV RL 89 yX7_party := ⟨sv_in 1203 (by decide +kernel) (by decide +kernel), sv_in 1204 (by decide +kernel) (by decide +kernel), sv_in 1205 (by decide +kernel) (by decide +kernel)⟩
set_option maxRecDepth 20000 in
theorem lk_L_93 : sv_LV RL 93 yX7_smokes := ⟨sv_in 1207 (by decide +kernel) (by decide +kernel), sv_in 1208 (by decide +kernel) (by decide +kernel), sv_in 1209 (by decide +kernel) (by decide +kernel)⟩
set_option maxRecDepth 20000 in
theorem lk_L_97 : sv_LV RL 97 yX7_fits := ⟨sv_in 1211 (by decide +kernel) (by decide +kernel), sv_in 1212 (by decide +kernel) (by decide +kernel), sv_in 1213 (by decide +kernel) (by decide +kernel)⟩
set_option maxRecDepth 20000 in
theorem lk_X7_189 : sv_LS RX7 189 yX7_isSheet := ⟨sv_in 1215 (by decide +kernel) (by decide +kernel), sv_in 1216 (by decide +kernel) (by decide +kernel)⟩
set_option maxRecDepth 20000 in
theorem lk_X7_193 : sv_LV RX7 193 yX7_offBy := ⟨sv_in 1219 (by decide +kernel) (by decide +kernel), sv_in 1221 (by decide +kernel) (by decide +kernel), sv_in 41 (by decide +kernel) (by decide +kernel)⟩
set_option maxRecDepth 20000 in
theorem lk_L_101 : sv_LV RL 101 yX7_fee := ⟨sv_in 1223 (by decide +kernel) (by decide +kernel), sv_in 1224 (by decide +kernel) (by decide +kernel), sv_in 1225 (by decide +kernel) (by decide +kernel)⟩
set_option maxRecDepth 20000 in
theorem lk_L_105 : sv_LV RL 105 yX7_fine := ⟨sv_in 1227 (by decide +kernel) (by decide +kernel), sv_in 1228 (by decide +kernel) (by decide +kernel), sv_in 1229 (by decide +kernel) (by decide +kernel)⟩
set_option maxRecDepth 20000 in
theorem lk_L_109 : sv_LV RL 109 yX7_feed := ⟨sv_in 1231 (by decide +kernel) (by decide +kernel), sv_in 1232 (by decide +kernel) (by decide +kernel), sv_in 1233 (by decide +kernel) (by decide +kernel)⟩
set_option maxRecDepth 20000 in
theorem lk_L_113 : sv_LV RL 113 yX7_trim := ⟨sv_in 1235 (by decide +kernel) (by decide +kernel), sv_in 1236 (by decide +kernel) (by decide +kernel), sv_in 1237 (by decide +kernel) (by decide +kernel)⟩
set_option maxRecDepth 20000 in
theorem lk_L_117 : sv_LV RL 117 yX7_text := ⟨sv_in 1239 (by decide +kernel) (by decide +kernel), sv_in 1240 (by decide +kernel) (by decide +kernel), sv_in 1241 (by decide +kernel) (by decide +kernel)⟩
set_option maxRecDepth 20000 in
theorem lk_X7_225 : sv_LV RX7 225 yX7_go := ⟨sv_in 1243 (by decide +kernel) (by decide +kernel), sv_in 1245 (by decide +kernel) (by decide +kernel), sv_in 42 (by decide +kernel) (by decide +kernel)⟩
set_option maxRecDepth 20000 in
theorem lk_X7_213 : sv_LV RX7 213 yX7_isLetter := ⟨sv_in 1247 (by decide +kernel) (by decide +kernel), sv_in 1249 (by decide +kernel) (by decide +kernel), sv_in 43 (by decide +kernel) (by decide +kernel)⟩
set_option maxRecDepth 20000 in
theorem lk_X7_219 : sv_LV RX7 219 yX7_isFigure := ⟨sv_in 1251 (by decide +kernel) (by decide +kernel), sv_in 1253 (by decide +kernel) (by decide +kernel), sv_in 44 (by decide +kernel) (by decide +kernel)⟩
set_option maxRecDepth 20000 in
theorem lk_X7_256 : sv_LV RX7 256 yX7_takesKey := ⟨sv_in 1255 (by decide +kernel) (by decide +kernel), sv_in 1257 (by decide +kernel) (by decide +kernel), sv_in 45 (by decide +kernel) (by decide +kernel)⟩
set_option maxRecDepth 20000 in
theorem lk_X7_259 : sv_LV RX7 259 yX7_takesE := ⟨sv_in 1259 (by decide +kernel) (by decide +kernel), sv_in 1261 (by decide +kernel) (by decide +kernel), sv_in 46 (by decide +kernel) (by decide +kernel)⟩
set_option maxRecDepth 20000 in
theorem lk_X7_246 : sv_LV RX7 246 yX7_takesPart := ⟨sv_in 1263 (by decide +kernel) (by decide +kernel), sv_in 1265 (by decide +kernel) (by decide +kernel), sv_in 47 (by decide +kernel) (by decide +kernel)⟩
set_option maxRecDepth 20000 in
theorem lk_X7_237 : sv_LV RX7 237 yX7_nameOf := ⟨sv_in 1267 (by decide +kernel) (by decide +kernel), sv_in 1269 (by decide +kernel) (by decide +kernel), sv_in 48 (by decide +kernel) (by decide +kernel)⟩
set_option maxRecDepth 20000 in
theorem lk_X7_243 : sv_LV RX7 243 yX7_settle := ⟨sv_in 1271 (by decide +kernel) (by decide +kernel), sv_in 1273 (by decide +kernel) (by decide +kernel), sv_in 49 (by decide +kernel) (by decide +kernel)⟩
set_option maxRecDepth 20000 in
theorem lk_X7_231 : sv_LS RX7 231 yX7_rank := ⟨sv_in 1275 (by decide +kernel) (by decide +kernel), sv_in 1276 (by decide +kernel) (by decide +kernel)⟩
set_option maxRecDepth 20000 in
theorem lk_X7_250 : sv_LV RX7 250 yX7_notsOpen := ⟨sv_in 1278 (by decide +kernel) (by decide +kernel), sv_in 1280 (by decide +kernel) (by decide +kernel), sv_in 50 (by decide +kernel) (by decide +kernel)⟩
set_option maxRecDepth 20000 in
theorem lk_X7_253 : sv_LV RX7 253 yX7_signHere := ⟨sv_in 1282 (by decide +kernel) (by decide +kernel), sv_in 1284 (by decide +kernel) (by decide +kernel), sv_in 51 (by decide +kernel) (by decide +kernel)⟩
set_option maxRecDepth 20000 in
theorem lk_L_121 : sv_LV RL 121 yX7_textTold := ⟨sv_in 1286 (by decide +kernel) (by decide +kernel), sv_in 1287 (by decide +kernel) (by decide +kernel), sv_in 1288 (by decide +kernel) (by decide +kernel)⟩
set_option maxRecDepth 20000 in
theorem lk_L_125 : sv_LV RL 125 yX7_why := ⟨sv_in 1290 (by decide +kernel) (by decide +kernel), sv_in 1291 (by decide +kernel) (by decide +kernel), sv_in 1292 (by decide +kernel) (by decide +kernel)⟩
set_option maxRecDepth 20000 in
theorem lk_L_129 : sv_LV RL 129 yX7_sheet := ⟨sv_in 1294 (by decide +kernel) (by decide +kernel), sv_in 1295 (by decide +kernel) (by decide +kernel), sv_in 1296 (by decide +kernel) (by decide +kernel)⟩
set_option maxRecDepth 20000 in
theorem lk_L_133 : sv_LV RL 133 yX7_mark := ⟨sv_in 1299 (by decide +kernel) (by decide +kernel), sv_in 1300 (by decide +kernel) (by decide +kernel), sv_in 1301 (by decide +kernel) (by decide +kernel)⟩
set_option maxRecDepth 20000 in
theorem lk_L_137 : sv_LV RL 137 yX7_pour := ⟨sv_in 1306 (by decide +kernel) (by decide +kernel), sv_in 1307 (by decide +kernel) (by decide +kernel), sv_in 1308 (by decide +kernel) (by decide +kernel)⟩
set_option maxRecDepth 20000 in
theorem lk_L_141 : sv_LV RL 141 yX7_reads := ⟨sv_in 1310 (by decide +kernel) (by decide +kernel), sv_in 1311 (by decide +kernel) (by decide +kernel), sv_in 1312 (by decide +kernel) (by decide +kernel)⟩
set_option maxRecDepth 20000 in
theorem lk_L_146 : sv_LV RL 146 yX7_copy := ⟨sv_in 1314 (by decide +kernel) (by decide +kernel), sv_in 1315 (by decide +kernel) (by decide +kernel), sv_in 1316 (by decide +kernel) (by decide +kernel)⟩
set_option maxRecDepth 20000 in
theorem lk_L_150 : sv_LV RL 150 yX7_lay := ⟨sv_in 1318 (by decide +kernel) (by decide +kernel), sv_in 1319 (by decide +kernel) (by decide +kernel), sv_in 1320 (by decide +kernel) (by decide +kernel)⟩
set_option maxRecDepth 20000 in
theorem lk_X7_269 : sv_LS RX7 269 yX7_isSlot := ⟨sv_in 1322 (by decide +kernel) (by decide +kernel), sv_in 1323 (by decide +kernel) (by decide +kernel)⟩
set_option maxRecDepth 20000 in
theorem lk_L_154 : sv_LV RL 154 yX7_ask := ⟨sv_in 1325 (by decide +kernel) (by decide +kernel), sv_in 1326 (by decide +kernel) (by decide +kernel), sv_in 1327 (by decide +kernel) (by decide +kernel)⟩
set_option maxRecDepth 20000 in
theorem lk_L_158 : sv_LV RL 158 yX7_item := ⟨sv_in 1329 (by decide +kernel) (by decide +kernel), sv_in 1330 (by decide +kernel) (by decide +kernel), sv_in 1331 (by decide +kernel) (by decide +kernel)⟩
set_option maxRecDepth 20000 in
theorem lk_L_162 : sv_LV RL 162 yX7_rest := ⟨sv_in 1333 (by decide +kernel) (by decide +kernel), sv_in 1334 (by decide +kernel) (by decide +kernel), sv_in 1335 (by decide +kernel) (by decide +kernel)⟩
set_option maxRecDepth 20000 in
theorem lk_L_166 : sv_LV RL 166 yX7_tell := ⟨sv_in 1338 (by decide +kernel) (by decide +kernel), sv_in 1339 (by decide +kernel) (by decide +kernel), sv_in 1340 (by decide +kernel) (by decide +kernel)⟩
set_option maxRecDepth 20000 in
theorem lk_L_170 : sv_LV RL 170 yX7_check := ⟨sv_in 1342 (by decide +kernel) (by decide +kernel), sv_in 1343 (by decide +kernel) (by decide +kernel), sv_in 1344 (by decide +kernel) (by decide +kernel)⟩
set_option maxRecDepth 20000 in
theorem lk_X7_280 : sv_LS RX7 280 yX7_copyAll := ⟨sv_in 1346 (by decide +kernel) (by decide +kernel), sv_in 1347 (by decide +kernel) (by decide +kernel)⟩
set_option maxRecDepth 20000 in
theorem lk_L_174 : sv_LV RL 174 yX7_keep := ⟨sv_in 1349 (by decide +kernel) (by decide +kernel), sv_in 1350 (by decide +kernel) (by decide +kernel), sv_in 1351 (by decide +kernel) (by decide +kernel)⟩
set_option maxRecDepth 20000 in
theorem lk_L_178 : sv_LV RL 178 yX7_back := ⟨sv_in 1353 (by decide +kernel) (by decide +kernel), sv_in 1354 (by decide +kernel) (by decide +kernel), sv_in 1355 (by decide +kernel) (by decide +kernel)⟩
set_option maxRecDepth 20000 in
theorem lk_L_182 : sv_LV RL 182 yX7_count := ⟨sv_in 1357 (by decide +kernel) (by decide +kernel), sv_in 1358 (by decide +kernel) (by decide +kernel), sv_in 1359 (by decide +kernel) (by decide +kernel)⟩
set_option maxRecDepth 20000 in
theorem cl_L_7 : Cond.classLink RL 7 RX6 ∈ sv_tbl := sv_in 69 (by decide +kernel) (by decide +kernel)
set_option maxRecDepth 20000 in
theorem cw_L_7 : sv_CW RL 7 6 11 := ⟨RX6, TX6, rfl, by decide, in_X6, tyX6_ok, cl_L_7, sv_in 70 (by decide +kernel) (by decide +kernel), sv_in 53 (by decide +kernel) (by decide +kernel), by decide⟩
set_option maxRecDepth 20000 in
theorem cl_X6_7 : Cond.classLink RX6 7 RX2 ∈ sv_tbl := sv_in 77 (by decide +kernel) (by decide +kernel)
set_option maxRecDepth 20000 in
theorem cw_X6_7 : sv_CW RX6 7 2 2 := ⟨RX2, TX2, rfl, by decide, in_X2, tyX2_ok, cl_X6_7, sv_in 78 (by decide +kernel) (by decide +kernel), sv_in 54 (by decide +kernel) (by decide +kernel), by decide⟩
set_option maxRecDepth 20000 in
theorem cl_X2_9 : Cond.classLink RX2 9 RX1 ∈ sv_tbl := sv_in 83 (by decide +kernel) (by decide +kernel)
set_option maxRecDepth 20000 in
theorem cw_X2_9 : sv_CW RX2 9 1 3 := ⟨RX1, TX1, rfl, by decide, in_X1, tyX1_ok, cl_X2_9, sv_in 768 (by decide +kernel) (by decide +kernel), sv_in 68 (by decide +kernel) (by decide +kernel), by decide⟩
set_option maxRecDepth 20000 in
theorem cl_X6_16 : Cond.classLink RX6 16 RX3 ∈ sv_tbl := sv_in 94 (by decide +kernel) (by decide +kernel)
set_option maxRecDepth 20000 in
theorem cw_X6_16 : sv_CW RX6 16 3 10 := ⟨RX3, TX3, rfl, by decide, in_X3, tyX3_ok, cl_X6_16, sv_in 95 (by decide +kernel) (by decide +kernel), sv_in 55 (by decide +kernel) (by decide +kernel), by decide⟩
set_option maxRecDepth 20000 in
theorem cl_X6_23 : Cond.classLink RX6 23 RX0 ∈ sv_tbl := sv_in 132 (by decide +kernel) (by decide +kernel)
set_option maxRecDepth 20000 in
theorem cw_X6_23 : sv_CW RX6 23 0 19 := ⟨RX0, TX0, rfl, by decide, in_X0, tyX0_ok, cl_X6_23, sv_in 133 (by decide +kernel) (by decide +kernel), sv_in 56 (by decide +kernel) (by decide +kernel), by decide⟩
set_option maxRecDepth 20000 in
theorem cl_X6_38 : Cond.classLink RX6 38 RX4 ∈ sv_tbl := sv_in 214 (by decide +kernel) (by decide +kernel)
set_option maxRecDepth 20000 in
theorem cw_X6_38 : sv_CW RX6 38 4 3 := ⟨RX4, TX4, rfl, by decide, in_X4, tyX4_ok, cl_X6_38, sv_in 216 (by decide +kernel) (by decide +kernel), sv_in 57 (by decide +kernel) (by decide +kernel), by decide⟩
set_option maxRecDepth 20000 in
theorem cl_X6_45 : Cond.classLink RX6 45 RX5 ∈ sv_tbl := sv_in 234 (by decide +kernel) (by decide +kernel)
set_option maxRecDepth 20000 in
theorem cw_X6_45 : sv_CW RX6 45 5 5 := ⟨RX5, TX5, rfl, by decide, in_X5, tyX5_ok, cl_X6_45, sv_in 236 (by decide +kernel) (by decide +kernel), sv_in 58 (by decide +kernel) (by decide +kernel), by decide⟩
set_option maxRecDepth 20000 in
theorem cl_X5_9 : Cond.classLink RX5 9 RX4 ∈ sv_tbl := sv_in 241 (by decide +kernel) (by decide +kernel)
set_option maxRecDepth 20000 in
theorem cw_X5_9 : sv_CW RX5 9 4 3 := ⟨RX4, TX4, rfl, by decide, in_X4, tyX4_ok, cl_X5_9, sv_in 216 (by decide +kernel) (by decide +kernel), sv_in 57 (by decide +kernel) (by decide +kernel), by decide⟩
set_option maxRecDepth 20000 in
theorem cl_X3_54 : Cond.classLink RX3 54 RX1 ∈ sv_tbl := sv_in 767 (by decide +kernel) (by decide +kernel)
set_option maxRecDepth 20000 in
theorem cw_X3_54 : sv_CW RX3 54 1 3 := ⟨RX1, TX1, rfl, by decide, in_X1, tyX1_ok, cl_X3_54, sv_in 768 (by decide +kernel) (by decide +kernel), sv_in 68 (by decide +kernel) (by decide +kernel), by decide⟩
set_option maxRecDepth 20000 in
theorem cl_L_10 : Cond.classLink RL 10 RX7 ∈ sv_tbl := sv_in 893 (by decide +kernel) (by decide +kernel)
set_option maxRecDepth 20000 in
theorem cw_L_10 : sv_CW RL 10 7 35 := ⟨RX7, TX7, rfl, by decide, in_X7, tyX7_ok, cl_L_10, sv_in 894 (by decide +kernel) (by decide +kernel), sv_in 59 (by decide +kernel) (by decide +kernel), by decide⟩
set_option maxRecDepth 20000 in
theorem wd_oi1 : Cond.instanceMethod Lib.objectInit ∈ sv_tbl := sv_in 75 (by decide +kernel) (by decide +kernel)
set_option maxRecDepth 20000 in
theorem wd_oi2 : Cond.code Lib.objectInit ⟨#[0xb1]⟩ 1 none ∈ sv_tbl := sv_in 76 (by decide +kernel) (by decide +kernel)
set_option maxRecDepth 20000 in
theorem wd_ac1 : Cond.native arraycopyName ∈ sv_tbl := sv_in 510 (by decide +kernel) (by decide +kernel)
set_option maxRecDepth 20000 in
theorem wd_ac2 : Cond.static arraycopyName ∈ sv_tbl := sv_in 509 (by decide +kernel) (by decide +kernel)
set_option maxRecDepth 20000 in
theorem wd_sys : Cond.initialized "java/lang/System" ∈ sv_tbl := sv_in 62 (by decide +kernel) (by decide +kernel)
set_option maxRecDepth 20000 in
theorem wd_math : Cond.initialized "java/lang/Math" ∈ sv_tbl := sv_in 60 (by decide +kernel) (by decide +kernel)
set_option maxRecDepth 20000 in
theorem wd_min1 : Cond.static Lib.Math.min.name ∈ sv_tbl := sv_in 353 (by decide +kernel) (by decide +kernel)
set_option maxRecDepth 20000 in
theorem wd_min2 : Cond.code Lib.Math.min.name Lib.Math.min.code 2 (some .int) ∈ sv_tbl := sv_in 354 (by decide +kernel) (by decide +kernel)
set_option maxRecDepth 20000 in
theorem wd_max1 : Cond.static Lib.Math.max.name ∈ sv_tbl := sv_in 374 (by decide +kernel) (by decide +kernel)
set_option maxRecDepth 20000 in
theorem wd_max2 : Cond.code Lib.Math.max.name Lib.Math.max.code 2 (some .int) ∈ sv_tbl := sv_in 375 (by decide +kernel) (by decide +kernel)
set_option maxRecDepth 20000 in
theorem wd_abs1 : Cond.static Lib.Math.abs.name ∈ sv_tbl := sv_in 558 (by decide +kernel) (by decide +kernel)
set_option maxRecDepth 20000 in
theorem wd_abs2 : Cond.code Lib.Math.abs.name Lib.Math.abs.code 1 (some .int) ∈ sv_tbl := sv_in 559 (by decide +kernel) (by decide +kernel)
set_option maxRecDepth 20000 in
theorem wd_aint : Cond.arrayClass (newarray.typeOf .int) ∈ sv_tbl := sv_in 93 (by decide +kernel) (by decide +kernel)
set_option maxRecDepth 20000 in
theorem wd_achar : Cond.arrayClass (newarray.typeOf .char) ∈ sv_tbl := sv_in 1005 (by decide +kernel) (by decide +kernel)
set_option maxRecDepth 20000 in
theorem wd_aboolean : Cond.arrayClass (newarray.typeOf .boolean) ∈ sv_tbl := sv_in 1006 (by decide +kernel) (by decide +kernel)
set_option maxRecDepth 20000 in
theorem wd_above : Cond.fieldLink RX6 318 RX6 "ABOVE" "[I" ∈ sv_tbl := sv_in 389 (by decide +kernel) (by decide +kernel)
set_option maxRecDepth 20000 in
theorem wf_J0_38 : Cond.fieldLink RJ0 38 "java/lang/String" "COMPACT_STRINGS" "Z" ∈ sv_tbl := sv_in 627 (by decide +kernel) (by decide +kernel)
set_option maxRecDepth 20000 in
theorem wf_J0_1053 : Cond.fieldLink RJ0 1053 "jdk/internal/util/Preconditions" "SIOOBE_FORMATTER" "Ljava/util/function/BiFunction;" ∈ sv_tbl := sv_in 643 (by decide +kernel) (by decide +kernel)
set_option maxRecDepth 20000 in
theorem wf_J2_44 : Cond.fieldLink RJ2 44 "java/lang/StringUTF16" "$assertionsDisabled" "Z" ∈ sv_tbl := sv_in 661 (by decide +kernel) (by decide +kernel)
set_option maxRecDepth 20000 in
theorem wf_J2_59 : Cond.fieldLink RJ2 59 "java/lang/StringUTF16" "HI_BYTE_SHIFT" "I" ∈ sv_tbl := sv_in 663 (by decide +kernel) (by decide +kernel)
set_option maxRecDepth 20000 in
theorem wf_J2_63 : Cond.fieldLink RJ2 63 "java/lang/StringUTF16" "LO_BYTE_SHIFT" "I" ∈ sv_tbl := sv_in 665 (by decide +kernel) (by decide +kernel)
set_option maxRecDepth 20000 in
theorem wf_J0_9 : Cond.fieldLink RJ0 9 "java/lang/String" "value" "[B" ∈ sv_tbl := sv_in 1361 (by decide +kernel) (by decide +kernel)
set_option maxRecDepth 20000 in
theorem wf_J0_15 : Cond.fieldLink RJ0 15 "java/lang/String" "coder" "B" ∈ sv_tbl := sv_in 1362 (by decide +kernel) (by decide +kernel)
