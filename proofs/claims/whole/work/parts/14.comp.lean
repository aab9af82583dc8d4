def wp_X0_become (F : sv_Fr) (a : Nat) (a1 : Nat) (g : sv_Mg) (Q : sv_Mg → Prop) : Prop := ∀ g_1, g_1 = sv_st g a 8 (g a1 8) → ∀ g_2, g_2 = sv_st g_1 a 9 (g_1 a1 9) → ∀ g_3, g_3 = sv_st g_2 a 10 (g_2 a1 10) → ∀ g_4, g_4 = sv_st g_3 a 11 (g_3 a1 11) → ∀ g_5, g_5 = sv_st g_4 a 12 (g_4 a1 12) → ∀ g_6, g_6 = sv_st g_5 a 13 (g_5 a1 13) → ∀ g_7, g_7 = sv_st g_6 a 14 (g_6 a1 14) → ∀ g_8, g_8 = sv_st g_7 a 15 (g_7 a1 15) → ∀ g_9, g_9 = sv_st g_8 a 16 (g_8 a1 16) → ∀ g_10, g_10 = sv_st g_9 a 17 (g_9 a1 17) → ∀ g_11, g_11 = sv_st g_10 a 18 (g_10 a1 18) → ∀ g_12, g_12 = sv_sa g_11 (a + 1) (va_cpy (g_11 (a1 + 1)) (g_11 (a + 1)) 0 0 10) → ∀ g_13, g_13 = sv_sa g_12 (a + 2) (va_cpy (g_12 (a1 + 2)) (g_12 (a + 2)) 0 0 10) → ∀ g_14, g_14 = sv_sa g_13 (a + 3) (va_cpy (g_13 (a1 + 3)) (g_13 (a + 3)) 0 0 10) → ∀ g_15, g_15 = sv_sa g_14 (a + 4) (va_cpy (g_14 (a1 + 4)) (g_14 (a + 4)) 0 0 10) → ∀ g_16, g_16 = sv_sa g_15 (a + 5) (va_cpy (g_15 (a1 + 5)) (g_15 (a + 5)) 0 0 10) → ∀ g_17, g_17 = sv_sa g_16 (a + 6) (va_cpy (g_16 (a1 + 6)) (g_16 (a + 6)) 0 0 10) → ∀ g_18, g_18 = sv_sa g_17 (a + 7) (va_cpy (g_17 (a1 + 7)) (g_17 (a + 7)) 0 0 10) → Q g_18
set_option maxRecDepth 100000 in
set_option maxHeartbeats 4000000 in
theorem c_X0_become {b : Nat} {xt : sv_Xt} {F : sv_Fr} {a : Nat} {a1 : Nat} {g : sv_Mg} {Q : sv_Mg → Prop} (hL : sv_Lay F) (ha : sv_isC a) (ha1 : sv_isC a1) (h : wp_X0_become F a a1 g Q) : sv_Cal yX0_become cX0_become 2 none 1 100 0 0 b xt [.ref (b + a), .ref (b + a1)] F g (sv_qV F Q) := by
  refine sv_intro mw_X0_become [(0, .ref (b + a)), (1, .ref (b + a1))] rfl (Nat.le_of_ble_eq_true rfl) (fun x G RR T NM => ?_)
  have G : sv_G x b xt RX0 cX0_become 2 := G
  unfold wp_X0_become at h
  refine sv_aload_n (pc := 0) G dX0_become_0 0 rfl ?_
  refine sv_aload_n (pc := 1) G dX0_become_1 1 rfl ?_
  refine sv_getI (pc := 2) G fw_X0_33 (hL.cS ha1) rfl dX0_become_2 ?_
  refine sv_putI (pc := 5) G fw_X0_33 (hL.cS ha) rfl dX0_become_5 (fun g_1 eg_1 => ?_)
  have h := h g_1 eg_1
  refine sv_aload_n (pc := 8) G dX0_become_8 0 rfl ?_
  refine sv_aload_n (pc := 9) G dX0_become_9 1 rfl ?_
  refine sv_getI (pc := 10) G fw_X0_37 (hL.cS ha1) rfl dX0_become_10 ?_
  refine sv_putI (pc := 13) G fw_X0_37 (hL.cS ha) rfl dX0_become_13 (fun g_2 eg_2 => ?_)
  have h := h g_2 eg_2
  refine sv_aload_n (pc := 16) G dX0_become_16 0 rfl ?_
  refine sv_aload_n (pc := 17) G dX0_become_17 1 rfl ?_
  refine sv_getI (pc := 18) G fw_X0_40 (hL.cS ha1) rfl dX0_become_18 ?_
  refine sv_putI (pc := 21) G fw_X0_40 (hL.cS ha) rfl dX0_become_21 (fun g_3 eg_3 => ?_)
  have h := h g_3 eg_3
  refine sv_aload_n (pc := 24) G dX0_become_24 0 rfl ?_
  refine sv_aload_n (pc := 25) G dX0_become_25 1 rfl ?_
  refine sv_getI (pc := 26) G fw_X0_43 (hL.cS ha1) rfl dX0_become_26 ?_
  refine sv_putI (pc := 29) G fw_X0_43 (hL.cS ha) rfl dX0_become_29 (fun g_4 eg_4 => ?_)
  have h := h g_4 eg_4
  refine sv_aload_n (pc := 32) G dX0_become_32 0 rfl ?_
  refine sv_aload_n (pc := 33) G dX0_become_33 1 rfl ?_
  refine sv_getI (pc := 34) G fw_X0_46 (hL.cS ha1) rfl dX0_become_34 ?_
  refine sv_putI (pc := 37) G fw_X0_46 (hL.cS ha) rfl dX0_become_37 (fun g_5 eg_5 => ?_)
  have h := h g_5 eg_5
  refine sv_aload_n (pc := 40) G dX0_become_40 0 rfl ?_
  refine sv_aload_n (pc := 41) G dX0_become_41 1 rfl ?_
  refine sv_getI (pc := 42) G fw_X0_49 (hL.cS ha1) rfl dX0_become_42 ?_
  refine sv_putI (pc := 45) G fw_X0_49 (hL.cS ha) rfl dX0_become_45 (fun g_6 eg_6 => ?_)
  have h := h g_6 eg_6
  refine sv_aload_n (pc := 48) G dX0_become_48 0 rfl ?_
  refine sv_aload_n (pc := 49) G dX0_become_49 1 rfl ?_
  refine sv_getI (pc := 50) G fw_X0_52 (hL.cS ha1) rfl dX0_become_50 ?_
  refine sv_putI (pc := 53) G fw_X0_52 (hL.cS ha) rfl dX0_become_53 (fun g_7 eg_7 => ?_)
  have h := h g_7 eg_7
  refine sv_aload_n (pc := 56) G dX0_become_56 0 rfl ?_
  refine sv_aload_n (pc := 57) G dX0_become_57 1 rfl ?_
  refine sv_getI (pc := 58) G fw_X0_55 (hL.cS ha1) rfl dX0_become_58 ?_
  refine sv_putI (pc := 61) G fw_X0_55 (hL.cS ha) rfl dX0_become_61 (fun g_8 eg_8 => ?_)
  have h := h g_8 eg_8
  refine sv_aload_n (pc := 64) G dX0_become_64 0 rfl ?_
  refine sv_aload_n (pc := 65) G dX0_become_65 1 rfl ?_
  refine sv_getI (pc := 66) G fw_X0_58 (hL.cS ha1) rfl dX0_become_66 ?_
  refine sv_putI (pc := 69) G fw_X0_58 (hL.cS ha) rfl dX0_become_69 (fun g_9 eg_9 => ?_)
  have h := h g_9 eg_9
  refine sv_aload_n (pc := 72) G dX0_become_72 0 rfl ?_
  refine sv_aload_n (pc := 73) G dX0_become_73 1 rfl ?_
  refine sv_getI (pc := 74) G fw_X0_61 (hL.cS ha1) rfl dX0_become_74 ?_
  refine sv_putI (pc := 77) G fw_X0_61 (hL.cS ha) rfl dX0_become_77 (fun g_10 eg_10 => ?_)
  have h := h g_10 eg_10
  refine sv_aload_n (pc := 80) G dX0_become_80 0 rfl ?_
  refine sv_aload_n (pc := 81) G dX0_become_81 1 rfl ?_
  refine sv_getI (pc := 82) G fw_X0_64 (hL.cS ha1) rfl dX0_become_82 ?_
  refine sv_putI (pc := 85) G fw_X0_64 (hL.cS ha) rfl dX0_become_85 (fun g_11 eg_11 => ?_)
  have h := h g_11 eg_11
  refine sv_aload_n (pc := 88) G dX0_become_88 1 rfl ?_
  refine sv_getR (pc := 89) G fw_X0_9 (hL.cS ha1) rfl (hL.cR1 ha1) dX0_become_89 ?_
  refine sv_iconst (pc := 92) G dX0_become_92 0 ic_0 ?_
  refine sv_aload_n (pc := 93) G dX0_become_93 0 rfl ?_
  refine sv_getR (pc := 94) G fw_X0_9 (hL.cS ha) rfl (hL.cR1 ha) dX0_become_94 ?_
  refine sv_iconst (pc := 97) G dX0_become_97 0 ic_0 ?_
  refine sv_bipush (pc := 98) G dX0_become_98 10 bp_10 ?_
  refine sv_copyK (pc := 100) G RR lk_X0_71 wd_ac1 wd_ac2 wd_sys (hL.cA1 ha1) (hL.cA1 ha) (by decide) (by decide) (by decide) tn_0 tn_0 tn_10 (by decide) (by decide) (Nat.le_of_ble_eq_true rfl) (Nat.le_of_ble_eq_true rfl) dX0_become_100 (fun g_12 eg_12 => ?_)
  have h := h g_12 eg_12
  refine sv_aload_n (pc := 103) G dX0_become_103 1 rfl ?_
  refine sv_getR (pc := 104) G fw_X0_15 (hL.cS ha1) rfl (hL.cR2 ha1) dX0_become_104 ?_
  refine sv_iconst (pc := 107) G dX0_become_107 0 ic_0 ?_
  refine sv_aload_n (pc := 108) G dX0_become_108 0 rfl ?_
  refine sv_getR (pc := 109) G fw_X0_15 (hL.cS ha) rfl (hL.cR2 ha) dX0_become_109 ?_
  refine sv_iconst (pc := 112) G dX0_become_112 0 ic_0 ?_
  refine sv_bipush (pc := 113) G dX0_become_113 10 bp_10 ?_
  refine sv_copyK (pc := 115) G RR lk_X0_71 wd_ac1 wd_ac2 wd_sys (hL.cA2 ha1) (hL.cA2 ha) (by decide) (by decide) (by decide) tn_0 tn_0 tn_10 (by decide) (by decide) (Nat.le_of_ble_eq_true rfl) (Nat.le_of_ble_eq_true rfl) dX0_become_115 (fun g_13 eg_13 => ?_)
  have h := h g_13 eg_13
  refine sv_aload_n (pc := 118) G dX0_become_118 1 rfl ?_
  refine sv_getR (pc := 119) G fw_X0_18 (hL.cS ha1) rfl (hL.cR3 ha1) dX0_become_119 ?_
  refine sv_iconst (pc := 122) G dX0_become_122 0 ic_0 ?_
  refine sv_aload_n (pc := 123) G dX0_become_123 0 rfl ?_
  refine sv_getR (pc := 124) G fw_X0_18 (hL.cS ha) rfl (hL.cR3 ha) dX0_become_124 ?_
  refine sv_iconst (pc := 127) G dX0_become_127 0 ic_0 ?_
  refine sv_bipush (pc := 128) G dX0_become_128 10 bp_10 ?_
  refine sv_copyK (pc := 130) G RR lk_X0_71 wd_ac1 wd_ac2 wd_sys (hL.cA3 ha1) (hL.cA3 ha) (by decide) (by decide) (by decide) tn_0 tn_0 tn_10 (by decide) (by decide) (Nat.le_of_ble_eq_true rfl) (Nat.le_of_ble_eq_true rfl) dX0_become_130 (fun g_14 eg_14 => ?_)
  have h := h g_14 eg_14
  refine sv_aload_n (pc := 133) G dX0_become_133 1 rfl ?_
  refine sv_getR (pc := 134) G fw_X0_21 (hL.cS ha1) rfl (hL.cR4 ha1) dX0_become_134 ?_
  refine sv_iconst (pc := 137) G dX0_become_137 0 ic_0 ?_
  refine sv_aload_n (pc := 138) G dX0_become_138 0 rfl ?_
  refine sv_getR (pc := 139) G fw_X0_21 (hL.cS ha) rfl (hL.cR4 ha) dX0_become_139 ?_
  refine sv_iconst (pc := 142) G dX0_become_142 0 ic_0 ?_
  refine sv_bipush (pc := 143) G dX0_become_143 10 bp_10 ?_
  refine sv_copyK (pc := 145) G RR lk_X0_71 wd_ac1 wd_ac2 wd_sys (hL.cA4 ha1) (hL.cA4 ha) (by decide) (by decide) (by decide) tn_0 tn_0 tn_10 (by decide) (by decide) (Nat.le_of_ble_eq_true rfl) (Nat.le_of_ble_eq_true rfl) dX0_become_145 (fun g_15 eg_15 => ?_)
  have h := h g_15 eg_15
  refine sv_aload_n (pc := 148) G dX0_become_148 1 rfl ?_
  refine sv_getR (pc := 149) G fw_X0_24 (hL.cS ha1) rfl (hL.cR5 ha1) dX0_become_149 ?_
  refine sv_iconst (pc := 152) G dX0_become_152 0 ic_0 ?_
  refine sv_aload_n (pc := 153) G dX0_become_153 0 rfl ?_
  refine sv_getR (pc := 154) G fw_X0_24 (hL.cS ha) rfl (hL.cR5 ha) dX0_become_154 ?_
  refine sv_iconst (pc := 157) G dX0_become_157 0 ic_0 ?_
  refine sv_bipush (pc := 158) G dX0_become_158 10 bp_10 ?_
  refine sv_copyK (pc := 160) G RR lk_X0_71 wd_ac1 wd_ac2 wd_sys (hL.cA5 ha1) (hL.cA5 ha) (by decide) (by decide) (by decide) tn_0 tn_0 tn_10 (by decide) (by decide) (Nat.le_of_ble_eq_true rfl) (Nat.le_of_ble_eq_true rfl) dX0_become_160 (fun g_16 eg_16 => ?_)
  have h := h g_16 eg_16
  refine sv_aload_n (pc := 163) G dX0_become_163 1 rfl ?_
  refine sv_getR (pc := 164) G fw_X0_27 (hL.cS ha1) rfl (hL.cR6 ha1) dX0_become_164 ?_
  refine sv_iconst (pc := 167) G dX0_become_167 0 ic_0 ?_
  refine sv_aload_n (pc := 168) G dX0_become_168 0 rfl ?_
  refine sv_getR (pc := 169) G fw_X0_27 (hL.cS ha) rfl (hL.cR6 ha) dX0_become_169 ?_
  refine sv_iconst (pc := 172) G dX0_become_172 0 ic_0 ?_
  refine sv_bipush (pc := 173) G dX0_become_173 10 bp_10 ?_
  refine sv_copyK (pc := 175) G RR lk_X0_71 wd_ac1 wd_ac2 wd_sys (hL.cA6 ha1) (hL.cA6 ha) (by decide) (by decide) (by decide) tn_0 tn_0 tn_10 (by decide) (by decide) (Nat.le_of_ble_eq_true rfl) (Nat.le_of_ble_eq_true rfl) dX0_become_175 (fun g_17 eg_17 => ?_)
  have h := h g_17 eg_17
  refine sv_aload_n (pc := 178) G dX0_become_178 1 rfl ?_
  refine sv_getR (pc := 179) G fw_X0_30 (hL.cS ha1) rfl (hL.cR7 ha1) dX0_become_179 ?_
  refine sv_iconst (pc := 182) G dX0_become_182 0 ic_0 ?_
  refine sv_aload_n (pc := 183) G dX0_become_183 0 rfl ?_
  refine sv_getR (pc := 184) G fw_X0_30 (hL.cS ha) rfl (hL.cR7 ha) dX0_become_184 ?_
  refine sv_iconst (pc := 187) G dX0_become_187 0 ic_0 ?_
  refine sv_bipush (pc := 188) G dX0_become_188 10 bp_10 ?_
  refine sv_copyK (pc := 190) G RR lk_X0_71 wd_ac1 wd_ac2 wd_sys (hL.cA7 ha1) (hL.cA7 ha) (by decide) (by decide) (by decide) tn_0 tn_0 tn_10 (by decide) (by decide) (Nat.le_of_ble_eq_true rfl) (Nat.le_of_ble_eq_true rfl) dX0_become_190 (fun g_18 eg_18 => ?_)
  have h := h g_18 eg_18
  exact sv_vreturn (pc := 193) G T ⟨(Nat.le_of_ble_eq_true rfl), (Nat.le_of_ble_eq_true rfl)⟩ dX0_become_193 ⟨rfl, rfl, h⟩
def wp_X0_isVoter (F : sv_Fr) (a : Nat) (v1 : Int32) (g : sv_Mg) (Q : Int32 → sv_Mg → Prop) : Prop := ((v1 < 0 → Q 0 g) ∧ (¬ v1 < 0 → (((g a 8) ≤ v1 → Q 0 g) ∧ (¬ (g a 8) ≤ v1 → Q 1 g))))
set_option maxRecDepth 100000 in
set_option maxHeartbeats 4000000 in
theorem c_X0_isVoter {b : Nat} {xt : sv_Xt} {F : sv_Fr} {a : Nat} {v1 : Int32} {g : sv_Mg} {Q : Int32 → sv_Mg → Prop} (hL : sv_Lay F) (ha : sv_isC a) (h : wp_X0_isVoter F a v1 g Q) : sv_Cal yX0_isVoter cX0_isVoter 2 (some .boolean) 0 0 0 0 b xt [.ref (b + a), .int v1] F g (sv_qI F Q) := by
  refine sv_intro mw_X0_isVoter [(0, .ref (b + a)), (1, .int v1)] rfl (Nat.le_of_ble_eq_true rfl) (fun x G RR T NM => ?_)
  have G : sv_G x b xt RX0 cX0_isVoter 2 := G
  unfold wp_X0_isVoter at h
  refine sv_iload_n (pc := 0) G dX0_isVoter_0 1 rfl ?_
  refine sv_if_lt (pc := 1) G 16 (by decide) dX0_isVoter_1 (fun c_1 => ?_) (fun c_1 => ?_)
  · have h := h.1 c_1
    refine sv_iconst (pc := 16) G dX0_isVoter_16 0 ic_0 ?_
    exact sv_zreturn (pc := 17) G T (Or.inl rfl) ⟨(Nat.le_of_ble_eq_true rfl), (Nat.le_of_ble_eq_true rfl)⟩ dX0_isVoter_17 ⟨_, rfl, rfl, h⟩
  · have h := h.2 c_1
    refine sv_iload_n (pc := 4) G dX0_isVoter_4 1 rfl ?_
    refine sv_aload_n (pc := 5) G dX0_isVoter_5 0 rfl ?_
    refine sv_getI (pc := 6) G fw_X0_33 (hL.cS ha) rfl dX0_isVoter_6 ?_
    refine sv_ic_ge (pc := 9) G 16 (by decide) dX0_isVoter_9 (fun c_2 => ?_) (fun c_2 => ?_)
    · have h := h.1 c_2
      refine sv_iconst (pc := 16) G dX0_isVoter_16 0 ic_0 ?_
      exact sv_zreturn (pc := 17) G T (Or.inl rfl) ⟨(Nat.le_of_ble_eq_true rfl), (Nat.le_of_ble_eq_true rfl)⟩ dX0_isVoter_17 ⟨_, rfl, rfl, h⟩
    · have h := h.2 c_2
      refine sv_iconst (pc := 12) G dX0_isVoter_12 1 ic_1 ?_
      refine sv_goto (pc := 13) G dX0_isVoter_13 17 (by decide) ?_
      exact sv_zreturn (pc := 17) G T (Or.inr rfl) ⟨(Nat.le_of_ble_eq_true rfl), (Nat.le_of_ble_eq_true rfl)⟩ dX0_isVoter_17 ⟨_, rfl, rfl, h⟩
def wp_X0_enter (F : sv_Fr) (a : Nat) (v1 : Int32) (v2 : Int32) (v3 : Int32) (v4 : Int32) (g : sv_Mg) (Q : sv_Mg → Prop) : Prop := (((g a 8) < 10 → vp_in (g a 8) 10 ∧ ∀ g_3, g_3 = sv_st g (a + 1) (g a 8).toNatClampNeg v1 → vp_in (g_3 a 8) 10 ∧ ∀ g_5, g_5 = sv_st g_3 (a + 2) (g_3 a 8).toNatClampNeg v2 → vp_in (g_5 a 8) 10 ∧ ∀ g_7, g_7 = sv_st g_5 (a + 3) (g_5 a 8).toNatClampNeg v3 → vp_in (g_7 a 8) 10 ∧ ∀ g_9, g_9 = sv_st g_7 (a + 4) (g_7 a 8).toNatClampNeg v4 → vp_in (g_9 a 8) 10 ∧ ∀ g_11, g_11 = sv_st g_9 (a + 5) (g_9 a 8).toNatClampNeg 3 → vp_in (g_11 a 8) 10 ∧ ∀ g_13, g_13 = sv_st g_11 (a + 6) (g_11 a 8).toNatClampNeg (-1) → vp_in (g_13 a 8) 10 ∧ ∀ g_15, g_15 = sv_st g_13 (a + 7) (g_13 a 8).toNatClampNeg 0 → ∀ g_16, g_16 = sv_st g_15 a 8 ((g_15 a 8) + 1) → Q g_16) ∧ (¬ (g a 8) < 10 → Q g))
set_option maxRecDepth 100000 in
set_option maxHeartbeats 4000000 in
theorem c_X0_enter {b : Nat} {xt : sv_Xt} {F : sv_Fr} {a : Nat} {v1 : Int32} {v2 : Int32} {v3 : Int32} {v4 : Int32} {g : sv_Mg} {Q : sv_Mg → Prop} (hL : sv_Lay F) (ha : sv_isC a) (h : wp_X0_enter F a v1 v2 v3 v4 g Q) : sv_Cal yX0_enter cX0_enter 5 none 0 0 0 0 b xt [.ref (b + a), .int v1, .int v2, .int v3, .int v4] F g (sv_qV F Q) := by
  refine sv_intro mw_X0_enter [(0, .ref (b + a)), (1, .int v1), (2, .int v2), (3, .int v3), (4, .int v4)] rfl (Nat.le_of_ble_eq_true rfl) (fun x G RR T NM => ?_)
  have G : sv_G x b xt RX0 cX0_enter 5 := G
  unfold wp_X0_enter at h
  refine sv_aload_n (pc := 0) G dX0_enter_0 0 rfl ?_
  refine sv_getI (pc := 1) G fw_X0_33 (hL.cS ha) rfl dX0_enter_1 ?_
  refine sv_bipush (pc := 4) G dX0_enter_4 10 bp_10 ?_
  refine sv_ic_lt (pc := 6) G 10 (by decide) dX0_enter_6 (fun c_1 => ?_) (fun c_1 => ?_)
  · have h := h.1 c_1
    refine sv_aload_n (pc := 10) G dX0_enter_10 0 rfl ?_
    refine sv_getR (pc := 11) G fw_X0_9 (hL.cS ha) rfl (hL.cR1 ha) dX0_enter_11 ?_
    refine sv_aload_n (pc := 14) G dX0_enter_14 0 rfl ?_
    refine sv_getI (pc := 15) G fw_X0_33 (hL.cS ha) rfl dX0_enter_15 ?_
    refine sv_iload_n (pc := 18) G dX0_enter_18 1 rfl ?_
    obtain ⟨s_2, h⟩ := h
    refine sv_iastK (pc := 19) G (hL.cA1 ha) s_2 (g a 8).toNatClampNeg rfl dX0_enter_19 (fun g_3 eg_3 => ?_)
    have h := h g_3 eg_3
    refine sv_aload_n (pc := 20) G dX0_enter_20 0 rfl ?_
    refine sv_getR (pc := 21) G fw_X0_15 (hL.cS ha) rfl (hL.cR2 ha) dX0_enter_21 ?_
    refine sv_aload_n (pc := 24) G dX0_enter_24 0 rfl ?_
    refine sv_getI (pc := 25) G fw_X0_33 (hL.cS ha) rfl dX0_enter_25 ?_
    refine sv_iload_n (pc := 28) G dX0_enter_28 2 rfl ?_
    obtain ⟨s_4, h⟩ := h
    refine sv_iastK (pc := 29) G (hL.cA2 ha) s_4 (g_3 a 8).toNatClampNeg rfl dX0_enter_29 (fun g_5 eg_5 => ?_)
    have h := h g_5 eg_5
    refine sv_aload_n (pc := 30) G dX0_enter_30 0 rfl ?_
    refine sv_getR (pc := 31) G fw_X0_18 (hL.cS ha) rfl (hL.cR3 ha) dX0_enter_31 ?_
    refine sv_aload_n (pc := 34) G dX0_enter_34 0 rfl ?_
    refine sv_getI (pc := 35) G fw_X0_33 (hL.cS ha) rfl dX0_enter_35 ?_
    refine sv_iload_n (pc := 38) G dX0_enter_38 3 rfl ?_
    obtain ⟨s_6, h⟩ := h
    refine sv_iastK (pc := 39) G (hL.cA3 ha) s_6 (g_5 a 8).toNatClampNeg rfl dX0_enter_39 (fun g_7 eg_7 => ?_)
    have h := h g_7 eg_7
    refine sv_aload_n (pc := 40) G dX0_enter_40 0 rfl ?_
    refine sv_getR (pc := 41) G fw_X0_21 (hL.cS ha) rfl (hL.cR4 ha) dX0_enter_41 ?_
    refine sv_aload_n (pc := 44) G dX0_enter_44 0 rfl ?_
    refine sv_getI (pc := 45) G fw_X0_33 (hL.cS ha) rfl dX0_enter_45 ?_
    refine sv_iload (pc := 48) G dX0_enter_48 4 rfl ?_
    obtain ⟨s_8, h⟩ := h
    refine sv_iastK (pc := 50) G (hL.cA4 ha) s_8 (g_7 a 8).toNatClampNeg rfl dX0_enter_50 (fun g_9 eg_9 => ?_)
    have h := h g_9 eg_9
    refine sv_aload_n (pc := 51) G dX0_enter_51 0 rfl ?_
    refine sv_getR (pc := 52) G fw_X0_24 (hL.cS ha) rfl (hL.cR5 ha) dX0_enter_52 ?_
    refine sv_aload_n (pc := 55) G dX0_enter_55 0 rfl ?_
    refine sv_getI (pc := 56) G fw_X0_33 (hL.cS ha) rfl dX0_enter_56 ?_
    refine sv_iconst (pc := 59) G dX0_enter_59 3 ic_3 ?_
    obtain ⟨s_10, h⟩ := h
    refine sv_iastK (pc := 60) G (hL.cA5 ha) s_10 (g_9 a 8).toNatClampNeg rfl dX0_enter_60 (fun g_11 eg_11 => ?_)
    have h := h g_11 eg_11
    refine sv_aload_n (pc := 61) G dX0_enter_61 0 rfl ?_
    refine sv_getR (pc := 62) G fw_X0_27 (hL.cS ha) rfl (hL.cR6 ha) dX0_enter_62 ?_
    refine sv_aload_n (pc := 65) G dX0_enter_65 0 rfl ?_
    refine sv_getI (pc := 66) G fw_X0_33 (hL.cS ha) rfl dX0_enter_66 ?_
    refine sv_iconst (pc := 69) G dX0_enter_69 (-1) ic_m1 ?_
    obtain ⟨s_12, h⟩ := h
    refine sv_iastK (pc := 70) G (hL.cA6 ha) s_12 (g_11 a 8).toNatClampNeg rfl dX0_enter_70 (fun g_13 eg_13 => ?_)
    have h := h g_13 eg_13
    refine sv_aload_n (pc := 71) G dX0_enter_71 0 rfl ?_
    refine sv_getR (pc := 72) G fw_X0_30 (hL.cS ha) rfl (hL.cR7 ha) dX0_enter_72 ?_
    refine sv_aload_n (pc := 75) G dX0_enter_75 0 rfl ?_
    refine sv_getI (pc := 76) G fw_X0_33 (hL.cS ha) rfl dX0_enter_76 ?_
    refine sv_iconst (pc := 79) G dX0_enter_79 0 ic_0 ?_
    obtain ⟨s_14, h⟩ := h
    refine sv_iastK (pc := 80) G (hL.cA7 ha) s_14 (g_13 a 8).toNatClampNeg rfl dX0_enter_80 (fun g_15 eg_15 => ?_)
    have h := h g_15 eg_15
    refine sv_aload_n (pc := 81) G dX0_enter_81 0 rfl ?_
    refine sv_dup (pc := 82) G dX0_enter_82 rfl ?_
    refine sv_getI (pc := 83) G fw_X0_33 (hL.cS ha) rfl dX0_enter_83 ?_
    refine sv_iconst (pc := 86) G dX0_enter_86 1 ic_1 ?_
    refine sv_iadd (pc := 87) G dX0_enter_87 ?_
    refine sv_putI (pc := 88) G fw_X0_33 (hL.cS ha) rfl dX0_enter_88 (fun g_16 eg_16 => ?_)
    have h := h g_16 eg_16
    exact sv_vreturn (pc := 91) G T ⟨(Nat.le_of_ble_eq_true rfl), (Nat.le_of_ble_eq_true rfl)⟩ dX0_enter_91 ⟨rfl, rfl, h⟩
  · have h := h.2 c_1
    exact sv_vreturn (pc := 9) G T ⟨(Nat.le_of_ble_eq_true rfl), (Nat.le_of_ble_eq_true rfl)⟩ dX0_enter_9 ⟨rfl, rfl, h⟩
def wp_X0_draw (F : sv_Fr) (a : Nat) (g : sv_Mg) (Q : Int32 → sv_Mg → Prop) : Prop := ∀ g_1, g_1 = sv_st g a 16 (((g a 16) * 1103515245) + 12345) → Q ((((g_1 a 16) : Int32).toUInt32 >>> ((8 : Int32).toUInt32 &&& Int32.toUInt32 31)).toInt32) g_1
set_option maxRecDepth 100000 in
set_option maxHeartbeats 4000000 in
theorem c_X0_draw {b : Nat} {xt : sv_Xt} {F : sv_Fr} {a : Nat} {g : sv_Mg} {Q : Int32 → sv_Mg → Prop} (hL : sv_Lay F) (ha : sv_isC a) (h : wp_X0_draw F a g Q) : sv_Cal yX0_draw cX0_draw 1 (some .int) 0 0 0 0 b xt [.ref (b + a)] F g (sv_qI F Q) := by
  refine sv_intro mw_X0_draw [(0, .ref (b + a))] rfl (Nat.le_of_ble_eq_true rfl) (fun x G RR T NM => ?_)
  have G : sv_G x b xt RX0 cX0_draw 1 := G
  unfold wp_X0_draw at h
  refine sv_aload_n (pc := 0) G dX0_draw_0 0 rfl ?_
  refine sv_aload_n (pc := 1) G dX0_draw_1 0 rfl ?_
  refine sv_getI (pc := 2) G fw_X0_58 (hL.cS ha) rfl dX0_draw_2 ?_
  refine sv_ldc (pc := 5) G dX0_draw_5 cn_X0_85 ?_
  refine sv_imul (pc := 7) G dX0_draw_7 ?_
  refine sv_sipush (pc := 8) G dX0_draw_8 12345 sp_12345 ?_
  refine sv_iadd (pc := 11) G dX0_draw_11 ?_
  refine sv_putI (pc := 12) G fw_X0_58 (hL.cS ha) rfl dX0_draw_12 (fun g_1 eg_1 => ?_)
  have h := h g_1 eg_1
  refine sv_aload_n (pc := 15) G dX0_draw_15 0 rfl ?_
  refine sv_getI (pc := 16) G fw_X0_58 (hL.cS ha) rfl dX0_draw_16 ?_
  refine sv_bipush (pc := 19) G dX0_draw_19 8 bp_8 ?_
  refine sv_iushr (pc := 21) G dX0_draw_21 ?_
  exact sv_ireturn (pc := 22) G T ⟨(Nat.le_of_ble_eq_true rfl), (Nat.le_of_ble_eq_true rfl)⟩ dX0_draw_22 ⟨_, rfl, rfl, h⟩
def wp_X0_enterDrawn (F : sv_Fr) (a : Nat) (g : sv_Mg) (Q : sv_Mg → Prop) : Prop := wp_X0_draw F a g (fun r_2 g_1 => ∀ v1_3 : Int32, v1_3 = (r_2 - r_2 / 6 * 6) → wp_X0_draw F a g_1 (fun r_5 g_4 => ∀ v2_6 : Int32, v2_6 = (r_5 - r_5 / 10 * 10) → wp_X0_draw F a g_4 (fun r_8 g_7 => ∀ v3_9 : Int32, v3_9 = (r_8 - r_8 / 4 * 4) → wp_X0_draw F a g_7 (fun r_11 g_10 => ∀ v4_12 : Int32, v4_12 = (r_11 - r_11 / 100 * 100) → wp_X0_enter F a v1_3 v2_6 v3_9 v4_12 g_10 (fun g_13 => Q g_13)))))
set_option maxRecDepth 100000 in
set_option maxHeartbeats 4000000 in
theorem c_X0_enterDrawn {b : Nat} {xt : sv_Xt} {F : sv_Fr} {a : Nat} {g : sv_Mg} {Q : sv_Mg → Prop} (hL : sv_Lay F) (ha : sv_isC a) (h : wp_X0_enterDrawn F a g Q) : sv_Cal yX0_enterDrawn cX0_enterDrawn 5 none 1 24 0 0 b xt [.ref (b + a)] F g (sv_qV F Q) := by
  refine sv_intro mw_X0_enterDrawn [(0, .ref (b + a))] rfl (Nat.le_of_ble_eq_true rfl) (fun x G RR T NM => ?_)
  have G : sv_G x b xt RX0 cX0_enterDrawn 5 := G
  unfold wp_X0_enterDrawn at h
  refine sv_aload_n (pc := 0) G dX0_enterDrawn_0 0 rfl ?_
  refine sv_callV (cs := 0) (sl := 0) (st := []) (As := []) (a := a) (pc := 1) G RR (c_X0_draw hL ha h) mw_X0_draw lk_X0_77 (hL.cS ha) (by decide) rfl rfl ⟨(Nat.le_of_ble_eq_true rfl), (Nat.le_of_ble_eq_true rfl)⟩ ⟨(Nat.le_of_ble_eq_true rfl), (Nat.le_of_ble_eq_true rfl)⟩ (Nat.le_of_ble_eq_true rfl) rfl dX0_enterDrawn_1 (sv_kI (fun r_2 g_1 h => ?_))
  refine sv_bipush (pc := 4) G dX0_enterDrawn_4 6 bp_6 ?_
  refine sv_irem (pc := 6) G dX0_enterDrawn_6 (by decide) ?_
  refine sv_topi (fun v1_3 ev1_3 => ?_)
  have h := h v1_3 ev1_3
  refine sv_istore_n (pc := 7) G dX0_enterDrawn_7 [(1, .int v1_3), (0, .ref (b + a))] (by decide) rfl ?_
  refine sv_aload_n (pc := 8) G dX0_enterDrawn_8 1 rfl ?_
  refine sv_callV (cs := 0) (sl := 0) (st := []) (As := []) (a := a) (pc := 9) G RR (c_X0_draw hL ha h) mw_X0_draw lk_X0_77 (hL.cS ha) (by decide) rfl rfl ⟨(Nat.le_of_ble_eq_true rfl), (Nat.le_of_ble_eq_true rfl)⟩ ⟨(Nat.le_of_ble_eq_true rfl), (Nat.le_of_ble_eq_true rfl)⟩ (Nat.le_of_ble_eq_true rfl) rfl dX0_enterDrawn_9 (sv_kI (fun r_5 g_4 h => ?_))
  refine sv_bipush (pc := 12) G dX0_enterDrawn_12 10 bp_10 ?_
  refine sv_irem (pc := 14) G dX0_enterDrawn_14 (by decide) ?_
  refine sv_topi (fun v2_6 ev2_6 => ?_)
  have h := h v2_6 ev2_6
  refine sv_istore_n (pc := 15) G dX0_enterDrawn_15 [(2, .int v2_6), (1, .int v1_3), (0, .ref (b + a))] (by decide) rfl ?_
  refine sv_aload_n (pc := 16) G dX0_enterDrawn_16 2 rfl ?_
  refine sv_callV (cs := 0) (sl := 0) (st := []) (As := []) (a := a) (pc := 17) G RR (c_X0_draw hL ha h) mw_X0_draw lk_X0_77 (hL.cS ha) (by decide) rfl rfl ⟨(Nat.le_of_ble_eq_true rfl), (Nat.le_of_ble_eq_true rfl)⟩ ⟨(Nat.le_of_ble_eq_true rfl), (Nat.le_of_ble_eq_true rfl)⟩ (Nat.le_of_ble_eq_true rfl) rfl dX0_enterDrawn_17 (sv_kI (fun r_8 g_7 h => ?_))
  refine sv_iconst (pc := 20) G dX0_enterDrawn_20 4 ic_4 ?_
  refine sv_irem (pc := 21) G dX0_enterDrawn_21 (by decide) ?_
  refine sv_topi (fun v3_9 ev3_9 => ?_)
  have h := h v3_9 ev3_9
  refine sv_istore_n (pc := 22) G dX0_enterDrawn_22 [(3, .int v3_9), (2, .int v2_6), (1, .int v1_3), (0, .ref (b + a))] (by decide) rfl ?_
  refine sv_aload_n (pc := 23) G dX0_enterDrawn_23 3 rfl ?_
  refine sv_callV (cs := 0) (sl := 0) (st := []) (As := []) (a := a) (pc := 24) G RR (c_X0_draw hL ha h) mw_X0_draw lk_X0_77 (hL.cS ha) (by decide) rfl rfl ⟨(Nat.le_of_ble_eq_true rfl), (Nat.le_of_ble_eq_true rfl)⟩ ⟨(Nat.le_of_ble_eq_true rfl), (Nat.le_of_ble_eq_true rfl)⟩ (Nat.le_of_ble_eq_true rfl) rfl dX0_enterDrawn_24 (sv_kI (fun r_11 g_10 h => ?_))
  refine sv_bipush (pc := 27) G dX0_enterDrawn_27 100 bp_100 ?_
  refine sv_irem (pc := 29) G dX0_enterDrawn_29 (by decide) ?_
  refine sv_topi (fun v4_12 ev4_12 => ?_)
  have h := h v4_12 ev4_12
  refine sv_istore (pc := 30) G dX0_enterDrawn_30 [(4, .int v4_12), (3, .int v3_9), (2, .int v2_6), (1, .int v1_3), (0, .ref (b + a))] (by decide) rfl ?_
  refine sv_aload_n (pc := 32) G dX0_enterDrawn_32 4 rfl ?_
  refine sv_iload_n (pc := 33) G dX0_enterDrawn_33 3 rfl ?_
  refine sv_iload_n (pc := 34) G dX0_enterDrawn_34 2 rfl ?_
  refine sv_iload_n (pc := 35) G dX0_enterDrawn_35 1 rfl ?_
  refine sv_iload (pc := 36) G dX0_enterDrawn_36 0 rfl ?_
  refine sv_callV (cs := 0) (sl := 0) (st := []) (As := [.int v1_3, .int v2_6, .int v3_9, .int v4_12]) (a := a) (pc := 38) G RR (c_X0_enter hL ha h) mw_X0_enter lk_X0_81 (hL.cS ha) (by decide) rfl rfl ⟨(Nat.le_of_ble_eq_true rfl), (Nat.le_of_ble_eq_true rfl)⟩ ⟨(Nat.le_of_ble_eq_true rfl), (Nat.le_of_ble_eq_true rfl)⟩ (Nat.le_of_ble_eq_true rfl) rfl dX0_enterDrawn_38 (sv_kV (fun g_13 h => ?_))
  exact sv_vreturn (pc := 41) G T ⟨(Nat.le_of_ble_eq_true rfl), (Nat.le_of_ble_eq_true rfl)⟩ dX0_enterDrawn_41 ⟨rfl, rfl, h⟩
def wp_J7_fill_53178_5 (F : sv_Fr) (a0 : Nat) (n0 : Nat) (Q : sv_Mg → Prop) : Nat → Int32 → Int32 → Int32 → sv_Mg → Prop
  | 0, _, _, _, _ => False
  | n + 1, v1, v2, v3, g => ((v3 ≤ v2 → Q g) ∧ (¬ v3 ≤ v2 → vp_in v2 n0 ∧ ∀ g_3, g_3 = sv_st g a0 v2.toNatClampNeg v1 → ∀ v2_4 : Int32, v2_4 = v2 + 1 → (wp_J7_fill_53178_5 F a0 n0 Q  n) v1 v2_4 v3 g_3))
def wp_J7_fill_53178 (F : sv_Fr) (a0 : Nat) (n0 : Nat) (v1 : Int32) (g : sv_Mg) (Q : sv_Mg → Prop) : Prop := ∀ v3_5 : Int32, v3_5 = (nI n0) → ∃ n_6, wp_J7_fill_53178_5 F a0 n0 Q  n_6 v1 0 v3_5 g
set_option maxRecDepth 100000 in
set_option maxHeartbeats 4000000 in
theorem aw_J7_fill_53178_5 {x : sv_X} {b : Nat} {xt : sv_Xt} {F : sv_Fr} {a0 : Nat} {n0 : Nat} {Q : sv_Mg → Prop} (G : sv_G x b xt RJ7 cJ7_fill_53178 4) (RR : sv_R x 0 0 0 0) (T : sv_RT x none) (hL : sv_Lay F) (ha0 : F.1[a0]? = some (10, n0)) : ∀ (n : Nat) (v1 : Int32) (v2 : Int32) (v3 : Int32) (g : sv_Mg), wp_J7_fill_53178_5 F a0 n0 Q  n v1 v2 v3 g → sv_AW x (sv_Q x (sv_qV F Q) 0 0) F g 0 0 5 [(0, .ref (b + a0)), (1, .int v1), (2, .int v2), (3, .int v3)] [] := by
  intro n
  induction n with
  | zero => intro v1 v2 v3 g h; exact h.elim
  | succ n ih =>
    intro v1 v2 v3 g h
    rw [wp_J7_fill_53178_5] at h
    refine sv_iload_n (pc := 5) G dJ7_fill_53178_5 2 rfl ?_
    refine sv_iload_n (pc := 6) G dJ7_fill_53178_6 3 rfl ?_
    refine sv_ic_ge (pc := 7) G 20 (by decide) dJ7_fill_53178_7 (fun c_1 => ?_) (fun c_1 => ?_)
    · have h := h.1 c_1
      exact sv_vreturn (pc := 20) G T ⟨(Nat.le_of_ble_eq_true rfl), (Nat.le_of_ble_eq_true rfl)⟩ dJ7_fill_53178_20 ⟨rfl, rfl, h⟩
    · have h := h.2 c_1
      refine sv_aload_n (pc := 10) G dJ7_fill_53178_10 0 rfl ?_
      refine sv_iload_n (pc := 11) G dJ7_fill_53178_11 2 rfl ?_
      refine sv_iload_n (pc := 12) G dJ7_fill_53178_12 1 rfl ?_
      obtain ⟨s_2, h⟩ := h
      refine sv_iastK (pc := 13) G ha0 s_2 v2.toNatClampNeg rfl dJ7_fill_53178_13 (fun g_3 eg_3 => ?_)
      have h := h g_3 eg_3
      obtain ⟨v2_4, ev2_4⟩ : ∃ y : Int32, y = v2 + 1 := ⟨_, rfl⟩
      have h := h v2_4 ev2_4
      refine sv_iinc (pc := 14) G dJ7_fill_53178_14 2 v2_4 [(2, .int v2_4), (0, .ref (b + a0)), (1, .int v1), (3, .int v3)] (by rw [ev2_4, ic_1]) rfl (by decide) rfl ?_
      refine sv_goto (pc := 17) G dJ7_fill_53178_17 5 (by decide) ?_
      refine sv_locs [1, 2, 0, 3] [(0, .ref (b + a0)), (1, .int v1), (2, .int v2_4), (3, .int v3)] rfl ?_
      exact ih v1 v2_4 v3 g_3  h
set_option maxRecDepth 100000 in
set_option maxHeartbeats 4000000 in
theorem c_J7_fill_53178 {b : Nat} {xt : sv_Xt} {F : sv_Fr} {a0 : Nat} {n0 : Nat} {v1 : Int32} {g : sv_Mg} {Q : sv_Mg → Prop} (hL : sv_Lay F) (ha0 : F.1[a0]? = some (10, n0)) (h : wp_J7_fill_53178 F a0 n0 v1 g Q) : sv_Cal yJ7_fill_53178 cJ7_fill_53178 4 none 0 0 0 0 b xt [.ref (b + a0), .int v1] F g (sv_qV F Q) := by
  refine sv_intro mw_J7_fill_53178 [(0, .ref (b + a0)), (1, .int v1)] rfl (Nat.le_of_ble_eq_true rfl) (fun x G RR T NM => ?_)
  have G : sv_G x b xt RJ7 cJ7_fill_53178 4 := G
  unfold wp_J7_fill_53178 at h
  refine sv_iconst (pc := 0) G dJ7_fill_53178_0 0 ic_0 ?_
  refine sv_istore_n (pc := 1) G dJ7_fill_53178_1 [(2, .int 0), (0, .ref (b + a0)), (1, .int v1)] (by decide) rfl ?_
  refine sv_aload_n (pc := 2) G dJ7_fill_53178_2 1 rfl ?_
  refine sv_alen (pc := 3) G ha0 dJ7_fill_53178_3 ?_
  refine sv_topi (fun v3_5 ev3_5 => ?_)
  have h := h v3_5 ev3_5
  refine sv_istore_n (pc := 4) G dJ7_fill_53178_4 [(3, .int v3_5), (2, .int 0), (0, .ref (b + a0)), (1, .int v1)] (by decide) rfl ?_
  refine sv_locs [2, 3, 1, 0] [(0, .ref (b + a0)), (1, .int v1), (2, .int 0), (3, .int v3_5)] rfl ?_
  obtain ⟨n_6, h⟩ := h
  exact aw_J7_fill_53178_5 G RR T hL ha0  n_6 v1 0 v3_5 g  h
def wp_X0_startOver (F : sv_Fr) (a : Nat) (g : sv_Mg) (Q : sv_Mg → Prop) : Prop := ∀ g_1, g_1 = sv_st g a 13 (-1) → ∀ g_2, g_2 = sv_st g_1 a 14 0 → ∀ g_3, g_3 = sv_st g_2 a 17 3 → wp_J7_fill_53178 F (a + 6) 10 (-1) g_3 (fun g_4 => wp_J7_fill_53178 F (a + 7) 10 0 g_4 (fun g_5 => Q g_5))
set_option maxRecDepth 100000 in
set_option maxHeartbeats 4000000 in
theorem c_X0_startOver {b : Nat} {xt : sv_Xt} {F : sv_Fr} {a : Nat} {g : sv_Mg} {Q : sv_Mg → Prop} (hL : sv_Lay F) (ha : sv_isC a) (h : wp_X0_startOver F a g Q) : sv_Cal yX0_startOver cX0_startOver 1 none 1 23 0 0 b xt [.ref (b + a)] F g (sv_qV F Q) := by
  refine sv_intro mw_X0_startOver [(0, .ref (b + a))] rfl (Nat.le_of_ble_eq_true rfl) (fun x G RR T NM => ?_)
  have G : sv_G x b xt RX0 cX0_startOver 1 := G
  unfold wp_X0_startOver at h
  refine sv_aload_n (pc := 0) G dX0_startOver_0 0 rfl ?_
  refine sv_iconst (pc := 1) G dX0_startOver_1 (-1) ic_m1 ?_
  refine sv_putI (pc := 2) G fw_X0_49 (hL.cS ha) rfl dX0_startOver_2 (fun g_1 eg_1 => ?_)
  have h := h g_1 eg_1
  refine sv_aload_n (pc := 5) G dX0_startOver_5 0 rfl ?_
  refine sv_iconst (pc := 6) G dX0_startOver_6 0 ic_0 ?_
  refine sv_putI (pc := 7) G fw_X0_52 (hL.cS ha) rfl dX0_startOver_7 (fun g_2 eg_2 => ?_)
  have h := h g_2 eg_2
  refine sv_aload_n (pc := 10) G dX0_startOver_10 0 rfl ?_
  refine sv_iconst (pc := 11) G dX0_startOver_11 3 ic_3 ?_
  refine sv_putI (pc := 12) G fw_X0_61 (hL.cS ha) rfl dX0_startOver_12 (fun g_3 eg_3 => ?_)
  have h := h g_3 eg_3
  refine sv_aload_n (pc := 15) G dX0_startOver_15 0 rfl ?_
  refine sv_getR (pc := 16) G fw_X0_27 (hL.cS ha) rfl (hL.cR6 ha) dX0_startOver_16 ?_
  refine sv_iconst (pc := 19) G dX0_startOver_19 (-1) ic_m1 ?_
  refine sv_callS (cs := 0) (sl := 0) (st := []) (As := [.ref (b + (a + 6)), .int (-1)]) (pc := 20) G RR (c_J7_fill_53178 hL (hL.cA6 ha) h) mw_J7_fill_53178 lk_X0_86 rfl ⟨(Nat.le_of_ble_eq_true rfl), (Nat.le_of_ble_eq_true rfl)⟩ ⟨(Nat.le_of_ble_eq_true rfl), (Nat.le_of_ble_eq_true rfl)⟩ (Nat.le_of_ble_eq_true rfl) rfl dX0_startOver_20 (sv_kV (fun g_4 h => ?_))
  refine sv_aload_n (pc := 23) G dX0_startOver_23 0 rfl ?_
  refine sv_getR (pc := 24) G fw_X0_30 (hL.cS ha) rfl (hL.cR7 ha) dX0_startOver_24 ?_
  refine sv_iconst (pc := 27) G dX0_startOver_27 0 ic_0 ?_
  refine sv_callS (cs := 0) (sl := 0) (st := []) (As := [.ref (b + (a + 7)), .int 0]) (pc := 28) G RR (c_J7_fill_53178 hL (hL.cA7 ha) h) mw_J7_fill_53178 lk_X0_86 rfl ⟨(Nat.le_of_ble_eq_true rfl), (Nat.le_of_ble_eq_true rfl)⟩ ⟨(Nat.le_of_ble_eq_true rfl), (Nat.le_of_ble_eq_true rfl)⟩ (Nat.le_of_ble_eq_true rfl) rfl dX0_startOver_28 (sv_kV (fun g_5 h => ?_))
  exact sv_vreturn (pc := 31) G T ⟨(Nat.le_of_ble_eq_true rfl), (Nat.le_of_ble_eq_true rfl)⟩ dX0_startOver_31 ⟨rfl, rfl, h⟩
def wp_X0_convince_28 (F : sv_Fr) (a : Nat) (Q : sv_Mg → Prop) (K2 : Int32 → Int32 → sv_Mg → Prop) (v1 : Int32) (v2 : Int32) (g : sv_Mg) : Prop := ∀ v2_1 : Int32, v2_1 = v2 + 1 → K2 v1 v2_1 g
def wp_X0_convince_2 (F : sv_Fr) (a : Nat) (Q : sv_Mg → Prop) : Nat → Int32 → Int32 → sv_Mg → Prop
  | 0, _, _, _ => False
  | n + 1, v1, v2, g => (((g a 8) ≤ v2 → Q g) ∧ (¬ (g a 8) ≤ v2 → vp_in v2 10 ∧ (((g (a + 3) v2.toNatClampNeg) = v1 → vp_in v2 10 ∧ ∀ g_6, g_6 = sv_st g (a + 4) v2.toNatClampNeg 99 → wp_X0_convince_28 F a Q (wp_X0_convince_2 F a Q  n) v1 v2 g_6) ∧ (¬ (g (a + 3) v2.toNatClampNeg) = v1 → wp_X0_convince_28 F a Q (wp_X0_convince_2 F a Q  n) v1 v2 g))))
def wp_X0_convince (F : sv_Fr) (a : Nat) (v1 : Int32) (g : sv_Mg) (Q : sv_Mg → Prop) : Prop := ∃ n_7, wp_X0_convince_2 F a Q  n_7 v1 0 g
set_option maxRecDepth 100000 in
set_option maxHeartbeats 4000000 in
theorem aw_X0_convince_28 {x : sv_X} {b : Nat} {xt : sv_Xt} {F : sv_Fr} {a : Nat} {Q : sv_Mg → Prop} (G : sv_G x b xt RX0 cX0_convince 3) (RR : sv_R x 0 0 0 0) (T : sv_RT x none) (hL : sv_Lay F) (ha : sv_isC a) {K2 : Int32 → Int32 → sv_Mg → Prop} (hK2 : ∀ (v1 : Int32) (v2 : Int32) (g : sv_Mg), K2 v1 v2 g → sv_AW x (sv_Q x (sv_qV F Q) 0 0) F g 0 0 2 [(0, .ref (b + a)), (1, .int v1), (2, .int v2)] []) : ∀ (v1 : Int32) (v2 : Int32) (g : sv_Mg), wp_X0_convince_28 F a Q K2 v1 v2 g → sv_AW x (sv_Q x (sv_qV F Q) 0 0) F g 0 0 28 [(0, .ref (b + a)), (1, .int v1), (2, .int v2)] [] := by
  intro v1 v2 g h
  unfold wp_X0_convince_28 at h
  obtain ⟨v2_1, ev2_1⟩ : ∃ y : Int32, y = v2 + 1 := ⟨_, rfl⟩
  have h := h v2_1 ev2_1
  refine sv_iinc (pc := 28) G dX0_convince_28 2 v2_1 [(2, .int v2_1), (0, .ref (b + a)), (1, .int v1)] (by rw [ev2_1, ic_1]) rfl (by decide) rfl ?_
  refine sv_goto (pc := 31) G dX0_convince_31 2 (by decide) ?_
  refine sv_locs [1, 2, 0] [(0, .ref (b + a)), (1, .int v1), (2, .int v2_1)] rfl ?_
  exact hK2 v1 v2_1 g  h
set_option maxRecDepth 100000 in
set_option maxHeartbeats 4000000 in
theorem aw_X0_convince_2 {x : sv_X} {b : Nat} {xt : sv_Xt} {F : sv_Fr} {a : Nat} {Q : sv_Mg → Prop} (G : sv_G x b xt RX0 cX0_convince 3) (RR : sv_R x 0 0 0 0) (T : sv_RT x none) (hL : sv_Lay F) (ha : sv_isC a) : ∀ (n : Nat) (v1 : Int32) (v2 : Int32) (g : sv_Mg), wp_X0_convince_2 F a Q  n v1 v2 g → sv_AW x (sv_Q x (sv_qV F Q) 0 0) F g 0 0 2 [(0, .ref (b + a)), (1, .int v1), (2, .int v2)] [] := by
  intro n
  induction n with
  | zero => intro v1 v2 g h; exact h.elim
  | succ n ih =>
    intro v1 v2 g h
    rw [wp_X0_convince_2] at h
    refine sv_iload_n (pc := 2) G dX0_convince_2 2 rfl ?_
    refine sv_aload_n (pc := 3) G dX0_convince_3 0 rfl ?_
    refine sv_getI (pc := 4) G fw_X0_33 (hL.cS ha) rfl dX0_convince_4 ?_
    refine sv_ic_ge (pc := 7) G 34 (by decide) dX0_convince_7 (fun c_2 => ?_) (fun c_2 => ?_)
    · have h := h.1 c_2
      exact sv_vreturn (pc := 34) G T ⟨(Nat.le_of_ble_eq_true rfl), (Nat.le_of_ble_eq_true rfl)⟩ dX0_convince_34 ⟨rfl, rfl, h⟩
    · have h := h.2 c_2
      refine sv_aload_n (pc := 10) G dX0_convince_10 0 rfl ?_
      refine sv_getR (pc := 11) G fw_X0_18 (hL.cS ha) rfl (hL.cR3 ha) dX0_convince_11 ?_
      refine sv_iload_n (pc := 14) G dX0_convince_14 2 rfl ?_
      obtain ⟨s_3, h⟩ := h
      refine sv_ialdK (pc := 15) G (hL.cA3 ha) s_3 v2.toNatClampNeg rfl dX0_convince_15 ?_
      refine sv_iload_n (pc := 16) G dX0_convince_16 1 rfl ?_
      refine sv_ic_ne (pc := 17) G 28 (by decide) dX0_convince_17 (fun c_4 => ?_) (fun c_4 => ?_)
      · have h := h.2 c_4
        refine sv_locs [0, 1, 2] [(0, .ref (b + a)), (1, .int v1), (2, .int v2)] rfl ?_
        exact aw_X0_convince_28 G RR T hL ha ih v1 v2 g  h
      · have h := h.1 c_4
        refine sv_aload_n (pc := 20) G dX0_convince_20 0 rfl ?_
        refine sv_getR (pc := 21) G fw_X0_21 (hL.cS ha) rfl (hL.cR4 ha) dX0_convince_21 ?_
        refine sv_iload_n (pc := 24) G dX0_convince_24 2 rfl ?_
        refine sv_bipush (pc := 25) G dX0_convince_25 99 bp_99 ?_
        obtain ⟨s_5, h⟩ := h
        refine sv_iastK (pc := 27) G (hL.cA4 ha) s_5 v2.toNatClampNeg rfl dX0_convince_27 (fun g_6 eg_6 => ?_)
        have h := h g_6 eg_6
        refine sv_locs [0, 1, 2] [(0, .ref (b + a)), (1, .int v1), (2, .int v2)] rfl ?_
        exact aw_X0_convince_28 G RR T hL ha ih v1 v2 g_6  h
set_option maxRecDepth 100000 in
set_option maxHeartbeats 4000000 in
theorem c_X0_convince {b : Nat} {xt : sv_Xt} {F : sv_Fr} {a : Nat} {v1 : Int32} {g : sv_Mg} {Q : sv_Mg → Prop} (hL : sv_Lay F) (ha : sv_isC a) (h : wp_X0_convince F a v1 g Q) : sv_Cal yX0_convince cX0_convince 3 none 0 0 0 0 b xt [.ref (b + a), .int v1] F g (sv_qV F Q) := by
  refine sv_intro mw_X0_convince [(0, .ref (b + a)), (1, .int v1)] rfl (Nat.le_of_ble_eq_true rfl) (fun x G RR T NM => ?_)
  have G : sv_G x b xt RX0 cX0_convince 3 := G
  unfold wp_X0_convince at h
  refine sv_iconst (pc := 0) G dX0_convince_0 0 ic_0 ?_
  refine sv_istore_n (pc := 1) G dX0_convince_1 [(2, .int 0), (0, .ref (b + a)), (1, .int v1)] (by decide) rfl ?_
  refine sv_locs [1, 2, 0] [(0, .ref (b + a)), (1, .int v1), (2, .int 0)] rfl ?_
  obtain ⟨n_7, h⟩ := h
  exact aw_X0_convince_2 G RR T hL ha  n_7 v1 0 g  h
def wp_X0_choiceOfPlain (F : sv_Fr) (a : Nat) (v1 : Int32) (v2 : Int32) (v3 : Int32) (g : sv_Mg) (Q : Int32 → sv_Mg → Prop) : Prop := vp_in v1 10 ∧ ((((v2 >>> ((g (a + 2) v1.toNatClampNeg) &&& 31)) &&& 1) = 1 → vp_in v1 10 ∧ Q (g (a + 2) v1.toNatClampNeg) g) ∧ (¬ ((v2 >>> ((g (a + 2) v1.toNatClampNeg) &&& 31)) &&& 1) = 1 → Q v3 g))
set_option maxRecDepth 100000 in
set_option maxHeartbeats 4000000 in
theorem c_X0_choiceOfPlain {b : Nat} {xt : sv_Xt} {F : sv_Fr} {a : Nat} {v1 : Int32} {v2 : Int32} {v3 : Int32} {g : sv_Mg} {Q : Int32 → sv_Mg → Prop} (hL : sv_Lay F) (ha : sv_isC a) (h : wp_X0_choiceOfPlain F a v1 v2 v3 g Q) : sv_Cal yX0_choiceOfPlain cX0_choiceOfPlain 4 (some .int) 0 0 0 0 b xt [.ref (b + a), .int v1, .int v2, .int v3] F g (sv_qI F Q) := by
  refine sv_intro mw_X0_choiceOfPlain [(0, .ref (b + a)), (1, .int v1), (2, .int v2), (3, .int v3)] rfl (Nat.le_of_ble_eq_true rfl) (fun x G RR T NM => ?_)
  have G : sv_G x b xt RX0 cX0_choiceOfPlain 4 := G
  unfold wp_X0_choiceOfPlain at h
  refine sv_iload_n (pc := 0) G dX0_choiceOfPlain_0 2 rfl ?_
  refine sv_aload_n (pc := 1) G dX0_choiceOfPlain_1 0 rfl ?_
  refine sv_getR (pc := 2) G fw_X0_15 (hL.cS ha) rfl (hL.cR2 ha) dX0_choiceOfPlain_2 ?_
  refine sv_iload_n (pc := 5) G dX0_choiceOfPlain_5 1 rfl ?_
  obtain ⟨s_1, h⟩ := h
  refine sv_ialdK (pc := 6) G (hL.cA2 ha) s_1 v1.toNatClampNeg rfl dX0_choiceOfPlain_6 ?_
  refine sv_ishr (pc := 7) G dX0_choiceOfPlain_7 ?_
  refine sv_iconst (pc := 8) G dX0_choiceOfPlain_8 1 ic_1 ?_
  refine sv_iand (pc := 9) G dX0_choiceOfPlain_9 ?_
  refine sv_iconst (pc := 10) G dX0_choiceOfPlain_10 1 ic_1 ?_
  refine sv_ic_ne (pc := 11) G 23 (by decide) dX0_choiceOfPlain_11 (fun c_2 => ?_) (fun c_2 => ?_)
  · have h := h.2 c_2
    refine sv_iload_n (pc := 23) G dX0_choiceOfPlain_23 3 rfl ?_
    exact sv_ireturn (pc := 24) G T ⟨(Nat.le_of_ble_eq_true rfl), (Nat.le_of_ble_eq_true rfl)⟩ dX0_choiceOfPlain_24 ⟨_, rfl, rfl, h⟩
  · have h := h.1 c_2
    refine sv_aload_n (pc := 14) G dX0_choiceOfPlain_14 0 rfl ?_
    refine sv_getR (pc := 15) G fw_X0_15 (hL.cS ha) rfl (hL.cR2 ha) dX0_choiceOfPlain_15 ?_
    refine sv_iload_n (pc := 18) G dX0_choiceOfPlain_18 1 rfl ?_
    obtain ⟨s_3, h⟩ := h
    refine sv_ialdK (pc := 19) G (hL.cA2 ha) s_3 v1.toNatClampNeg rfl dX0_choiceOfPlain_19 ?_
    refine sv_goto (pc := 20) G dX0_choiceOfPlain_20 24 (by decide) ?_
    exact sv_ireturn (pc := 24) G T ⟨(Nat.le_of_ble_eq_true rfl), (Nat.le_of_ble_eq_true rfl)⟩ dX0_choiceOfPlain_24 ⟨_, rfl, rfl, h⟩
def wp_X0_mostAmong_48 (F : sv_Fr) (a : Nat) (Q : Int32 → sv_Mg → Prop) (K7 : Int32 → Int32 → Int32 → Int32 → sv_Mg → Prop) (v1 : Int32) (v2 : Int32) (v3 : Int32) (v4 : Int32) (g : sv_Mg) : Prop := ∀ v4_1 : Int32, v4_1 = v4 + 1 → K7 v1 v2 v3 v4_1 g
def wp_X0_mostAmong_7 (F : sv_Fr) (a : Nat) (Q : Int32 → sv_Mg → Prop) : Nat → Int32 → Int32 → Int32 → Int32 → sv_Mg → Prop
  | 0, _, _, _, _, _ => False
  | n + 1, v1, v2, v3, v4, g => (((g a 8) ≤ v4 → Q v2 g) ∧ (¬ (g a 8) ≤ v4 → ((((v1 >>> (v4 &&& 31)) &&& 1) = 1 → vp_in v4 10 ∧ (((g (a + 7) v4.toNatClampNeg) ≤ v3 → wp_X0_mostAmong_48 F a Q (wp_X0_mostAmong_7 F a Q  n) v1 v2 v3 v4 g) ∧ (¬ (g (a + 7) v4.toNatClampNeg) ≤ v3 → vp_in v4 10 ∧ ∀ v3_7 : Int32, v3_7 = (g (a + 7) v4.toNatClampNeg) → wp_X0_mostAmong_48 F a Q (wp_X0_mostAmong_7 F a Q  n) v1 v4 v3_7 v4 g))) ∧ (¬ ((v1 >>> (v4 &&& 31)) &&& 1) = 1 → wp_X0_mostAmong_48 F a Q (wp_X0_mostAmong_7 F a Q  n) v1 v2 v3 v4 g))))
def wp_X0_mostAmong (F : sv_Fr) (a : Nat) (v1 : Int32) (g : sv_Mg) (Q : Int32 → sv_Mg → Prop) : Prop := ∃ n_8, wp_X0_mostAmong_7 F a Q  n_8 v1 (-1) (-1) 0 g
set_option maxRecDepth 100000 in
set_option maxHeartbeats 4000000 in
theorem aw_X0_mostAmong_48 {x : sv_X} {b : Nat} {xt : sv_Xt} {F : sv_Fr} {a : Nat} {Q : Int32 → sv_Mg → Prop} (G : sv_G x b xt RX0 cX0_mostAmong 5) (RR : sv_R x 0 0 0 0) (T : sv_RT x (some .int)) (hL : sv_Lay F) (ha : sv_isC a) {K7 : Int32 → Int32 → Int32 → Int32 → sv_Mg → Prop} (hK7 : ∀ (v1 : Int32) (v2 : Int32) (v3 : Int32) (v4 : Int32) (g : sv_Mg), K7 v1 v2 v3 v4 g → sv_AW x (sv_Q x (sv_qI F Q) 0 0) F g 0 0 7 [(0, .ref (b + a)), (1, .int v1), (2, .int v2), (3, .int v3), (4, .int v4)] []) : ∀ (v1 : Int32) (v2 : Int32) (v3 : Int32) (v4 : Int32) (g : sv_Mg), wp_X0_mostAmong_48 F a Q K7 v1 v2 v3 v4 g → sv_AW x (sv_Q x (sv_qI F Q) 0 0) F g 0 0 48 [(0, .ref (b + a)), (1, .int v1), (2, .int v2), (3, .int v3), (4, .int v4)] [] := by
  intro v1 v2 v3 v4 g h
  unfold wp_X0_mostAmong_48 at h
  obtain ⟨v4_1, ev4_1⟩ : ∃ y : Int32, y = v4 + 1 := ⟨_, rfl⟩
  have h := h v4_1 ev4_1
  refine sv_iinc (pc := 48) G dX0_mostAmong_48 4 v4_1 [(4, .int v4_1), (0, .ref (b + a)), (1, .int v1), (2, .int v2), (3, .int v3)] (by rw [ev4_1, ic_1]) rfl (by decide) rfl ?_
  refine sv_goto (pc := 51) G dX0_mostAmong_51 7 (by decide) ?_
  refine sv_locs [1, 2, 3, 4, 0] [(0, .ref (b + a)), (1, .int v1), (2, .int v2), (3, .int v3), (4, .int v4_1)] rfl ?_
  exact hK7 v1 v2 v3 v4_1 g  h
set_option maxRecDepth 100000 in
set_option maxHeartbeats 4000000 in
theorem aw_X0_mostAmong_7 {x : sv_X} {b : Nat} {xt : sv_Xt} {F : sv_Fr} {a : Nat} {Q : Int32 → sv_Mg → Prop} (G : sv_G x b xt RX0 cX0_mostAmong 5) (RR : sv_R x 0 0 0 0) (T : sv_RT x (some .int)) (hL : sv_Lay F) (ha : sv_isC a) : ∀ (n : Nat) (v1 : Int32) (v2 : Int32) (v3 : Int32) (v4 : Int32) (g : sv_Mg), wp_X0_mostAmong_7 F a Q  n v1 v2 v3 v4 g → sv_AW x (sv_Q x (sv_qI F Q) 0 0) F g 0 0 7 [(0, .ref (b + a)), (1, .int v1), (2, .int v2), (3, .int v3), (4, .int v4)] [] := by
  intro n
  induction n with
  | zero => intro v1 v2 v3 v4 g h; exact h.elim
  | succ n ih =>
    intro v1 v2 v3 v4 g h
    rw [wp_X0_mostAmong_7] at h
    refine sv_iload (pc := 7) G dX0_mostAmong_7 4 rfl ?_
    refine sv_aload_n (pc := 9) G dX0_mostAmong_9 0 rfl ?_
    refine sv_getI (pc := 10) G fw_X0_33 (hL.cS ha) rfl dX0_mostAmong_10 ?_
    refine sv_ic_ge (pc := 13) G 54 (by decide) dX0_mostAmong_13 (fun c_2 => ?_) (fun c_2 => ?_)
    · have h := h.1 c_2
      refine sv_iload_n (pc := 54) G dX0_mostAmong_54 2 rfl ?_
      exact sv_ireturn (pc := 55) G T ⟨(Nat.le_of_ble_eq_true rfl), (Nat.le_of_ble_eq_true rfl)⟩ dX0_mostAmong_55 ⟨_, rfl, rfl, h⟩
    · have h := h.2 c_2
      refine sv_iload_n (pc := 16) G dX0_mostAmong_16 1 rfl ?_
      refine sv_iload (pc := 17) G dX0_mostAmong_17 4 rfl ?_
      refine sv_ishr (pc := 19) G dX0_mostAmong_19 ?_
      refine sv_iconst (pc := 20) G dX0_mostAmong_20 1 ic_1 ?_
      refine sv_iand (pc := 21) G dX0_mostAmong_21 ?_
      refine sv_iconst (pc := 22) G dX0_mostAmong_22 1 ic_1 ?_
      refine sv_ic_ne (pc := 23) G 48 (by decide) dX0_mostAmong_23 (fun c_3 => ?_) (fun c_3 => ?_)
      · have h := h.2 c_3
        refine sv_locs [0, 1, 2, 3, 4] [(0, .ref (b + a)), (1, .int v1), (2, .int v2), (3, .int v3), (4, .int v4)] rfl ?_
        exact aw_X0_mostAmong_48 G RR T hL ha ih v1 v2 v3 v4 g  h
      · have h := h.1 c_3
        refine sv_aload_n (pc := 26) G dX0_mostAmong_26 0 rfl ?_
        refine sv_getR (pc := 27) G fw_X0_30 (hL.cS ha) rfl (hL.cR7 ha) dX0_mostAmong_27 ?_
        refine sv_iload (pc := 30) G dX0_mostAmong_30 4 rfl ?_
        obtain ⟨s_4, h⟩ := h
        refine sv_ialdK (pc := 32) G (hL.cA7 ha) s_4 v4.toNatClampNeg rfl dX0_mostAmong_32 ?_
        refine sv_iload_n (pc := 33) G dX0_mostAmong_33 3 rfl ?_
        refine sv_ic_le (pc := 34) G 48 (by decide) dX0_mostAmong_34 (fun c_5 => ?_) (fun c_5 => ?_)
        · have h := h.1 c_5
          refine sv_locs [0, 1, 2, 3, 4] [(0, .ref (b + a)), (1, .int v1), (2, .int v2), (3, .int v3), (4, .int v4)] rfl ?_
          exact aw_X0_mostAmong_48 G RR T hL ha ih v1 v2 v3 v4 g  h
        · have h := h.2 c_5
          refine sv_iload (pc := 37) G dX0_mostAmong_37 4 rfl ?_
          refine sv_istore_n (pc := 39) G dX0_mostAmong_39 [(2, .int v4), (0, .ref (b + a)), (1, .int v1), (3, .int v3), (4, .int v4)] (by decide) rfl ?_
          refine sv_aload_n (pc := 40) G dX0_mostAmong_40 1 rfl ?_
          refine sv_getR (pc := 41) G fw_X0_30 (hL.cS ha) rfl (hL.cR7 ha) dX0_mostAmong_41 ?_
          refine sv_iload (pc := 44) G dX0_mostAmong_44 4 rfl ?_
          obtain ⟨s_6, h⟩ := h
          refine sv_ialdK (pc := 46) G (hL.cA7 ha) s_6 v4.toNatClampNeg rfl dX0_mostAmong_46 ?_
          refine sv_topi (fun v3_7 ev3_7 => ?_)
          have h := h v3_7 ev3_7
          refine sv_istore_n (pc := 47) G dX0_mostAmong_47 [(3, .int v3_7), (2, .int v4), (0, .ref (b + a)), (1, .int v1), (4, .int v4)] (by decide) rfl ?_
          refine sv_locs [2, 3, 1, 0, 4] [(0, .ref (b + a)), (1, .int v1), (2, .int v4), (3, .int v3_7), (4, .int v4)] rfl ?_
          exact aw_X0_mostAmong_48 G RR T hL ha ih v1 v4 v3_7 v4 g  h
set_option maxRecDepth 100000 in
set_option maxHeartbeats 4000000 in
theorem c_X0_mostAmong {b : Nat} {xt : sv_Xt} {F : sv_Fr} {a : Nat} {v1 : Int32} {g : sv_Mg} {Q : Int32 → sv_Mg → Prop} (hL : sv_Lay F) (ha : sv_isC a) (h : wp_X0_mostAmong F a v1 g Q) : sv_Cal yX0_mostAmong cX0_mostAmong 5 (some .int) 0 0 0 0 b xt [.ref (b + a), .int v1] F g (sv_qI F Q) := by
  refine sv_intro mw_X0_mostAmong [(0, .ref (b + a)), (1, .int v1)] rfl (Nat.le_of_ble_eq_true rfl) (fun x G RR T NM => ?_)
  have G : sv_G x b xt RX0 cX0_mostAmong 5 := G
  unfold wp_X0_mostAmong at h
  refine sv_iconst (pc := 0) G dX0_mostAmong_0 (-1) ic_m1 ?_
  refine sv_istore_n (pc := 1) G dX0_mostAmong_1 [(2, .int (-1)), (0, .ref (b + a)), (1, .int v1)] (by decide) rfl ?_
  refine sv_iconst (pc := 2) G dX0_mostAmong_2 (-1) ic_m1 ?_
  refine sv_istore_n (pc := 3) G dX0_mostAmong_3 [(3, .int (-1)), (2, .int (-1)), (0, .ref (b + a)), (1, .int v1)] (by decide) rfl ?_
  refine sv_iconst (pc := 4) G dX0_mostAmong_4 0 ic_0 ?_
  refine sv_istore (pc := 5) G dX0_mostAmong_5 [(4, .int 0), (3, .int (-1)), (2, .int (-1)), (0, .ref (b + a)), (1, .int v1)] (by decide) rfl ?_
  refine sv_locs [3, 4, 2, 1, 0] [(0, .ref (b + a)), (1, .int v1), (2, .int (-1)), (3, .int (-1)), (4, .int 0)] rfl ?_
  obtain ⟨n_8, h⟩ := h
  exact aw_X0_mostAmong_7 G RR T hL ha  n_8 v1 (-1) (-1) 0 g  h
def wp_X0_choiceOfLoyal_40 (F : sv_Fr) (a : Nat) (Q : Int32 → sv_Mg → Prop) (K6 : Int32 → Int32 → Int32 → Int32 → Int32 → sv_Mg → Prop) (v1 : Int32) (v2 : Int32) (v3 : Int32) (v4 : Int32) (v5 : Int32) (g : sv_Mg) : Prop := ∀ v5_1 : Int32, v5_1 = v5 + 1 → K6 v1 v2 v3 v4 v5_1 g
def wp_X0_choiceOfLoyal_6 (F : sv_Fr) (a : Nat) (Q : Int32 → sv_Mg → Prop) : Nat → Int32 → Int32 → Int32 → Int32 → Int32 → sv_Mg → Prop
  | 0, _, _, _, _, _, _ => False
  | n + 1, v1, v2, v3, v4, v5, g => (((g a 8) ≤ v5 → wp_X0_mostAmong F a (v2 &&& v4) g (fun r_4 g_3 => ((r_4 = (-1) → wp_X0_choiceOfPlain F a v1 v2 v3 g_3 (fun r_7 g_6 => Q r_7 g_6)) ∧ (¬ r_4 = (-1) → Q r_4 g_3)))) ∧ (¬ (g a 8) ≤ v5 → vp_in v5 10 ∧ vp_in v1 10 ∧ (((g (a + 3) v5.toNatClampNeg) = (g (a + 3) v1.toNatClampNeg) → ∀ v4_11 : Int32, v4_11 = (v4 ||| (1 <<< (v5 &&& 31))) → wp_X0_choiceOfLoyal_40 F a Q (wp_X0_choiceOfLoyal_6 F a Q  n) v1 v2 v3 v4_11 v5 g) ∧ (¬ (g (a + 3) v5.toNatClampNeg) = (g (a + 3) v1.toNatClampNeg) → wp_X0_choiceOfLoyal_40 F a Q (wp_X0_choiceOfLoyal_6 F a Q  n) v1 v2 v3 v4 v5 g))))
def wp_X0_choiceOfLoyal (F : sv_Fr) (a : Nat) (v1 : Int32) (v2 : Int32) (v3 : Int32) (g : sv_Mg) (Q : Int32 → sv_Mg → Prop) : Prop := ∃ n_12, wp_X0_choiceOfLoyal_6 F a Q  n_12 v1 v2 v3 0 0 g
set_option maxRecDepth 100000 in
set_option maxHeartbeats 4000000 in
theorem aw_X0_choiceOfLoyal_40 {x : sv_X} {b : Nat} {xt : sv_Xt} {F : sv_Fr} {a : Nat} {Q : Int32 → sv_Mg → Prop} (G : sv_G x b xt RX0 cX0_choiceOfLoyal 6) (RR : sv_R x 1 24 0 0) (T : sv_RT x (some .int)) (hL : sv_Lay F) (ha : sv_isC a) {K6 : Int32 → Int32 → Int32 → Int32 → Int32 → sv_Mg → Prop} (hK6 : ∀ (v1 : Int32) (v2 : Int32) (v3 : Int32) (v4 : Int32) (v5 : Int32) (g : sv_Mg), K6 v1 v2 v3 v4 v5 g → sv_AW x (sv_Q x (sv_qI F Q) 0 0) F g 0 0 6 [(0, .ref (b + a)), (1, .int v1), (2, .int v2), (3, .int v3), (4, .int v4), (5, .int v5)] []) : ∀ (v1 : Int32) (v2 : Int32) (v3 : Int32) (v4 : Int32) (v5 : Int32) (g : sv_Mg), wp_X0_choiceOfLoyal_40 F a Q K6 v1 v2 v3 v4 v5 g → sv_AW x (sv_Q x (sv_qI F Q) 0 0) F g 0 0 40 [(0, .ref (b + a)), (1, .int v1), (2, .int v2), (3, .int v3), (4, .int v4), (5, .int v5)] [] := by
  intro v1 v2 v3 v4 v5 g h
  unfold wp_X0_choiceOfLoyal_40 at h
  obtain ⟨v5_1, ev5_1⟩ : ∃ y : Int32, y = v5 + 1 := ⟨_, rfl⟩
  have h := h v5_1 ev5_1
  refine sv_iinc (pc := 40) G dX0_choiceOfLoyal_40 5 v5_1 [(5, .int v5_1), (0, .ref (b + a)), (1, .int v1), (2, .int v2), (3, .int v3), (4, .int v4)] (by rw [ev5_1, ic_1]) rfl (by decide) rfl ?_
  refine sv_goto (pc := 43) G dX0_choiceOfLoyal_43 6 (by decide) ?_
  refine sv_locs [1, 2, 3, 4, 5, 0] [(0, .ref (b + a)), (1, .int v1), (2, .int v2), (3, .int v3), (4, .int v4), (5, .int v5_1)] rfl ?_
  exact hK6 v1 v2 v3 v4 v5_1 g  h
set_option maxRecDepth 100000 in
set_option maxHeartbeats 4000000 in
theorem aw_X0_choiceOfLoyal_6 {x : sv_X} {b : Nat} {xt : sv_Xt} {F : sv_Fr} {a : Nat} {Q : Int32 → sv_Mg → Prop} (G : sv_G x b xt RX0 cX0_choiceOfLoyal 6) (RR : sv_R x 1 24 0 0) (T : sv_RT x (some .int)) (hL : sv_Lay F) (ha : sv_isC a) : ∀ (n : Nat) (v1 : Int32) (v2 : Int32) (v3 : Int32) (v4 : Int32) (v5 : Int32) (g : sv_Mg), wp_X0_choiceOfLoyal_6 F a Q  n v1 v2 v3 v4 v5 g → sv_AW x (sv_Q x (sv_qI F Q) 0 0) F g 0 0 6 [(0, .ref (b + a)), (1, .int v1), (2, .int v2), (3, .int v3), (4, .int v4), (5, .int v5)] [] := by
  intro n
  induction n with
  | zero => intro v1 v2 v3 v4 v5 g h; exact h.elim
  | succ n ih =>
    intro v1 v2 v3 v4 v5 g h
    rw [wp_X0_choiceOfLoyal_6] at h
    refine sv_iload (pc := 6) G dX0_choiceOfLoyal_6 5 rfl ?_
    refine sv_aload_n (pc := 8) G dX0_choiceOfLoyal_8 0 rfl ?_
    refine sv_getI (pc := 9) G fw_X0_33 (hL.cS ha) rfl dX0_choiceOfLoyal_9 ?_
    refine sv_ic_ge (pc := 12) G 46 (by decide) dX0_choiceOfLoyal_12 (fun c_2 => ?_) (fun c_2 => ?_)
    · have h := h.1 c_2
      refine sv_aload_n (pc := 46) G dX0_choiceOfLoyal_46 0 rfl ?_
      refine sv_iload_n (pc := 47) G dX0_choiceOfLoyal_47 2 rfl ?_
      refine sv_iload (pc := 48) G dX0_choiceOfLoyal_48 4 rfl ?_
      refine sv_iand (pc := 50) G dX0_choiceOfLoyal_50 ?_
      refine sv_callV (cs := 0) (sl := 0) (st := []) (As := [.int (v2 &&& v4)]) (a := a) (pc := 51) G RR (c_X0_mostAmong hL ha h) mw_X0_mostAmong lk_X0_128 (hL.cS ha) (by decide) rfl rfl ⟨(Nat.le_of_ble_eq_true rfl), (Nat.le_of_ble_eq_true rfl)⟩ ⟨(Nat.le_of_ble_eq_true rfl), (Nat.le_of_ble_eq_true rfl)⟩ (Nat.le_of_ble_eq_true rfl) rfl dX0_choiceOfLoyal_51 (sv_kI (fun r_4 g_3 h => ?_))
      refine sv_istore (pc := 54) G dX0_choiceOfLoyal_54 [(5, .int r_4), (0, .ref (b + a)), (1, .int v1), (2, .int v2), (3, .int v3), (4, .int v4)] (by decide) rfl ?_
      refine sv_iload (pc := 56) G dX0_choiceOfLoyal_56 0 rfl ?_
      refine sv_iconst (pc := 58) G dX0_choiceOfLoyal_58 (-1) ic_m1 ?_
      refine sv_ic_ne (pc := 59) G 72 (by decide) dX0_choiceOfLoyal_59 (fun c_5 => ?_) (fun c_5 => ?_)
      · have h := h.2 c_5
        refine sv_iload (pc := 72) G dX0_choiceOfLoyal_72 0 rfl ?_
        exact sv_ireturn (pc := 74) G T ⟨(Nat.le_of_ble_eq_true rfl), (Nat.le_of_ble_eq_true rfl)⟩ dX0_choiceOfLoyal_74 ⟨_, rfl, rfl, h⟩
      · have h := h.1 c_5
        refine sv_aload_n (pc := 62) G dX0_choiceOfLoyal_62 1 rfl ?_
        refine sv_iload_n (pc := 63) G dX0_choiceOfLoyal_63 2 rfl ?_
        refine sv_iload_n (pc := 64) G dX0_choiceOfLoyal_64 3 rfl ?_
        refine sv_iload_n (pc := 65) G dX0_choiceOfLoyal_65 4 rfl ?_
        refine sv_callV (cs := 0) (sl := 0) (st := []) (As := [.int v1, .int v2, .int v3]) (a := a) (pc := 66) G RR (c_X0_choiceOfPlain hL ha h) mw_X0_choiceOfPlain lk_X0_137 (hL.cS ha) (by decide) rfl rfl ⟨(Nat.le_of_ble_eq_true rfl), (Nat.le_of_ble_eq_true rfl)⟩ ⟨(Nat.le_of_ble_eq_true rfl), (Nat.le_of_ble_eq_true rfl)⟩ (Nat.le_of_ble_eq_true rfl) rfl dX0_choiceOfLoyal_66 (sv_kI (fun r_7 g_6 h => ?_))
        refine sv_goto (pc := 69) G dX0_choiceOfLoyal_69 74 (by decide) ?_
        exact sv_ireturn (pc := 74) G T ⟨(Nat.le_of_ble_eq_true rfl), (Nat.le_of_ble_eq_true rfl)⟩ dX0_choiceOfLoyal_74 ⟨_, rfl, rfl, h⟩
    · have h := h.2 c_2
      refine sv_aload_n (pc := 15) G dX0_choiceOfLoyal_15 0 rfl ?_
      refine sv_getR (pc := 16) G fw_X0_18 (hL.cS ha) rfl (hL.cR3 ha) dX0_choiceOfLoyal_16 ?_
      refine sv_iload (pc := 19) G dX0_choiceOfLoyal_19 5 rfl ?_
      obtain ⟨s_8, h⟩ := h
      refine sv_ialdK (pc := 21) G (hL.cA3 ha) s_8 v5.toNatClampNeg rfl dX0_choiceOfLoyal_21 ?_
      refine sv_aload_n (pc := 22) G dX0_choiceOfLoyal_22 0 rfl ?_
      refine sv_getR (pc := 23) G fw_X0_18 (hL.cS ha) rfl (hL.cR3 ha) dX0_choiceOfLoyal_23 ?_
      refine sv_iload_n (pc := 26) G dX0_choiceOfLoyal_26 1 rfl ?_
      obtain ⟨s_9, h⟩ := h
      refine sv_ialdK (pc := 27) G (hL.cA3 ha) s_9 v1.toNatClampNeg rfl dX0_choiceOfLoyal_27 ?_
      refine sv_ic_ne (pc := 28) G 40 (by decide) dX0_choiceOfLoyal_28 (fun c_10 => ?_) (fun c_10 => ?_)
      · have h := h.2 c_10
        refine sv_locs [0, 1, 2, 3, 4, 5] [(0, .ref (b + a)), (1, .int v1), (2, .int v2), (3, .int v3), (4, .int v4), (5, .int v5)] rfl ?_
        exact aw_X0_choiceOfLoyal_40 G RR T hL ha ih v1 v2 v3 v4 v5 g  h
      · have h := h.1 c_10
        refine sv_iload (pc := 31) G dX0_choiceOfLoyal_31 4 rfl ?_
        refine sv_iconst (pc := 33) G dX0_choiceOfLoyal_33 1 ic_1 ?_
        refine sv_iload (pc := 34) G dX0_choiceOfLoyal_34 5 rfl ?_
        refine sv_ishl (pc := 36) G dX0_choiceOfLoyal_36 ?_
        refine sv_ior (pc := 37) G dX0_choiceOfLoyal_37 ?_
        refine sv_topi (fun v4_11 ev4_11 => ?_)
        have h := h v4_11 ev4_11
        refine sv_istore (pc := 38) G dX0_choiceOfLoyal_38 [(4, .int v4_11), (0, .ref (b + a)), (1, .int v1), (2, .int v2), (3, .int v3), (5, .int v5)] (by decide) rfl ?_
        refine sv_locs [1, 2, 3, 4, 0, 5] [(0, .ref (b + a)), (1, .int v1), (2, .int v2), (3, .int v3), (4, .int v4_11), (5, .int v5)] rfl ?_
        exact aw_X0_choiceOfLoyal_40 G RR T hL ha ih v1 v2 v3 v4_11 v5 g  h
set_option maxRecDepth 100000 in
set_option maxHeartbeats 4000000 in
theorem c_X0_choiceOfLoyal {b : Nat} {xt : sv_Xt} {F : sv_Fr} {a : Nat} {v1 : Int32} {v2 : Int32} {v3 : Int32} {g : sv_Mg} {Q : Int32 → sv_Mg → Prop} (hL : sv_Lay F) (ha : sv_isC a) (h : wp_X0_choiceOfLoyal F a v1 v2 v3 g Q) : sv_Cal yX0_choiceOfLoyal cX0_choiceOfLoyal 6 (some .int) 1 24 0 0 b xt [.ref (b + a), .int v1, .int v2, .int v3] F g (sv_qI F Q) := by
  refine sv_intro mw_X0_choiceOfLoyal [(0, .ref (b + a)), (1, .int v1), (2, .int v2), (3, .int v3)] rfl (Nat.le_of_ble_eq_true rfl) (fun x G RR T NM => ?_)
  have G : sv_G x b xt RX0 cX0_choiceOfLoyal 6 := G
  unfold wp_X0_choiceOfLoyal at h
  refine sv_iconst (pc := 0) G dX0_choiceOfLoyal_0 0 ic_0 ?_
  refine sv_istore (pc := 1) G dX0_choiceOfLoyal_1 [(4, .int 0), (0, .ref (b + a)), (1, .int v1), (2, .int v2), (3, .int v3)] (by decide) rfl ?_
  refine sv_iconst (pc := 3) G dX0_choiceOfLoyal_3 0 ic_0 ?_
  refine sv_istore (pc := 4) G dX0_choiceOfLoyal_4 [(5, .int 0), (4, .int 0), (0, .ref (b + a)), (1, .int v1), (2, .int v2), (3, .int v3)] (by decide) rfl ?_
  refine sv_locs [2, 3, 4, 5, 1, 0] [(0, .ref (b + a)), (1, .int v1), (2, .int v2), (3, .int v3), (4, .int 0), (5, .int 0)] rfl ?_
  obtain ⟨n_12, h⟩ := h
  exact aw_X0_choiceOfLoyal_6 G RR T hL ha  n_12 v1 v2 v3 0 0 g  h
def wp_X2_latest_37 (F : sv_Fr) (Q : Int32 → sv_Mg → Prop) (K9 : Int32 → Int32 → sv_Mg → Prop) (v1 : Int32) (v3 : Int32) (g : sv_Mg) : Prop := ∀ v3_1 : Int32, v3_1 = v3 + (-1) → K9 v1 v3_1 g
def wp_X2_latest_9 (F : sv_Fr) (Q : Int32 → sv_Mg → Prop) : Nat → Int32 → Int32 → sv_Mg → Prop
  | 0, _, _, _ => False
  | n + 1, v1, v3, g => ((v3 < 0 → Q (-1) g) ∧ (¬ v3 < 0 → vp_in v3 14 ∧ ((F.2 2 v3.toNatClampNeg = none → wp_X2_latest_37 F  Q (wp_X2_latest_9 F Q  n) v1 v3 g) ∧ (∀ q_4, F.2 2 v3.toNatClampNeg = some q_4 → (((g q_4 0) = v1 → Q v3 g) ∧ (¬ (g q_4 0) = v1 → wp_X2_latest_37 F  Q (wp_X2_latest_9 F Q  n) v1 v3 g))))))
def wp_X2_latest (F : sv_Fr) (v1 : Int32) (v2 : Int32) (g : sv_Mg) (Q : Int32 → sv_Mg → Prop) : Prop := ∀ v3_6 : Int32, v3_6 = ((if 14 < v2 then 14 else v2) - 1) → ∃ n_7, wp_X2_latest_9 F  Q  n_7 v1 v3_6 g
set_option maxRecDepth 100000 in
set_option maxHeartbeats 4000000 in
theorem aw_X2_latest_37 {x : sv_X} {b : Nat} {xt : sv_Xt} {F : sv_Fr} {Q : Int32 → sv_Mg → Prop} (G : sv_G x b xt RX2 cX2_latest 5) (RR : sv_R x 1 21 0 0) (T : sv_RT x (some .int)) (hL : sv_Lay F) {K9 : Int32 → Int32 → sv_Mg → Prop} (hK9 : ∀ (v1 : Int32) (v3 : Int32) (g : sv_Mg), K9 v1 v3 g → sv_AW x (sv_Q x (sv_qI F Q) 0 0) F g 0 0 9 [(0, .ref (b + 1)), (1, .int v1), (3, .int v3)] []) : ∀ (v1 : Int32) (v3 : Int32) (g : sv_Mg), wp_X2_latest_37 F Q K9 v1 v3 g → sv_AW x (sv_Q x (sv_qI F Q) 0 0) F g 0 0 37 [(0, .ref (b + 1)), (1, .int v1), (3, .int v3)] [] := by
  intro v1 v3 g h
  unfold wp_X2_latest_37 at h
  obtain ⟨v3_1, ev3_1⟩ : ∃ y : Int32, y = v3 + (-1) := ⟨_, rfl⟩
  have h := h v3_1 ev3_1
  refine sv_iinc (pc := 37) G dX2_latest_37 2 v3_1 [(3, .int v3_1), (0, .ref (b + 1)), (1, .int v1)] (by rw [ev3_1, ic_m1]) rfl (by decide) rfl ?_
  refine sv_goto (pc := 40) G dX2_latest_40 9 (by decide) ?_
  refine sv_locs [1, 2, 0] [(0, .ref (b + 1)), (1, .int v1), (3, .int v3_1)] rfl ?_
  exact hK9 v1 v3_1 g  h
set_option maxRecDepth 100000 in
set_option maxHeartbeats 4000000 in
theorem aw_X2_latest_9 {x : sv_X} {b : Nat} {xt : sv_Xt} {F : sv_Fr} {Q : Int32 → sv_Mg → Prop} (G : sv_G x b xt RX2 cX2_latest 5) (RR : sv_R x 1 21 0 0) (T : sv_RT x (some .int)) (hL : sv_Lay F) : ∀ (n : Nat) (v1 : Int32) (v3 : Int32) (g : sv_Mg), wp_X2_latest_9 F Q  n v1 v3 g → sv_AW x (sv_Q x (sv_qI F Q) 0 0) F g 0 0 9 [(0, .ref (b + 1)), (1, .int v1), (3, .int v3)] [] := by
  intro n
  induction n with
  | zero => intro v1 v3 g h; exact h.elim
  | succ n ih =>
    intro v1 v3 g h
    rw [wp_X2_latest_9] at h
    refine sv_iload_n (pc := 9) G dX2_latest_9 2 rfl ?_
    refine sv_if_lt (pc := 10) G 43 (by decide) dX2_latest_10 (fun c_2 => ?_) (fun c_2 => ?_)
    · have h := h.1 c_2
      refine sv_iconst (pc := 43) G dX2_latest_43 (-1) ic_m1 ?_
      exact sv_ireturn (pc := 44) G T ⟨(Nat.le_of_ble_eq_true rfl), (Nat.le_of_ble_eq_true rfl)⟩ dX2_latest_44 ⟨_, rfl, rfl, h⟩
    · have h := h.2 c_2
      refine sv_aload_n (pc := 13) G dX2_latest_13 0 rfl ?_
      refine sv_getR (pc := 14) G fw_X2_11 (hL.sh rfl) rfl (hL.rf 9 rfl) dX2_latest_14 ?_
      refine sv_iload_n (pc := 17) G dX2_latest_17 2 rfl ?_
      obtain ⟨s_3, h⟩ := h
      rcases eq_4 : F.2 2 v3.toNatClampNeg with _ | q_4
      · have h := h.1 eq_4
        refine sv_aaldN (pc := 18) G 3 (fun _ => rfl) (by decide) (hL.sh rfl) s_3 eq_4 dX2_latest_18 ?_
        refine sv_astoreN (pc := 19) G dX2_latest_19 [(4, .null), (0, .ref (b + 1)), (1, .int v1), (3, .int v3)] (by decide) rfl ?_
        refine sv_aloadN (pc := 21) G dX2_latest_21 0 rfl ?_
        refine sv_ifnuN (pc := 23) G dX2_latest_23 37 (by decide) ?_
        refine sv_locs [1, 2, 3] [(0, .ref (b + 1)), (1, .int v1), (3, .int v3)] rfl ?_
        exact aw_X2_latest_37 G RR T hL  ih v1 v3 g  h
      · have h := h.2 q_4 eq_4
        refine sv_aaldR (pc := 18) G 3 (fun _ => rfl) (by decide) (hL.sh rfl) s_3 eq_4 dX2_latest_18 ?_
        refine sv_astore (pc := 19) G dX2_latest_19 [(4, .ref (b + q_4)), (0, .ref (b + 1)), (1, .int v1), (3, .int v3)] (by decide) rfl ?_
        refine sv_aload (pc := 21) G dX2_latest_21 0 rfl ?_
        refine sv_ifnu (pc := 23) G dX2_latest_23 ?_
        refine sv_aload (pc := 26) G dX2_latest_26 0 rfl ?_
        refine sv_getI (pc := 28) G fw_X2_27 (hL.2.2 _ _ eq_4).2.1 rfl dX2_latest_28 ?_
        refine sv_iload_n (pc := 31) G dX2_latest_31 2 rfl ?_
        refine sv_ic_ne (pc := 32) G 37 (by decide) dX2_latest_32 (fun c_5 => ?_) (fun c_5 => ?_)
        · have h := h.2 c_5
          refine sv_locs [1, 2, 3] [(0, .ref (b + 1)), (1, .int v1), (3, .int v3)] rfl ?_
          exact aw_X2_latest_37 G RR T hL  ih v1 v3 g  h
        · have h := h.1 c_5
          refine sv_iload_n (pc := 35) G dX2_latest_35 3 rfl ?_
          exact sv_ireturn (pc := 36) G T ⟨(Nat.le_of_ble_eq_true rfl), (Nat.le_of_ble_eq_true rfl)⟩ dX2_latest_36 ⟨_, rfl, rfl, h⟩
set_option maxRecDepth 100000 in
set_option maxHeartbeats 4000000 in
theorem c_X2_latest {b : Nat} {xt : sv_Xt} {F : sv_Fr} {v1 : Int32} {v2 : Int32} {g : sv_Mg} {Q : Int32 → sv_Mg → Prop} (hL : sv_Lay F) (h : wp_X2_latest F v1 v2 g Q) : sv_Cal yX2_latest cX2_latest 5 (some .int) 1 21 0 0 b xt [.ref (b + 1), .int v1, .int v2] F g (sv_qI F Q) := by
  refine sv_intro mw_X2_latest [(0, .ref (b + 1)), (1, .int v1), (2, .int v2)] rfl (Nat.le_of_ble_eq_true rfl) (fun x G RR T NM => ?_)
  have G : sv_G x b xt RX2 cX2_latest 5 := G
  unfold wp_X2_latest at h
  refine sv_iload_n (pc := 0) G dX2_latest_0 2 rfl ?_
  refine sv_bipush (pc := 1) G dX2_latest_1 14 bp_14 ?_
  refine sv_min (pc := 3) G RR lk_X2_21 wd_min1 wd_math wd_min2 (Nat.le_of_ble_eq_true rfl) (Nat.le_of_ble_eq_true rfl) (Nat.le_of_ble_eq_true rfl) ⟨(Nat.le_of_ble_eq_true rfl), (Nat.le_of_ble_eq_true rfl)⟩ dX2_latest_3 ?_
  refine sv_iconst (pc := 6) G dX2_latest_6 1 ic_1 ?_
  refine sv_isub (pc := 7) G dX2_latest_7 ?_
  refine sv_topi (fun v3_6 ev3_6 => ?_)
  have h := h v3_6 ev3_6
  refine sv_istore_n (pc := 8) G dX2_latest_8 [(3, .int v3_6), (0, .ref (b + 1)), (1, .int v1), (2, .int v2)] (by decide) rfl ?_
  refine sv_locs [1, 2, 0] [(0, .ref (b + 1)), (1, .int v1), (3, .int v3_6)] rfl ?_
  obtain ⟨n_7, h⟩ := h
  exact aw_X2_latest_9 G RR T hL   n_7 v1 v3_6 g  h
def wp_X2_truth (F : sv_Fr) (v0 : Int32) (g : sv_Mg) (Q : Int32 → sv_Mg → Prop) : Prop := ((v0 = 0 → Q 0 g) ∧ (¬ v0 = 0 → Q 1 g))
set_option maxRecDepth 100000 in
set_option maxHeartbeats 4000000 in
theorem c_X2_truth {b : Nat} {xt : sv_Xt} {F : sv_Fr} {v0 : Int32} {g : sv_Mg} {Q : Int32 → sv_Mg → Prop} (hL : sv_Lay F) (h : wp_X2_truth F v0 g Q) : sv_Cal yX2_truth cX2_truth 1 (some .int) 0 0 0 0 b xt [.int v0] F g (sv_qI F Q) := by
  refine sv_intro mw_X2_truth [(0, .int v0)] rfl (Nat.le_of_ble_eq_true rfl) (fun x G RR T NM => ?_)
  have G : sv_G x b xt RX2 cX2_truth 1 := G
  unfold wp_X2_truth at h
  refine sv_iload_n (pc := 0) G dX2_truth_0 0 rfl ?_
  refine sv_if_eq (pc := 1) G 8 (by decide) dX2_truth_1 (fun c_1 => ?_) (fun c_1 => ?_)
  · have h := h.1 c_1
    refine sv_iconst (pc := 8) G dX2_truth_8 0 ic_0 ?_
    exact sv_ireturn (pc := 9) G T ⟨(Nat.le_of_ble_eq_true rfl), (Nat.le_of_ble_eq_true rfl)⟩ dX2_truth_9 ⟨_, rfl, rfl, h⟩
  · have h := h.2 c_1
    refine sv_iconst (pc := 4) G dX2_truth_4 1 ic_1 ?_
    refine sv_goto (pc := 5) G dX2_truth_5 9 (by decide) ?_
    exact sv_ireturn (pc := 9) G T ⟨(Nat.le_of_ble_eq_true rfl), (Nat.le_of_ble_eq_true rfl)⟩ dX2_truth_9 ⟨_, rfl, rfl, h⟩
def wp_X2_joined_84 (F : sv_Fr) (Q : Int32 → sv_Mg → Prop) (g : sv_Mg) : Prop := wp_X2_truth F 1 g (fun r_2 g_1 => Q r_2 g_1)
def wp_X2_joined_105 (F : sv_Fr) (Q : Int32 → sv_Mg → Prop) (g : sv_Mg) : Prop := wp_X2_truth F 0 g (fun r_4 g_3 => Q r_4 g_3)
def wp_X2_joined (F : sv_Fr) (v0 : Int32) (v1 : Int32) (v2 : Int32) (g : sv_Mg) (Q : Int32 → sv_Mg → Prop) : Prop := ((v0 = 38 → ((v1 = 0 → wp_X2_joined_105 F  Q   g) ∧ (¬ v1 = 0 → ((v2 = 0 → wp_X2_joined_105 F  Q   g) ∧ (¬ v2 = 0 → wp_X2_truth F 1 g (fun r_9 g_8 => Q r_9 g_8)))))) ∧ (¬ v0 = 38 → ((v0 = 42 → Q (v1 * v2) g) ∧ (¬ v0 = 42 → ((v0 = 43 → Q (v1 + v2) g) ∧ (¬ v0 = 43 → ((v0 = 45 → Q (v1 - v2) g) ∧ (¬ v0 = 45 → ((v0 = 60 → ((v2 ≤ v1 → wp_X2_truth F 0 g (fun r_16 g_15 => Q r_16 g_15)) ∧ (¬ v2 ≤ v1 → wp_X2_truth F 1 g (fun r_18 g_17 => Q r_18 g_17)))) ∧ (¬ v0 = 60 → ((v0 = 61 → ((v1 = v2 → wp_X2_truth F 1 g (fun r_24 g_23 => Q r_24 g_23)) ∧ (¬ v1 = v2 → wp_X2_truth F 0 g (fun r_22 g_21 => Q r_22 g_21)))) ∧ (¬ v0 = 61 → ((v0 = 62 → ((v1 ≤ v2 → wp_X2_truth F 0 g (fun r_28 g_27 => Q r_28 g_27)) ∧ (¬ v1 ≤ v2 → wp_X2_truth F 1 g (fun r_30 g_29 => Q r_30 g_29)))) ∧ (¬ v0 = 62 → ((v0 = 124 → ((v1 = 0 → ((v2 = 0 → wp_X2_truth F 0 g (fun r_35 g_34 => Q r_35 g_34)) ∧ (¬ v2 = 0 → wp_X2_joined_84 F  Q   g))) ∧ (¬ v1 = 0 → wp_X2_joined_84 F  Q   g))) ∧ (¬ v0 = 124 → ((v2 = 0 → Q 0 g) ∧ (¬ v2 = 0 → ¬ v2 = 0 ∧ Q (v1 / v2) g))))))))))))))))))
set_option maxRecDepth 100000 in
set_option maxHeartbeats 4000000 in
theorem aw_X2_joined_84 {x : sv_X} {b : Nat} {xt : sv_Xt} {F : sv_Fr} {Q : Int32 → sv_Mg → Prop} (G : sv_G x b xt RX2 cX2_joined 3) (RR : sv_R x 1 20 0 0) (T : sv_RT x (some .int)) (hL : sv_Lay F) : ∀  (g : sv_Mg), wp_X2_joined_84 F Q   g → sv_AW x (sv_Q x (sv_qI F Q) 0 0) F g 0 0 84 [] [] := by
  intro g h
  unfold wp_X2_joined_84 at h
  refine sv_iconst (pc := 84) G dX2_joined_84 1 ic_1 ?_
  refine sv_goto (pc := 85) G dX2_joined_85 89 (by decide) ?_
  refine sv_callS (cs := 0) (sl := 0) (st := []) (As := [.int 1]) (pc := 89) G RR (c_X2_truth hL  h) mw_X2_truth lk_X2_42 rfl ⟨(Nat.le_of_ble_eq_true rfl), (Nat.le_of_ble_eq_true rfl)⟩ ⟨(Nat.le_of_ble_eq_true rfl), (Nat.le_of_ble_eq_true rfl)⟩ (Nat.le_of_ble_eq_true rfl) rfl dX2_joined_89 (sv_kI (fun r_2 g_1 h => ?_))
  exact sv_ireturn (pc := 92) G T ⟨(Nat.le_of_ble_eq_true rfl), (Nat.le_of_ble_eq_true rfl)⟩ dX2_joined_92 ⟨_, rfl, rfl, h⟩
set_option maxRecDepth 100000 in
set_option maxHeartbeats 4000000 in
theorem aw_X2_joined_105 {x : sv_X} {b : Nat} {xt : sv_Xt} {F : sv_Fr} {Q : Int32 → sv_Mg → Prop} (G : sv_G x b xt RX2 cX2_joined 3) (RR : sv_R x 1 20 0 0) (T : sv_RT x (some .int)) (hL : sv_Lay F) : ∀  (g : sv_Mg), wp_X2_joined_105 F Q   g → sv_AW x (sv_Q x (sv_qI F Q) 0 0) F g 0 0 105 [] [] := by
  intro g h
  unfold wp_X2_joined_105 at h
  refine sv_iconst (pc := 105) G dX2_joined_105 0 ic_0 ?_
  refine sv_callS (cs := 0) (sl := 0) (st := []) (As := [.int 0]) (pc := 106) G RR (c_X2_truth hL  h) mw_X2_truth lk_X2_42 rfl ⟨(Nat.le_of_ble_eq_true rfl), (Nat.le_of_ble_eq_true rfl)⟩ ⟨(Nat.le_of_ble_eq_true rfl), (Nat.le_of_ble_eq_true rfl)⟩ (Nat.le_of_ble_eq_true rfl) rfl dX2_joined_106 (sv_kI (fun r_4 g_3 h => ?_))
  exact sv_ireturn (pc := 109) G T ⟨(Nat.le_of_ble_eq_true rfl), (Nat.le_of_ble_eq_true rfl)⟩ dX2_joined_109 ⟨_, rfl, rfl, h⟩
set_option maxRecDepth 100000 in
set_option maxHeartbeats 4000000 in
theorem c_X2_joined {b : Nat} {xt : sv_Xt} {F : sv_Fr} {v0 : Int32} {v1 : Int32} {v2 : Int32} {g : sv_Mg} {Q : Int32 → sv_Mg → Prop} (hL : sv_Lay F) (h : wp_X2_joined F v0 v1 v2 g Q) : sv_Cal yX2_joined cX2_joined 3 (some .int) 1 20 0 0 b xt [.int v0, .int v1, .int v2] F g (sv_qI F Q) := by
  refine sv_intro mw_X2_joined [(0, .int v0), (1, .int v1), (2, .int v2)] rfl (Nat.le_of_ble_eq_true rfl) (fun x G RR T NM => ?_)
  have G : sv_G x b xt RX2 cX2_joined 3 := G
  unfold wp_X2_joined at h
  refine sv_iload_n (pc := 0) G dX2_joined_0 0 rfl ?_
  by_cases c_5 : v0 = 38
  · have h := h.1 c_5
    refine sv_lsw (off := 92) (pc := 1) G dX2_joined_1 93 (by decide) (by rw [c_5]; decide) (by decide) ?_
    refine sv_iload_n (pc := 93) G dX2_joined_93 1 rfl ?_
    refine sv_if_eq (pc := 94) G 105 (by decide) dX2_joined_94 (fun c_6 => ?_) (fun c_6 => ?_)
    · have h := h.1 c_6
      refine sv_locs [] [] rfl ?_
      exact aw_X2_joined_105 G RR T hL    g  h
    · have h := h.2 c_6
      refine sv_iload_n (pc := 97) G dX2_joined_97 2 rfl ?_
      refine sv_if_eq (pc := 98) G 105 (by decide) dX2_joined_98 (fun c_7 => ?_) (fun c_7 => ?_)
      · have h := h.1 c_7
        refine sv_locs [] [] rfl ?_
        exact aw_X2_joined_105 G RR T hL    g  h
      · have h := h.2 c_7
        refine sv_iconst (pc := 101) G dX2_joined_101 1 ic_1 ?_
        refine sv_goto (pc := 102) G dX2_joined_102 106 (by decide) ?_
        refine sv_callS (cs := 0) (sl := 0) (st := []) (As := [.int 1]) (pc := 106) G RR (c_X2_truth hL  h) mw_X2_truth lk_X2_42 rfl ⟨(Nat.le_of_ble_eq_true rfl), (Nat.le_of_ble_eq_true rfl)⟩ ⟨(Nat.le_of_ble_eq_true rfl), (Nat.le_of_ble_eq_true rfl)⟩ (Nat.le_of_ble_eq_true rfl) rfl dX2_joined_106 (sv_kI (fun r_9 g_8 h => ?_))
        exact sv_ireturn (pc := 109) G T ⟨(Nat.le_of_ble_eq_true rfl), (Nat.le_of_ble_eq_true rfl)⟩ dX2_joined_109 ⟨_, rfl, rfl, h⟩
  · have h := h.2 c_5
    by_cases c_10 : v0 = 42
    · have h := h.1 c_10
      refine sv_lsw (off := 159) (pc := 1) G dX2_joined_1 160 (by decide) (by rw [c_10]; decide) (by decide) ?_
      refine sv_iload_n (pc := 160) G dX2_joined_160 1 rfl ?_
      refine sv_iload_n (pc := 161) G dX2_joined_161 2 rfl ?_
      refine sv_imul (pc := 162) G dX2_joined_162 ?_
      exact sv_ireturn (pc := 163) G T ⟨(Nat.le_of_ble_eq_true rfl), (Nat.le_of_ble_eq_true rfl)⟩ dX2_joined_163 ⟨_, rfl, rfl, h⟩
    · have h := h.2 c_10
      by_cases c_11 : v0 = 43
      · have h := h.1 c_11
        refine sv_lsw (off := 151) (pc := 1) G dX2_joined_1 152 (by decide) (by rw [c_11]; decide) (by decide) ?_
        refine sv_iload_n (pc := 152) G dX2_joined_152 1 rfl ?_
        refine sv_iload_n (pc := 153) G dX2_joined_153 2 rfl ?_
        refine sv_iadd (pc := 154) G dX2_joined_154 ?_
        exact sv_ireturn (pc := 155) G T ⟨(Nat.le_of_ble_eq_true rfl), (Nat.le_of_ble_eq_true rfl)⟩ dX2_joined_155 ⟨_, rfl, rfl, h⟩
      · have h := h.2 c_11
        by_cases c_12 : v0 = 45
        · have h := h.1 c_12
          refine sv_lsw (off := 155) (pc := 1) G dX2_joined_1 156 (by decide) (by rw [c_12]; decide) (by decide) ?_
          refine sv_iload_n (pc := 156) G dX2_joined_156 1 rfl ?_
          refine sv_iload_n (pc := 157) G dX2_joined_157 2 rfl ?_
          refine sv_isub (pc := 158) G dX2_joined_158 ?_
          exact sv_ireturn (pc := 159) G T ⟨(Nat.le_of_ble_eq_true rfl), (Nat.le_of_ble_eq_true rfl)⟩ dX2_joined_159 ⟨_, rfl, rfl, h⟩
        · have h := h.2 c_12
          by_cases c_13 : v0 = 60
          · have h := h.1 c_13
            refine sv_lsw (off := 109) (pc := 1) G dX2_joined_1 110 (by decide) (by rw [c_13]; decide) (by decide) ?_
            refine sv_iload_n (pc := 110) G dX2_joined_110 1 rfl ?_
            refine sv_iload_n (pc := 111) G dX2_joined_111 2 rfl ?_
            refine sv_ic_ge (pc := 112) G 119 (by decide) dX2_joined_112 (fun c_14 => ?_) (fun c_14 => ?_)
            · have h := h.1 c_14
              refine sv_iconst (pc := 119) G dX2_joined_119 0 ic_0 ?_
              refine sv_callS (cs := 0) (sl := 0) (st := []) (As := [.int 0]) (pc := 120) G RR (c_X2_truth hL  h) mw_X2_truth lk_X2_42 rfl ⟨(Nat.le_of_ble_eq_true rfl), (Nat.le_of_ble_eq_true rfl)⟩ ⟨(Nat.le_of_ble_eq_true rfl), (Nat.le_of_ble_eq_true rfl)⟩ (Nat.le_of_ble_eq_true rfl) rfl dX2_joined_120 (sv_kI (fun r_16 g_15 h => ?_))
              exact sv_ireturn (pc := 123) G T ⟨(Nat.le_of_ble_eq_true rfl), (Nat.le_of_ble_eq_true rfl)⟩ dX2_joined_123 ⟨_, rfl, rfl, h⟩
            · have h := h.2 c_14
              refine sv_iconst (pc := 115) G dX2_joined_115 1 ic_1 ?_
              refine sv_goto (pc := 116) G dX2_joined_116 120 (by decide) ?_
              refine sv_callS (cs := 0) (sl := 0) (st := []) (As := [.int 1]) (pc := 120) G RR (c_X2_truth hL  h) mw_X2_truth lk_X2_42 rfl ⟨(Nat.le_of_ble_eq_true rfl), (Nat.le_of_ble_eq_true rfl)⟩ ⟨(Nat.le_of_ble_eq_true rfl), (Nat.le_of_ble_eq_true rfl)⟩ (Nat.le_of_ble_eq_true rfl) rfl dX2_joined_120 (sv_kI (fun r_18 g_17 h => ?_))
              exact sv_ireturn (pc := 123) G T ⟨(Nat.le_of_ble_eq_true rfl), (Nat.le_of_ble_eq_true rfl)⟩ dX2_joined_123 ⟨_, rfl, rfl, h⟩
          · have h := h.2 c_13
            by_cases c_19 : v0 = 61
            · have h := h.1 c_19
              refine sv_lsw (off := 123) (pc := 1) G dX2_joined_1 124 (by decide) (by rw [c_19]; decide) (by decide) ?_
              refine sv_iload_n (pc := 124) G dX2_joined_124 1 rfl ?_
              refine sv_iload_n (pc := 125) G dX2_joined_125 2 rfl ?_
              refine sv_ic_ne (pc := 126) G 133 (by decide) dX2_joined_126 (fun c_20 => ?_) (fun c_20 => ?_)
              · have h := h.2 c_20
                refine sv_iconst (pc := 133) G dX2_joined_133 0 ic_0 ?_
                refine sv_callS (cs := 0) (sl := 0) (st := []) (As := [.int 0]) (pc := 134) G RR (c_X2_truth hL  h) mw_X2_truth lk_X2_42 rfl ⟨(Nat.le_of_ble_eq_true rfl), (Nat.le_of_ble_eq_true rfl)⟩ ⟨(Nat.le_of_ble_eq_true rfl), (Nat.le_of_ble_eq_true rfl)⟩ (Nat.le_of_ble_eq_true rfl) rfl dX2_joined_134 (sv_kI (fun r_22 g_21 h => ?_))
                exact sv_ireturn (pc := 137) G T ⟨(Nat.le_of_ble_eq_true rfl), (Nat.le_of_ble_eq_true rfl)⟩ dX2_joined_137 ⟨_, rfl, rfl, h⟩
              · have h := h.1 c_20
                refine sv_iconst (pc := 129) G dX2_joined_129 1 ic_1 ?_
                refine sv_goto (pc := 130) G dX2_joined_130 134 (by decide) ?_
                refine sv_callS (cs := 0) (sl := 0) (st := []) (As := [.int 1]) (pc := 134) G RR (c_X2_truth hL  h) mw_X2_truth lk_X2_42 rfl ⟨(Nat.le_of_ble_eq_true rfl), (Nat.le_of_ble_eq_true rfl)⟩ ⟨(Nat.le_of_ble_eq_true rfl), (Nat.le_of_ble_eq_true rfl)⟩ (Nat.le_of_ble_eq_true rfl) rfl dX2_joined_134 (sv_kI (fun r_24 g_23 h => ?_))
                exact sv_ireturn (pc := 137) G T ⟨(Nat.le_of_ble_eq_true rfl), (Nat.le_of_ble_eq_true rfl)⟩ dX2_joined_137 ⟨_, rfl, rfl, h⟩
            · have h := h.2 c_19
              by_cases c_25 : v0 = 62
              · have h := h.1 c_25
                refine sv_lsw (off := 137) (pc := 1) G dX2_joined_1 138 (by decide) (by rw [c_25]; decide) (by decide) ?_
                refine sv_iload_n (pc := 138) G dX2_joined_138 1 rfl ?_
                refine sv_iload_n (pc := 139) G dX2_joined_139 2 rfl ?_
                refine sv_ic_le (pc := 140) G 147 (by decide) dX2_joined_140 (fun c_26 => ?_) (fun c_26 => ?_)
                · have h := h.1 c_26
                  refine sv_iconst (pc := 147) G dX2_joined_147 0 ic_0 ?_
                  refine sv_callS (cs := 0) (sl := 0) (st := []) (As := [.int 0]) (pc := 148) G RR (c_X2_truth hL  h) mw_X2_truth lk_X2_42 rfl ⟨(Nat.le_of_ble_eq_true rfl), (Nat.le_of_ble_eq_true rfl)⟩ ⟨(Nat.le_of_ble_eq_true rfl), (Nat.le_of_ble_eq_true rfl)⟩ (Nat.le_of_ble_eq_true rfl) rfl dX2_joined_148 (sv_kI (fun r_28 g_27 h => ?_))
                  exact sv_ireturn (pc := 151) G T ⟨(Nat.le_of_ble_eq_true rfl), (Nat.le_of_ble_eq_true rfl)⟩ dX2_joined_151 ⟨_, rfl, rfl, h⟩
                · have h := h.2 c_26
                  refine sv_iconst (pc := 143) G dX2_joined_143 1 ic_1 ?_
                  refine sv_goto (pc := 144) G dX2_joined_144 148 (by decide) ?_
                  refine sv_callS (cs := 0) (sl := 0) (st := []) (As := [.int 1]) (pc := 148) G RR (c_X2_truth hL  h) mw_X2_truth lk_X2_42 rfl ⟨(Nat.le_of_ble_eq_true rfl), (Nat.le_of_ble_eq_true rfl)⟩ ⟨(Nat.le_of_ble_eq_true rfl), (Nat.le_of_ble_eq_true rfl)⟩ (Nat.le_of_ble_eq_true rfl) rfl dX2_joined_148 (sv_kI (fun r_30 g_29 h => ?_))
                  exact sv_ireturn (pc := 151) G T ⟨(Nat.le_of_ble_eq_true rfl), (Nat.le_of_ble_eq_true rfl)⟩ dX2_joined_151 ⟨_, rfl, rfl, h⟩
              · have h := h.2 c_25
                by_cases c_31 : v0 = 124
                · have h := h.1 c_31
                  refine sv_lsw (off := 75) (pc := 1) G dX2_joined_1 76 (by decide) (by rw [c_31]; decide) (by decide) ?_
                  refine sv_iload_n (pc := 76) G dX2_joined_76 1 rfl ?_
                  refine sv_if_ne (pc := 77) G 84 (by decide) dX2_joined_77 (fun c_32 => ?_) (fun c_32 => ?_)
                  · have h := h.2 c_32
                    refine sv_locs [] [] rfl ?_
                    exact aw_X2_joined_84 G RR T hL    g  h
                  · have h := h.1 c_32
                    refine sv_iload_n (pc := 80) G dX2_joined_80 2 rfl ?_
                    refine sv_if_eq (pc := 81) G 88 (by decide) dX2_joined_81 (fun c_33 => ?_) (fun c_33 => ?_)
                    · have h := h.1 c_33
                      refine sv_iconst (pc := 88) G dX2_joined_88 0 ic_0 ?_
                      refine sv_callS (cs := 0) (sl := 0) (st := []) (As := [.int 0]) (pc := 89) G RR (c_X2_truth hL  h) mw_X2_truth lk_X2_42 rfl ⟨(Nat.le_of_ble_eq_true rfl), (Nat.le_of_ble_eq_true rfl)⟩ ⟨(Nat.le_of_ble_eq_true rfl), (Nat.le_of_ble_eq_true rfl)⟩ (Nat.le_of_ble_eq_true rfl) rfl dX2_joined_89 (sv_kI (fun r_35 g_34 h => ?_))
                      exact sv_ireturn (pc := 92) G T ⟨(Nat.le_of_ble_eq_true rfl), (Nat.le_of_ble_eq_true rfl)⟩ dX2_joined_92 ⟨_, rfl, rfl, h⟩
                    · have h := h.2 c_33
                      refine sv_locs [] [] rfl ?_
                      exact aw_X2_joined_84 G RR T hL    g  h
                · have h := h.2 c_31
                  refine sv_lsw (off := 163) (pc := 1) G dX2_joined_1 164 (by decide) (by show Op.lookupswitch.offset [(38, 92), (42, 159), (43, 151), (45, 155), (60, 109), (61, 123), (62, 137), (124, 75)] _ _ = _; rw [lv_osw c_5 (by decide), lv_osw c_10 (by decide), lv_osw c_11 (by decide), lv_osw c_12 (by decide), lv_osw c_13 (by decide), lv_osw c_19 (by decide), lv_osw c_25 (by decide), lv_osw c_31 (by decide)]; rfl) (by decide) ?_
                  refine sv_iload_n (pc := 164) G dX2_joined_164 2 rfl ?_
                  refine sv_if_ne (pc := 165) G 172 (by decide) dX2_joined_165 (fun c_36 => ?_) (fun c_36 => ?_)
                  · have h := h.2 c_36
                    refine sv_iload_n (pc := 172) G dX2_joined_172 1 rfl ?_
                    refine sv_iload_n (pc := 173) G dX2_joined_173 2 rfl ?_
                    obtain ⟨s_37, h⟩ := h
                    refine sv_idiv (pc := 174) G dX2_joined_174 s_37 ?_
                    exact sv_ireturn (pc := 175) G T ⟨(Nat.le_of_ble_eq_true rfl), (Nat.le_of_ble_eq_true rfl)⟩ dX2_joined_175 ⟨_, rfl, rfl, h⟩
                  · have h := h.1 c_36
                    refine sv_iconst (pc := 168) G dX2_joined_168 0 ic_0 ?_
                    refine sv_goto (pc := 169) G dX2_joined_169 175 (by decide) ?_
                    exact sv_ireturn (pc := 175) G T ⟨(Nat.le_of_ble_eq_true rfl), (Nat.le_of_ble_eq_true rfl)⟩ dX2_joined_175 ⟨_, rfl, rfl, h⟩
def wp_X2_leaf (F : sv_Fr) (v0 : Int32) (v1 : Int32) (v2 : Int32) (v3 : Int32) (g : sv_Mg) (Q : Int32 → sv_Mg → Prop) : Prop := ((v0 = 10000 → Q v1 g) ∧ (¬ v0 = 10000 → ((v0 = 10001 → Q v2 g) ∧ (¬ v0 = 10001 → ((v0 = 10002 → Q v3 g) ∧ (¬ v0 = 10002 → Q v0 g))))))
set_option maxRecDepth 100000 in
set_option maxHeartbeats 4000000 in
theorem c_X2_leaf {b : Nat} {xt : sv_Xt} {F : sv_Fr} {v0 : Int32} {v1 : Int32} {v2 : Int32} {v3 : Int32} {g : sv_Mg} {Q : Int32 → sv_Mg → Prop} (hL : sv_Lay F) (h : wp_X2_leaf F v0 v1 v2 v3 g Q) : sv_Cal yX2_leaf cX2_leaf 4 (some .int) 0 0 0 0 b xt [.int v0, .int v1, .int v2, .int v3] F g (sv_qI F Q) := by
  refine sv_intro mw_X2_leaf [(0, .int v0), (1, .int v1), (2, .int v2), (3, .int v3)] rfl (Nat.le_of_ble_eq_true rfl) (fun x G RR T NM => ?_)
  have G : sv_G x b xt RX2 cX2_leaf 4 := G
  unfold wp_X2_leaf at h
  refine sv_iload_n (pc := 0) G dX2_leaf_0 0 rfl ?_
  by_cases c_1 : v0 = 10000
  · have h := h.1 c_1
    refine sv_tsw (pc := 1) G dX2_leaf_1 10000 (by rw [c_1]; decide) 28 (by decide) (by decide) rfl (by decide) ?_
    refine sv_iload_n (pc := 28) G dX2_leaf_28 1 rfl ?_
    exact sv_ireturn (pc := 29) G T ⟨(Nat.le_of_ble_eq_true rfl), (Nat.le_of_ble_eq_true rfl)⟩ dX2_leaf_29 ⟨_, rfl, rfl, h⟩
  · have h := h.2 c_1
    by_cases c_2 : v0 = 10001
    · have h := h.1 c_2
      refine sv_tsw (pc := 1) G dX2_leaf_1 10001 (by rw [c_2]; decide) 30 (by decide) (by decide) rfl (by decide) ?_
      refine sv_iload_n (pc := 30) G dX2_leaf_30 2 rfl ?_
      exact sv_ireturn (pc := 31) G T ⟨(Nat.le_of_ble_eq_true rfl), (Nat.le_of_ble_eq_true rfl)⟩ dX2_leaf_31 ⟨_, rfl, rfl, h⟩
    · have h := h.2 c_2
      by_cases c_3 : v0 = 10002
      · have h := h.1 c_3
        refine sv_tsw (pc := 1) G dX2_leaf_1 10002 (by rw [c_3]; decide) 32 (by decide) (by decide) rfl (by decide) ?_
        refine sv_iload_n (pc := 32) G dX2_leaf_32 3 rfl ?_
        exact sv_ireturn (pc := 33) G T ⟨(Nat.le_of_ble_eq_true rfl), (Nat.le_of_ble_eq_true rfl)⟩ dX2_leaf_33 ⟨_, rfl, rfl, h⟩
      · have h := h.2 c_3
        refine sv_tswD (pc := 1) G dX2_leaf_1 (by have qc_1 := lv_neT (a := 10000) c_1 (by decide); have qc_2 := lv_neT (a := 10001) c_2 (by decide); have qc_3 := lv_neT (a := 10002) c_3 (by decide); omega) 34 (by decide) ?_
        refine sv_iload_n (pc := 34) G dX2_leaf_34 0 rfl ?_
        exact sv_ireturn (pc := 35) G T ⟨(Nat.le_of_ble_eq_true rfl), (Nat.le_of_ble_eq_true rfl)⟩ dX2_leaf_35 ⟨_, rfl, rfl, h⟩
def wp_X6_isWithin (F : sv_Fr) (v0 : Int32) (v1 : Int32) (v2 : Int32) (g : sv_Mg) (Q : Int32 → sv_Mg → Prop) : Prop := ((v0 < v1 → Q 0 g) ∧ (¬ v0 < v1 → ((v2 < v0 → Q 0 g) ∧ (¬ v2 < v0 → Q 1 g))))
set_option maxRecDepth 100000 in
set_option maxHeartbeats 4000000 in
theorem c_X6_isWithin {b : Nat} {xt : sv_Xt} {F : sv_Fr} {v0 : Int32} {v1 : Int32} {v2 : Int32} {g : sv_Mg} {Q : Int32 → sv_Mg → Prop} (hL : sv_Lay F) (h : wp_X6_isWithin F v0 v1 v2 g Q) : sv_Cal yX6_isWithin cX6_isWithin 3 (some .boolean) 0 0 0 0 b xt [.int v0, .int v1, .int v2] F g (sv_qI F Q) := by
  refine sv_intro mw_X6_isWithin [(0, .int v0), (1, .int v1), (2, .int v2)] rfl (Nat.le_of_ble_eq_true rfl) (fun x G RR T NM => ?_)
  have G : sv_G x b xt RX6 cX6_isWithin 3 := G
  unfold wp_X6_isWithin at h
  refine sv_iload_n (pc := 0) G dX6_isWithin_0 0 rfl ?_
  refine sv_iload_n (pc := 1) G dX6_isWithin_1 1 rfl ?_
  refine sv_ic_lt (pc := 2) G 14 (by decide) dX6_isWithin_2 (fun c_1 => ?_) (fun c_1 => ?_)
  · have h := h.1 c_1
    refine sv_iconst (pc := 14) G dX6_isWithin_14 0 ic_0 ?_
    exact sv_zreturn (pc := 15) G T (Or.inl rfl) ⟨(Nat.le_of_ble_eq_true rfl), (Nat.le_of_ble_eq_true rfl)⟩ dX6_isWithin_15 ⟨_, rfl, rfl, h⟩
  · have h := h.2 c_1
    refine sv_iload_n (pc := 5) G dX6_isWithin_5 0 rfl ?_
    refine sv_iload_n (pc := 6) G dX6_isWithin_6 2 rfl ?_
    refine sv_ic_gt (pc := 7) G 14 (by decide) dX6_isWithin_7 (fun c_2 => ?_) (fun c_2 => ?_)
    · have h := h.1 c_2
      refine sv_iconst (pc := 14) G dX6_isWithin_14 0 ic_0 ?_
      exact sv_zreturn (pc := 15) G T (Or.inl rfl) ⟨(Nat.le_of_ble_eq_true rfl), (Nat.le_of_ble_eq_true rfl)⟩ dX6_isWithin_15 ⟨_, rfl, rfl, h⟩
    · have h := h.2 c_2
      refine sv_iconst (pc := 10) G dX6_isWithin_10 1 ic_1 ?_
      refine sv_goto (pc := 11) G dX6_isWithin_11 15 (by decide) ?_
      exact sv_zreturn (pc := 15) G T (Or.inr rfl) ⟨(Nat.le_of_ble_eq_true rfl), (Nat.le_of_ble_eq_true rfl)⟩ dX6_isWithin_15 ⟨_, rfl, rfl, h⟩
def wp_X2_value_185 (F : sv_Fr) (Q : Int32 → sv_Mg → Prop) (K35 : Int32 → Int32 → Int32 → Nat → Int32 → Int32 → sv_Mg → Prop) (v2 : Int32) (v3 : Int32) (v4 : Int32) (r5 : Nat) (v6 : Int32) (v7 : Int32) (g : sv_Mg) : Prop := ∀ v7_1 : Int32, v7_1 = v7 + 1 → K35 v2 v3 v4 r5 v6 v7_1 g
def wp_X2_value_135 (F : sv_Fr) (Q : Int32 → sv_Mg → Prop) (K35 : Int32 → Int32 → Int32 → Nat → Int32 → Int32 → sv_Mg → Prop) (v2 : Int32) (v3 : Int32) (v4 : Int32) (r5 : Nat) (v6 : Int32) (v7 : Int32) (s0 : Int32) (s1 : Int32) (g : sv_Mg) : Prop := wp_X2_truth F s0 g (fun r_3 g_2 => vp_in s1 96 ∧ ∀ g_5, g_5 = sv_st g_2 3 s1.toNatClampNeg r_3 → wp_X2_value_185 F  Q K35 v2 v3 v4 r5 v6 v7 g_5)
def wp_X2_value_35 (F : sv_Fr) (Q : Int32 → sv_Mg → Prop) : Nat → Int32 → Int32 → Int32 → Nat → Int32 → Int32 → sv_Mg → Prop
  | 0, _, _, _, _, _, _, _ => False
  | n + 1, v2, v3, v4, r5, v6, v7, g => (((nI (sv_ln F (r5 + 1))) ≤ v7 → ((v6 ≤ 0 → Q 0 g) ∧ (¬ v6 ≤ 0 → Q (g 3 0) g))) ∧ (¬ (nI (sv_ln F (r5 + 1))) ≤ v7 → vp_in v7 (sv_ln F (r5 + 1)) ∧ ∀ v8_9 : Int32, v8_9 = (g (r5 + 1) v7.toNatClampNeg) → ((20000 ≤ v8_9 → ((v8_9 = 20033 → ((v6 < 1 → wp_X2_value_185 F  Q (wp_X2_value_35 F Q  n) v2 v3 v4 r5 v6 v7 g) ∧ (¬ v6 < 1 → vp_in (v6 - 1) 96 ∧ (((g 3 (v6 - 1).toNatClampNeg) = 0 → wp_X2_value_135 F  Q (wp_X2_value_35 F Q  n) v2 v3 v4 r5 v6 v7 1 (v6 - 1) g) ∧ (¬ (g 3 (v6 - 1).toNatClampNeg) = 0 → wp_X2_value_135 F  Q (wp_X2_value_35 F Q  n) v2 v3 v4 r5 v6 v7 0 (v6 - 1) g))))) ∧ (¬ v8_9 = 20033 → ((v6 < 2 → wp_X2_value_185 F  Q (wp_X2_value_35 F Q  n) v2 v3 v4 r5 v6 v7 g) ∧ (¬ v6 < 2 → ∀ v6_13 : Int32, v6_13 = v6 + (-1) → vp_in (v6_13 - 1) 96 ∧ vp_in v6_13 96 ∧ wp_X2_joined F (v8_9 - 20000) (g 3 (v6_13 - 1).toNatClampNeg) (g 3 v6_13.toNatClampNeg) g (fun r_17 g_16 => vp_in (v6_13 - 1) 96 ∧ ∀ g_19, g_19 = sv_st g_16 3 (v6_13 - 1).toNatClampNeg r_17 → wp_X2_value_185 F  Q (wp_X2_value_35 F Q  n) v2 v3 v4 r5 v6_13 v7 g_19)))))) ∧ (¬ 20000 ≤ v8_9 → (((nI 96) ≤ v6 → wp_X2_value_185 F  Q (wp_X2_value_35 F Q  n) v2 v3 v4 r5 v6 v7 g) ∧ (¬ (nI 96) ≤ v6 → wp_X2_leaf F v8_9 v2 v3 v4 g (fun r_25 g_24 => vp_in v6 96 ∧ ∀ g_27, g_27 = sv_st g_24 3 v6.toNatClampNeg r_25 → ∀ v6_28 : Int32, v6_28 = v6 + 1 → wp_X2_value_185 F  Q (wp_X2_value_35 F Q  n) v2 v3 v4 r5 v6_28 v7 g_27)))))))
def wp_X2_value_20 (F : sv_Fr) (Q : Int32 → sv_Mg → Prop) (v2 : Int32) (v3 : Int32) (v4 : Int32) (o0 : Option Nat) (g : sv_Mg) : Prop := ((o0 = none → Q 0 g) ∧ (∀ qo0, o0 = some qo0 → ∃ n_29, wp_X2_value_35 F  Q  n_29 v2 v3 v4 qo0 0 0 g))
def wp_X2_value (F : sv_Fr) (v1 : Int32) (v2 : Int32) (v3 : Int32) (v4 : Int32) (g : sv_Mg) (Q : Int32 → sv_Mg → Prop) : Prop := wp_X6_isWithin F v1 0 13 g (fun r_31 g_30 => ((r_31 = 0 → wp_X2_value_20 F  Q  v2 v3 v4 none g_30) ∧ (¬ r_31 = 0 → vp_in v1 14 ∧ ((F.2 2 v1.toNatClampNeg = none → wp_X2_value_20 F  Q  v2 v3 v4 none g_30) ∧ (∀ q_34, F.2 2 v1.toNatClampNeg = some q_34 → wp_X2_value_20 F  Q  v2 v3 v4 (some q_34) g_30)))))
set_option maxRecDepth 100000 in
set_option maxHeartbeats 4000000 in
theorem aw_X2_value_185 {x : sv_X} {b : Nat} {xt : sv_Xt} {F : sv_Fr} {Q : Int32 → sv_Mg → Prop} (G : sv_G x b xt RX2 cX2_value 9) (RR : sv_R x 2 42 0 0) (T : sv_RT x (some .int)) (hL : sv_Lay F) {K35 : Int32 → Int32 → Int32 → Nat → Int32 → Int32 → sv_Mg → Prop} (hK35 : ∀ (v2 : Int32) (v3 : Int32) (v4 : Int32) (r5 : Nat) (v6 : Int32) (v7 : Int32) (g : sv_Mg), (sv_Law F r5) → K35 v2 v3 v4 r5 v6 v7 g → sv_AW x (sv_Q x (sv_qI F Q) 0 0) F g 0 0 35 [(0, .ref (b + 1)), (2, .int v2), (3, .int v3), (4, .int v4), (5, .ref (b + r5)), (6, .int v6), (7, .int v7)] []) : ∀ (v2 : Int32) (v3 : Int32) (v4 : Int32) (r5 : Nat) (v6 : Int32) (v7 : Int32) (g : sv_Mg), (sv_Law F r5) → wp_X2_value_185 F Q K35 v2 v3 v4 r5 v6 v7 g → sv_AW x (sv_Q x (sv_qI F Q) 0 0) F g 0 0 185 [(0, .ref (b + 1)), (2, .int v2), (3, .int v3), (4, .int v4), (5, .ref (b + r5)), (6, .int v6), (7, .int v7)] [] := by
  intro v2 v3 v4 r5 v6 v7 g hr5 h
  unfold wp_X2_value_185 at h
  obtain ⟨v7_1, ev7_1⟩ : ∃ y : Int32, y = v7 + 1 := ⟨_, rfl⟩
  have h := h v7_1 ev7_1
  refine sv_iinc (pc := 185) G dX2_value_185 6 v7_1 [(7, .int v7_1), (0, .ref (b + 1)), (2, .int v2), (3, .int v3), (4, .int v4), (5, .ref (b + r5)), (6, .int v6)] (by rw [ev7_1, ic_1]) rfl (by decide) rfl ?_
  refine sv_goto (pc := 188) G dX2_value_188 35 (by decide) ?_
  refine sv_locs [1, 2, 3, 4, 5, 6, 0] [(0, .ref (b + 1)), (2, .int v2), (3, .int v3), (4, .int v4), (5, .ref (b + r5)), (6, .int v6), (7, .int v7_1)] rfl ?_
  exact hK35 v2 v3 v4 r5 v6 v7_1 g hr5 h
set_option maxRecDepth 100000 in
set_option maxHeartbeats 4000000 in
theorem aw_X2_value_135 {x : sv_X} {b : Nat} {xt : sv_Xt} {F : sv_Fr} {Q : Int32 → sv_Mg → Prop} (G : sv_G x b xt RX2 cX2_value 9) (RR : sv_R x 2 42 0 0) (T : sv_RT x (some .int)) (hL : sv_Lay F) {K35 : Int32 → Int32 → Int32 → Nat → Int32 → Int32 → sv_Mg → Prop} (hK35 : ∀ (v2 : Int32) (v3 : Int32) (v4 : Int32) (r5 : Nat) (v6 : Int32) (v7 : Int32) (g : sv_Mg), (sv_Law F r5) → K35 v2 v3 v4 r5 v6 v7 g → sv_AW x (sv_Q x (sv_qI F Q) 0 0) F g 0 0 35 [(0, .ref (b + 1)), (2, .int v2), (3, .int v3), (4, .int v4), (5, .ref (b + r5)), (6, .int v6), (7, .int v7)] []) : ∀ (v2 : Int32) (v3 : Int32) (v4 : Int32) (r5 : Nat) (v6 : Int32) (v7 : Int32) (s0 : Int32) (s1 : Int32) (g : sv_Mg), (sv_Law F r5) → wp_X2_value_135 F Q K35 v2 v3 v4 r5 v6 v7 s0 s1 g → sv_AW x (sv_Q x (sv_qI F Q) 0 0) F g 0 0 135 [(0, .ref (b + 1)), (2, .int v2), (3, .int v3), (4, .int v4), (5, .ref (b + r5)), (6, .int v6), (7, .int v7)] [.int s0, .int s1, .ref (b + 3)] := by
  intro v2 v3 v4 r5 v6 v7 s0 s1 g hr5 h
  unfold wp_X2_value_135 at h
  refine sv_callS (cs := 0) (sl := 0) (st := [.int s1, .ref (b + 3)]) (As := [.int s0]) (pc := 135) G RR (c_X2_truth hL  h) mw_X2_truth lk_X2_42 rfl ⟨(Nat.le_of_ble_eq_true rfl), (Nat.le_of_ble_eq_true rfl)⟩ ⟨(Nat.le_of_ble_eq_true rfl), (Nat.le_of_ble_eq_true rfl)⟩ (Nat.le_of_ble_eq_true rfl) rfl dX2_value_135 (sv_kI (fun r_3 g_2 h => ?_))
  obtain ⟨s_4, h⟩ := h
  refine sv_iastK (pc := 138) G (hL.sh rfl) s_4 s1.toNatClampNeg rfl dX2_value_138 (fun g_5 eg_5 => ?_)
  have h := h g_5 eg_5
  refine sv_goto (pc := 139) G dX2_value_139 185 (by decide) ?_
  refine sv_locs [0, 1, 2, 3, 4, 5, 6] [(0, .ref (b + 1)), (2, .int v2), (3, .int v3), (4, .int v4), (5, .ref (b + r5)), (6, .int v6), (7, .int v7)] rfl ?_
  exact aw_X2_value_185 G RR T hL  hK35 v2 v3 v4 r5 v6 v7 g_5 hr5 h
set_option maxRecDepth 100000 in
set_option maxHeartbeats 4000000 in
theorem aw_X2_value_35 {x : sv_X} {b : Nat} {xt : sv_Xt} {F : sv_Fr} {Q : Int32 → sv_Mg → Prop} (G : sv_G x b xt RX2 cX2_value 9) (RR : sv_R x 2 42 0 0) (T : sv_RT x (some .int)) (hL : sv_Lay F) : ∀ (n : Nat) (v2 : Int32) (v3 : Int32) (v4 : Int32) (r5 : Nat) (v6 : Int32) (v7 : Int32) (g : sv_Mg), (sv_Law F r5) → wp_X2_value_35 F Q  n v2 v3 v4 r5 v6 v7 g → sv_AW x (sv_Q x (sv_qI F Q) 0 0) F g 0 0 35 [(0, .ref (b + 1)), (2, .int v2), (3, .int v3), (4, .int v4), (5, .ref (b + r5)), (6, .int v6), (7, .int v7)] [] := by
  intro n
  induction n with
  | zero => intro v2 v3 v4 r5 v6 v7 g hr5 h; exact h.elim
  | succ n ih =>
    intro v2 v3 v4 r5 v6 v7 g hr5 h
    rw [wp_X2_value_35] at h
    refine sv_iload (pc := 35) G dX2_value_35 6 rfl ?_
    refine sv_aload (pc := 37) G dX2_value_37 4 rfl ?_
    refine sv_getR (pc := 39) G fw_X2_35 hr5.2.1 rfl hr5.2.2.1 dX2_value_39 ?_
    refine sv_alen (pc := 42) G hr5.ln dX2_value_42 ?_
    refine sv_ic_ge (pc := 43) G 191 (by decide) dX2_value_43 (fun c_6 => ?_) (fun c_6 => ?_)
    · have h := h.1 c_6
      refine sv_iload (pc := 191) G dX2_value_191 5 rfl ?_
      refine sv_if_le (pc := 193) G 205 (by decide) dX2_value_193 (fun c_7 => ?_) (fun c_7 => ?_)
      · have h := h.1 c_7
        refine sv_iconst (pc := 205) G dX2_value_205 0 ic_0 ?_
        exact sv_ireturn (pc := 206) G T ⟨(Nat.le_of_ble_eq_true rfl), (Nat.le_of_ble_eq_true rfl)⟩ dX2_value_206 ⟨_, rfl, rfl, h⟩
      · have h := h.2 c_7
        refine sv_aload_n (pc := 196) G dX2_value_196 0 rfl ?_
        refine sv_getR (pc := 197) G fw_X2_17 (hL.sh rfl) rfl (hL.rf 10 rfl) dX2_value_197 ?_
        refine sv_iconst (pc := 200) G dX2_value_200 0 ic_0 ?_
        refine sv_ialdK (pc := 201) G (hL.sh rfl) vi_0_96 0 tn_0 dX2_value_201 ?_
        refine sv_goto (pc := 202) G dX2_value_202 206 (by decide) ?_
        exact sv_ireturn (pc := 206) G T ⟨(Nat.le_of_ble_eq_true rfl), (Nat.le_of_ble_eq_true rfl)⟩ dX2_value_206 ⟨_, rfl, rfl, h⟩
    · have h := h.2 c_6
      refine sv_aload (pc := 46) G dX2_value_46 4 rfl ?_
      refine sv_getR (pc := 48) G fw_X2_35 hr5.2.1 rfl hr5.2.2.1 dX2_value_48 ?_
      refine sv_iload (pc := 51) G dX2_value_51 6 rfl ?_
      obtain ⟨s_8, h⟩ := h
      refine sv_ialdK (pc := 53) G hr5.ln s_8 v7.toNatClampNeg rfl dX2_value_53 ?_
      refine sv_topi (fun v8_9 ev8_9 => ?_)
      have h := h v8_9 ev8_9
      refine sv_istore (pc := 54) G dX2_value_54 [(8, .int v8_9), (0, .ref (b + 1)), (2, .int v2), (3, .int v3), (4, .int v4), (5, .ref (b + r5)), (6, .int v6), (7, .int v7)] (by decide) rfl ?_
      refine sv_iload (pc := 56) G dX2_value_56 0 rfl ?_
      refine sv_sipush (pc := 58) G dX2_value_58 20000 sp_20000 ?_
      refine sv_ic_ge (pc := 61) G 96 (by decide) dX2_value_61 (fun c_10 => ?_) (fun c_10 => ?_)
      · have h := h.1 c_10
        refine sv_iload (pc := 96) G dX2_value_96 0 rfl ?_
        refine sv_sipush (pc := 98) G dX2_value_98 20033 sp_20033 ?_
        refine sv_ic_ne (pc := 101) G 142 (by decide) dX2_value_101 (fun c_11 => ?_) (fun c_11 => ?_)
        · have h := h.2 c_11
          refine sv_iload (pc := 142) G dX2_value_142 6 rfl ?_
          refine sv_iconst (pc := 144) G dX2_value_144 2 ic_2 ?_
          refine sv_ic_lt (pc := 145) G 185 (by decide) dX2_value_145 (fun c_12 => ?_) (fun c_12 => ?_)
          · have h := h.1 c_12
            refine sv_locs [1, 2, 3, 4, 5, 6, 7] [(0, .ref (b + 1)), (2, .int v2), (3, .int v3), (4, .int v4), (5, .ref (b + r5)), (6, .int v6), (7, .int v7)] rfl ?_
            exact aw_X2_value_185 G RR T hL  ih v2 v3 v4 r5 v6 v7 g hr5 h
          · have h := h.2 c_12
            obtain ⟨v6_13, ev6_13⟩ : ∃ y : Int32, y = v6 + (-1) := ⟨_, rfl⟩
            have h := h v6_13 ev6_13
            refine sv_iinc (pc := 148) G dX2_value_148 6 v6_13 [(6, .int v6_13), (8, .int v8_9), (0, .ref (b + 1)), (2, .int v2), (3, .int v3), (4, .int v4), (5, .ref (b + r5)), (7, .int v7)] (by rw [ev6_13, ic_m1]) rfl (by decide) rfl ?_
            refine sv_aload_n (pc := 151) G dX2_value_151 2 rfl ?_
            refine sv_getR (pc := 152) G fw_X2_17 (hL.sh rfl) rfl (hL.rf 10 rfl) dX2_value_152 ?_
            refine sv_iload (pc := 155) G dX2_value_155 0 rfl ?_
            refine sv_iconst (pc := 157) G dX2_value_157 1 ic_1 ?_
            refine sv_isub (pc := 158) G dX2_value_158 ?_
            refine sv_iload (pc := 159) G dX2_value_159 1 rfl ?_
            refine sv_sipush (pc := 161) G dX2_value_161 20000 sp_20000 ?_
            refine sv_isub (pc := 164) G dX2_value_164 ?_
            refine sv_aload_n (pc := 165) G dX2_value_165 2 rfl ?_
            refine sv_getR (pc := 166) G fw_X2_17 (hL.sh rfl) rfl (hL.rf 10 rfl) dX2_value_166 ?_
            refine sv_iload (pc := 169) G dX2_value_169 0 rfl ?_
            refine sv_iconst (pc := 171) G dX2_value_171 1 ic_1 ?_
            refine sv_isub (pc := 172) G dX2_value_172 ?_
            obtain ⟨s_14, h⟩ := h
            refine sv_ialdK (pc := 173) G (hL.sh rfl) s_14 (v6_13 - 1).toNatClampNeg rfl dX2_value_173 ?_
            refine sv_aload_n (pc := 174) G dX2_value_174 2 rfl ?_
            refine sv_getR (pc := 175) G fw_X2_17 (hL.sh rfl) rfl (hL.rf 10 rfl) dX2_value_175 ?_
            refine sv_iload (pc := 178) G dX2_value_178 0 rfl ?_
            obtain ⟨s_15, h⟩ := h
            refine sv_ialdK (pc := 180) G (hL.sh rfl) s_15 v6_13.toNatClampNeg rfl dX2_value_180 ?_
            refine sv_callS (cs := 0) (sl := 0) (st := [.int (v6_13 - 1), .ref (b + 3)]) (As := [.int (v8_9 - 20000), .int (g 3 (v6_13 - 1).toNatClampNeg), .int (g 3 v6_13.toNatClampNeg)]) (pc := 181) G RR (c_X2_joined hL  h) mw_X2_joined lk_X2_46 rfl ⟨(Nat.le_of_ble_eq_true rfl), (Nat.le_of_ble_eq_true rfl)⟩ ⟨(Nat.le_of_ble_eq_true rfl), (Nat.le_of_ble_eq_true rfl)⟩ (Nat.le_of_ble_eq_true rfl) rfl dX2_value_181 (sv_kI (fun r_17 g_16 h => ?_))
            obtain ⟨s_18, h⟩ := h
            refine sv_iastK (pc := 184) G (hL.sh rfl) s_18 (v6_13 - 1).toNatClampNeg rfl dX2_value_184 (fun g_19 eg_19 => ?_)
            have h := h g_19 eg_19
            refine sv_locs [2, 3, 4, 5, 6, 0, 7] [(0, .ref (b + 1)), (2, .int v2), (3, .int v3), (4, .int v4), (5, .ref (b + r5)), (6, .int v6_13), (7, .int v7)] rfl ?_
            exact aw_X2_value_185 G RR T hL  ih v2 v3 v4 r5 v6_13 v7 g_19 hr5 h
        · have h := h.1 c_11
          refine sv_iload (pc := 104) G dX2_value_104 6 rfl ?_
          refine sv_iconst (pc := 106) G dX2_value_106 1 ic_1 ?_
          refine sv_ic_lt (pc := 107) G 185 (by decide) dX2_value_107 (fun c_20 => ?_) (fun c_20 => ?_)
          · have h := h.1 c_20
            refine sv_locs [1, 2, 3, 4, 5, 6, 7] [(0, .ref (b + 1)), (2, .int v2), (3, .int v3), (4, .int v4), (5, .ref (b + r5)), (6, .int v6), (7, .int v7)] rfl ?_
            exact aw_X2_value_185 G RR T hL  ih v2 v3 v4 r5 v6 v7 g hr5 h
          · have h := h.2 c_20
            refine sv_aload_n (pc := 110) G dX2_value_110 1 rfl ?_
            refine sv_getR (pc := 111) G fw_X2_17 (hL.sh rfl) rfl (hL.rf 10 rfl) dX2_value_111 ?_
            refine sv_iload (pc := 114) G dX2_value_114 6 rfl ?_
            refine sv_iconst (pc := 116) G dX2_value_116 1 ic_1 ?_
            refine sv_isub (pc := 117) G dX2_value_117 ?_
            refine sv_aload_n (pc := 118) G dX2_value_118 1 rfl ?_
            refine sv_getR (pc := 119) G fw_X2_17 (hL.sh rfl) rfl (hL.rf 10 rfl) dX2_value_119 ?_
            refine sv_iload (pc := 122) G dX2_value_122 6 rfl ?_
            refine sv_iconst (pc := 124) G dX2_value_124 1 ic_1 ?_
            refine sv_isub (pc := 125) G dX2_value_125 ?_
            obtain ⟨s_21, h⟩ := h
            refine sv_ialdK (pc := 126) G (hL.sh rfl) s_21 (v6 - 1).toNatClampNeg rfl dX2_value_126 ?_
            refine sv_if_ne (pc := 127) G 134 (by decide) dX2_value_127 (fun c_22 => ?_) (fun c_22 => ?_)
            · have h := h.2 c_22
              refine sv_iconst (pc := 134) G dX2_value_134 0 ic_0 ?_
              refine sv_locs [1, 2, 3, 4, 5, 6, 7] [(0, .ref (b + 1)), (2, .int v2), (3, .int v3), (4, .int v4), (5, .ref (b + r5)), (6, .int v6), (7, .int v7)] rfl ?_
              exact aw_X2_value_135 G RR T hL  ih v2 v3 v4 r5 v6 v7 0 (v6 - 1) g hr5 h
            · have h := h.1 c_22
              refine sv_iconst (pc := 130) G dX2_value_130 1 ic_1 ?_
              refine sv_goto (pc := 131) G dX2_value_131 135 (by decide) ?_
              refine sv_locs [1, 2, 3, 4, 5, 6, 7] [(0, .ref (b + 1)), (2, .int v2), (3, .int v3), (4, .int v4), (5, .ref (b + r5)), (6, .int v6), (7, .int v7)] rfl ?_
              exact aw_X2_value_135 G RR T hL  ih v2 v3 v4 r5 v6 v7 1 (v6 - 1) g hr5 h
      · have h := h.2 c_10
        refine sv_iload (pc := 64) G dX2_value_64 6 rfl ?_
        refine sv_aload_n (pc := 66) G dX2_value_66 1 rfl ?_
        refine sv_getR (pc := 67) G fw_X2_17 (hL.sh rfl) rfl (hL.rf 10 rfl) dX2_value_67 ?_
        refine sv_alen (pc := 70) G (hL.sh rfl) dX2_value_70 ?_
        refine sv_ic_ge (pc := 71) G 185 (by decide) dX2_value_71 (fun c_23 => ?_) (fun c_23 => ?_)
        · have h := h.1 c_23
          refine sv_locs [1, 2, 3, 4, 5, 6, 7] [(0, .ref (b + 1)), (2, .int v2), (3, .int v3), (4, .int v4), (5, .ref (b + r5)), (6, .int v6), (7, .int v7)] rfl ?_
          exact aw_X2_value_185 G RR T hL  ih v2 v3 v4 r5 v6 v7 g hr5 h
        · have h := h.2 c_23
          refine sv_aload_n (pc := 74) G dX2_value_74 1 rfl ?_
          refine sv_getR (pc := 75) G fw_X2_17 (hL.sh rfl) rfl (hL.rf 10 rfl) dX2_value_75 ?_
          refine sv_iload (pc := 78) G dX2_value_78 6 rfl ?_
          refine sv_iload (pc := 80) G dX2_value_80 0 rfl ?_
          refine sv_iload_n (pc := 82) G dX2_value_82 2 rfl ?_
          refine sv_iload_n (pc := 83) G dX2_value_83 3 rfl ?_
          refine sv_iload (pc := 84) G dX2_value_84 4 rfl ?_
          refine sv_callS (cs := 0) (sl := 0) (st := [.int v6, .ref (b + 3)]) (As := [.int v8_9, .int v2, .int v3, .int v4]) (pc := 86) G RR (c_X2_leaf hL  h) mw_X2_leaf lk_X2_38 rfl ⟨(Nat.le_of_ble_eq_true rfl), (Nat.le_of_ble_eq_true rfl)⟩ ⟨(Nat.le_of_ble_eq_true rfl), (Nat.le_of_ble_eq_true rfl)⟩ (Nat.le_of_ble_eq_true rfl) rfl dX2_value_86 (sv_kI (fun r_25 g_24 h => ?_))
          obtain ⟨s_26, h⟩ := h
          refine sv_iastK (pc := 89) G (hL.sh rfl) s_26 v6.toNatClampNeg rfl dX2_value_89 (fun g_27 eg_27 => ?_)
          have h := h g_27 eg_27
          obtain ⟨v6_28, ev6_28⟩ : ∃ y : Int32, y = v6 + 1 := ⟨_, rfl⟩
          have h := h v6_28 ev6_28
          refine sv_iinc (pc := 90) G dX2_value_90 6 v6_28 [(6, .int v6_28), (8, .int v8_9), (0, .ref (b + 1)), (2, .int v2), (3, .int v3), (4, .int v4), (5, .ref (b + r5)), (7, .int v7)] (by rw [ev6_28, ic_1]) rfl (by decide) rfl ?_
          refine sv_goto (pc := 93) G dX2_value_93 185 (by decide) ?_
          refine sv_locs [2, 3, 4, 5, 6, 0, 7] [(0, .ref (b + 1)), (2, .int v2), (3, .int v3), (4, .int v4), (5, .ref (b + r5)), (6, .int v6_28), (7, .int v7)] rfl ?_
          exact aw_X2_value_185 G RR T hL  ih v2 v3 v4 r5 v6_28 v7 g_27 hr5 h
set_option maxRecDepth 100000 in
set_option maxHeartbeats 4000000 in
theorem aw_X2_value_20 {x : sv_X} {b : Nat} {xt : sv_Xt} {F : sv_Fr} {Q : Int32 → sv_Mg → Prop} (G : sv_G x b xt RX2 cX2_value 9) (RR : sv_R x 2 42 0 0) (T : sv_RT x (some .int)) (hL : sv_Lay F) : ∀ (v2 : Int32) (v3 : Int32) (v4 : Int32) (o0 : Option Nat) (g : sv_Mg), (∀ q, o0 = some q → sv_Law F q) → wp_X2_value_20 F Q  v2 v3 v4 o0 g → sv_AW x (sv_Q x (sv_qI F Q) 0 0) F g 0 0 20 [(0, .ref (b + 1)), (2, .int v2), (3, .int v3), (4, .int v4)] [sv_rv b o0] := by
  intro v2 v3 v4 o0 g ho0 h
  unfold wp_X2_value_20 at h
  rcases o0 with _ | qo0
  · have h := h.1 rfl
    refine sv_astoreN (pc := 20) G dX2_value_20 [(5, .null), (0, .ref (b + 1)), (2, .int v2), (3, .int v3), (4, .int v4)] (by decide) rfl ?_
    refine sv_aloadN (pc := 22) G dX2_value_22 0 rfl ?_
    refine sv_ifnnN (pc := 24) G dX2_value_24 ?_
    refine sv_iconst (pc := 27) G dX2_value_27 0 ic_0 ?_
    exact sv_ireturn (pc := 28) G T ⟨(Nat.le_of_ble_eq_true rfl), (Nat.le_of_ble_eq_true rfl)⟩ dX2_value_28 ⟨_, rfl, rfl, h⟩
  · have h := h.2 qo0 rfl
    refine sv_astore (pc := 20) G dX2_value_20 [(5, .ref (b + qo0)), (0, .ref (b + 1)), (2, .int v2), (3, .int v3), (4, .int v4)] (by decide) rfl ?_
    refine sv_aload (pc := 22) G dX2_value_22 0 rfl ?_
    refine sv_ifnn (pc := 24) G dX2_value_24 29 (by decide) ?_
    refine sv_iconst (pc := 29) G dX2_value_29 0 ic_0 ?_
    refine sv_istore (pc := 30) G dX2_value_30 [(6, .int 0), (5, .ref (b + qo0)), (0, .ref (b + 1)), (2, .int v2), (3, .int v3), (4, .int v4)] (by decide) rfl ?_
    refine sv_iconst (pc := 32) G dX2_value_32 0 ic_0 ?_
    refine sv_istore (pc := 33) G dX2_value_33 [(7, .int 0), (6, .int 0), (5, .ref (b + qo0)), (0, .ref (b + 1)), (2, .int v2), (3, .int v3), (4, .int v4)] (by decide) rfl ?_
    refine sv_locs [3, 4, 5, 6, 2, 1, 0] [(0, .ref (b + 1)), (2, .int v2), (3, .int v3), (4, .int v4), (5, .ref (b + qo0)), (6, .int 0), (7, .int 0)] rfl ?_
    obtain ⟨n_29, h⟩ := h
    exact aw_X2_value_35 G RR T hL   n_29 v2 v3 v4 qo0 0 0 g (ho0 _ rfl) h
set_option maxRecDepth 100000 in
set_option maxHeartbeats 4000000 in
theorem c_X2_value {b : Nat} {xt : sv_Xt} {F : sv_Fr} {v1 : Int32} {v2 : Int32} {v3 : Int32} {v4 : Int32} {g : sv_Mg} {Q : Int32 → sv_Mg → Prop} (hL : sv_Lay F) (h : wp_X2_value F v1 v2 v3 v4 g Q) : sv_Cal yX2_value cX2_value 9 (some .int) 2 42 0 0 b xt [.ref (b + 1), .int v1, .int v2, .int v3, .int v4] F g (sv_qI F Q) := by
  refine sv_intro mw_X2_value [(0, .ref (b + 1)), (1, .int v1), (2, .int v2), (3, .int v3), (4, .int v4)] rfl (Nat.le_of_ble_eq_true rfl) (fun x G RR T NM => ?_)
  have G : sv_G x b xt RX2 cX2_value 9 := G
  unfold wp_X2_value at h
  refine sv_iload_n (pc := 0) G dX2_value_0 1 rfl ?_
  refine sv_iconst (pc := 1) G dX2_value_1 0 ic_0 ?_
  refine sv_bipush (pc := 2) G dX2_value_2 13 bp_13 ?_
  refine sv_callSN (cs := 0) (sl := 0) (st := []) (As := [.int v1, .int 0, .int 13]) (pc := 4) G RR (c_X6_isWithin hL  h) mw_X6_isWithin lk_X2_31 rfl ⟨(Nat.le_of_ble_eq_true rfl), (Nat.le_of_ble_eq_true rfl)⟩ ⟨(Nat.le_of_ble_eq_true rfl), (Nat.le_of_ble_eq_true rfl)⟩ (Nat.le_of_ble_eq_true rfl) rfl dX2_value_4 (sv_kI (fun r_31 g_30 h => ?_))
  refine sv_if_eq (pc := 7) G 19 (by decide) dX2_value_7 (fun c_32 => ?_) (fun c_32 => ?_)
  · have h := h.1 c_32
    refine sv_null (pc := 19) G dX2_value_19 ?_
    refine sv_locs [0, 2, 3, 4] [(0, .ref (b + 1)), (2, .int v2), (3, .int v3), (4, .int v4)] rfl ?_
    exact aw_X2_value_20 G RR T hL   v2 v3 v4 none g_30 (fun _ h => by cases h) h
  · have h := h.2 c_32
    refine sv_aload_n (pc := 10) G dX2_value_10 0 rfl ?_
    refine sv_getR (pc := 11) G fw_X2_11 (hL.sh rfl) rfl (hL.rf 9 rfl) dX2_value_11 ?_
    refine sv_iload_n (pc := 14) G dX2_value_14 1 rfl ?_
    obtain ⟨s_33, h⟩ := h
    rcases eq_34 : F.2 2 v1.toNatClampNeg with _ | q_34
    · have h := h.1 eq_34
      refine sv_aaldN (pc := 15) G 3 (fun _ => rfl) (by decide) (hL.sh rfl) s_33 eq_34 dX2_value_15 ?_
      refine sv_goto (pc := 16) G dX2_value_16 20 (by decide) ?_
      refine sv_locs [0, 2, 3, 4] [(0, .ref (b + 1)), (2, .int v2), (3, .int v3), (4, .int v4)] rfl ?_
      exact aw_X2_value_20 G RR T hL   v2 v3 v4 none g_30 (fun _ h => by cases h) h
    · have h := h.2 q_34 eq_34
      refine sv_aaldR (pc := 15) G 3 (fun _ => rfl) (by decide) (hL.sh rfl) s_33 eq_34 dX2_value_15 ?_
      refine sv_goto (pc := 16) G dX2_value_16 20 (by decide) ?_
      refine sv_locs [0, 2, 3, 4] [(0, .ref (b + 1)), (2, .int v2), (3, .int v3), (4, .int v4)] rfl ?_
      exact aw_X2_value_20 G RR T hL   v2 v3 v4 (some q_34) g_30 (fun _ h => by cases h; exact (hL.2.2 _ _ eq_34)) h
def wp_X6_held (F : sv_Fr) (v0 : Int32) (v1 : Int32) (v2 : Int32) (g : sv_Mg) (Q : Int32 → sv_Mg → Prop) : Prop := Q (if v1 < (if v0 < v2 then v0 else v2) then (if v0 < v2 then v0 else v2) else v1) g
set_option maxRecDepth 100000 in
set_option maxHeartbeats 4000000 in
theorem c_X6_held {b : Nat} {xt : sv_Xt} {F : sv_Fr} {v0 : Int32} {v1 : Int32} {v2 : Int32} {g : sv_Mg} {Q : Int32 → sv_Mg → Prop} (hL : sv_Lay F) (h : wp_X6_held F v0 v1 v2 g Q) : sv_Cal yX6_held cX6_held 3 (some .int) 1 21 0 0 b xt [.int v0, .int v1, .int v2] F g (sv_qI F Q) := by
  refine sv_intro mw_X6_held [(0, .int v0), (1, .int v1), (2, .int v2)] rfl (Nat.le_of_ble_eq_true rfl) (fun x G RR T NM => ?_)
  have G : sv_G x b xt RX6 cX6_held 3 := G
  unfold wp_X6_held at h
  refine sv_iload_n (pc := 0) G dX6_held_0 1 rfl ?_
  refine sv_iload_n (pc := 1) G dX6_held_1 2 rfl ?_
  refine sv_iload_n (pc := 2) G dX6_held_2 0 rfl ?_
  refine sv_min (pc := 3) G RR lk_X6_151 wd_min1 wd_math wd_min2 (Nat.le_of_ble_eq_true rfl) (Nat.le_of_ble_eq_true rfl) (Nat.le_of_ble_eq_true rfl) ⟨(Nat.le_of_ble_eq_true rfl), (Nat.le_of_ble_eq_true rfl)⟩ dX6_held_3 ?_
  refine sv_max (pc := 6) G RR lk_X6_315 wd_max1 wd_math wd_max2 (Nat.le_of_ble_eq_true rfl) (Nat.le_of_ble_eq_true rfl) (Nat.le_of_ble_eq_true rfl) ⟨(Nat.le_of_ble_eq_true rfl), (Nat.le_of_ble_eq_true rfl)⟩ dX6_held_6 ?_
  exact sv_ireturn (pc := 9) G T ⟨(Nat.le_of_ble_eq_true rfl), (Nat.le_of_ble_eq_true rfl)⟩ dX6_held_9 ⟨_, rfl, rfl, h⟩
def wp_X0_choiceOfSwayed_88 (F : sv_Fr) (a : Nat) (Q : Int32 → sv_Mg → Prop) (v1 : Int32) (v2 : Int32) (v3 : Int32) (s0 : Int32) (g : sv_Mg) : Prop := ((s0 = 0 → wp_X0_choiceOfPlain F a v1 v2 v3 g (fun r_3 g_2 => Q r_3 g_2)) ∧ (¬ s0 = 0 → Q v3 g))
def wp_X0_choiceOfSwayed_87 (F : sv_Fr) (a : Nat) (Q : Int32 → sv_Mg → Prop) (v1 : Int32) (v2 : Int32) (v3 : Int32) (g : sv_Mg) : Prop := wp_X0_choiceOfSwayed_88 F a Q  v1 v2 v3 0 g
def wp_X0_choiceOfSwayed_56 (F : sv_Fr) (a : Nat) (Q : Int32 → sv_Mg → Prop) (v1 : Int32) (v2 : Int32) (v3 : Int32) (s0 : Int32) (g : sv_Mg) : Prop := wp_X0_isVoter F a v3 g (fun r_5 g_4 => ((r_5 = 0 → wp_X0_choiceOfSwayed_87 F a Q  v1 v2 v3 g_4) ∧ (¬ r_5 = 0 → vp_in v3 10 ∧ wp_X6_held F s0 0 99 g_4 (fun r_9 g_8 => (((g_4 (a + 7) v3.toNatClampNeg) ≤ r_9 → wp_X0_choiceOfSwayed_87 F a Q  v1 v2 v3 g_8) ∧ (¬ (g_4 (a + 7) v3.toNatClampNeg) ≤ r_9 → wp_X0_choiceOfSwayed_88 F a Q  v1 v2 v3 1 g_8))))))
def wp_X0_choiceOfSwayed (F : sv_Fr) (a : Nat) (v1 : Int32) (v2 : Int32) (v3 : Int32) (g : sv_Mg) (Q : Int32 → sv_Mg → Prop) : Prop := wp_X2_latest F 0 (g a 18) g (fun r_12 g_11 => ((0 ≤ r_12 → vp_in v1 10 ∧ vp_in v1 10 ∧ wp_X2_value F r_12 (g_11 (a + 4) v1.toNatClampNeg) (g_11 a 14) (g_11 (a + 3) v1.toNatClampNeg) g_11 (fun r_17 g_16 => wp_X0_choiceOfSwayed_56 F a Q  v1 v2 v3 r_17 g_16)) ∧ (¬ 0 ≤ r_12 → vp_in v1 10 ∧ wp_X0_choiceOfSwayed_56 F a Q  v1 v2 v3 ((g_11 (a + 4) v1.toNatClampNeg) / 10) g_11)))
set_option maxRecDepth 100000 in
set_option maxHeartbeats 4000000 in
theorem aw_X0_choiceOfSwayed_88 {x : sv_X} {b : Nat} {xt : sv_Xt} {F : sv_Fr} {a : Nat} {Q : Int32 → sv_Mg → Prop} (G : sv_G x b xt RX0 cX0_choiceOfSwayed 7) (RR : sv_R x 3 70 0 0) (T : sv_RT x (some .int)) (hL : sv_Lay F) (ha : sv_isC a) : ∀ (v1 : Int32) (v2 : Int32) (v3 : Int32) (s0 : Int32) (g : sv_Mg), wp_X0_choiceOfSwayed_88 F a Q  v1 v2 v3 s0 g → sv_AW x (sv_Q x (sv_qI F Q) 0 0) F g 0 0 88 [(0, .ref (b + a)), (1, .int v1), (2, .int v2), (3, .int v3)] [.int s0] := by
  intro v1 v2 v3 s0 g h
  unfold wp_X0_choiceOfSwayed_88 at h
  refine sv_istore (pc := 88) G dX0_choiceOfSwayed_88 [(6, .int s0), (0, .ref (b + a)), (1, .int v1), (2, .int v2), (3, .int v3)] (by decide) rfl ?_
  refine sv_iload (pc := 90) G dX0_choiceOfSwayed_90 0 rfl ?_
  refine sv_if_eq (pc := 92) G 99 (by decide) dX0_choiceOfSwayed_92 (fun c_1 => ?_) (fun c_1 => ?_)
  · have h := h.1 c_1
    refine sv_aload_n (pc := 99) G dX0_choiceOfSwayed_99 1 rfl ?_
    refine sv_iload_n (pc := 100) G dX0_choiceOfSwayed_100 2 rfl ?_
    refine sv_iload_n (pc := 101) G dX0_choiceOfSwayed_101 3 rfl ?_
    refine sv_iload_n (pc := 102) G dX0_choiceOfSwayed_102 4 rfl ?_
    refine sv_callV (cs := 0) (sl := 0) (st := []) (As := [.int v1, .int v2, .int v3]) (a := a) (pc := 103) G RR (c_X0_choiceOfPlain hL ha h) mw_X0_choiceOfPlain lk_X0_137 (hL.cS ha) (by decide) rfl rfl ⟨(Nat.le_of_ble_eq_true rfl), (Nat.le_of_ble_eq_true rfl)⟩ ⟨(Nat.le_of_ble_eq_true rfl), (Nat.le_of_ble_eq_true rfl)⟩ (Nat.le_of_ble_eq_true rfl) rfl dX0_choiceOfSwayed_103 (sv_kI (fun r_3 g_2 h => ?_))
    exact sv_ireturn (pc := 106) G T ⟨(Nat.le_of_ble_eq_true rfl), (Nat.le_of_ble_eq_true rfl)⟩ dX0_choiceOfSwayed_106 ⟨_, rfl, rfl, h⟩
  · have h := h.2 c_1
    refine sv_iload_n (pc := 95) G dX0_choiceOfSwayed_95 4 rfl ?_
    refine sv_goto (pc := 96) G dX0_choiceOfSwayed_96 106 (by decide) ?_
    exact sv_ireturn (pc := 106) G T ⟨(Nat.le_of_ble_eq_true rfl), (Nat.le_of_ble_eq_true rfl)⟩ dX0_choiceOfSwayed_106 ⟨_, rfl, rfl, h⟩
set_option maxRecDepth 100000 in
set_option maxHeartbeats 4000000 in
theorem aw_X0_choiceOfSwayed_87 {x : sv_X} {b : Nat} {xt : sv_Xt} {F : sv_Fr} {a : Nat} {Q : Int32 → sv_Mg → Prop} (G : sv_G x b xt RX0 cX0_choiceOfSwayed 7) (RR : sv_R x 3 70 0 0) (T : sv_RT x (some .int)) (hL : sv_Lay F) (ha : sv_isC a) : ∀ (v1 : Int32) (v2 : Int32) (v3 : Int32) (g : sv_Mg), wp_X0_choiceOfSwayed_87 F a Q  v1 v2 v3 g → sv_AW x (sv_Q x (sv_qI F Q) 0 0) F g 0 0 87 [(0, .ref (b + a)), (1, .int v1), (2, .int v2), (3, .int v3)] [] := by
  intro v1 v2 v3 g h
  unfold wp_X0_choiceOfSwayed_87 at h
  refine sv_iconst (pc := 87) G dX0_choiceOfSwayed_87 0 ic_0 ?_
  refine sv_locs [0, 1, 2, 3] [(0, .ref (b + a)), (1, .int v1), (2, .int v2), (3, .int v3)] rfl ?_
  exact aw_X0_choiceOfSwayed_88 G RR T hL ha  v1 v2 v3 0 g  h
set_option maxRecDepth 100000 in
set_option maxHeartbeats 4000000 in
theorem aw_X0_choiceOfSwayed_56 {x : sv_X} {b : Nat} {xt : sv_Xt} {F : sv_Fr} {a : Nat} {Q : Int32 → sv_Mg → Prop} (G : sv_G x b xt RX0 cX0_choiceOfSwayed 7) (RR : sv_R x 3 70 0 0) (T : sv_RT x (some .int)) (hL : sv_Lay F) (ha : sv_isC a) : ∀ (v1 : Int32) (v2 : Int32) (v3 : Int32) (s0 : Int32) (g : sv_Mg), wp_X0_choiceOfSwayed_56 F a Q  v1 v2 v3 s0 g → sv_AW x (sv_Q x (sv_qI F Q) 0 0) F g 0 0 56 [(0, .ref (b + a)), (1, .int v1), (2, .int v2), (3, .int v3)] [.int s0] := by
  intro v1 v2 v3 s0 g h
  unfold wp_X0_choiceOfSwayed_56 at h
  refine sv_istore (pc := 56) G dX0_choiceOfSwayed_56 [(5, .int s0), (0, .ref (b + a)), (1, .int v1), (2, .int v2), (3, .int v3)] (by decide) rfl ?_
  refine sv_aload_n (pc := 58) G dX0_choiceOfSwayed_58 1 rfl ?_
  refine sv_iload_n (pc := 59) G dX0_choiceOfSwayed_59 4 rfl ?_
  refine sv_callV (cs := 0) (sl := 0) (st := []) (As := [.int v3]) (a := a) (pc := 60) G RR (c_X0_isVoter hL ha h) mw_X0_isVoter lk_X0_117 (hL.cS ha) (by decide) rfl rfl ⟨(Nat.le_of_ble_eq_true rfl), (Nat.le_of_ble_eq_true rfl)⟩ ⟨(Nat.le_of_ble_eq_true rfl), (Nat.le_of_ble_eq_true rfl)⟩ (Nat.le_of_ble_eq_true rfl) rfl dX0_choiceOfSwayed_60 (sv_kI (fun r_5 g_4 h => ?_))
  refine sv_if_eq (pc := 63) G 87 (by decide) dX0_choiceOfSwayed_63 (fun c_6 => ?_) (fun c_6 => ?_)
  · have h := h.1 c_6
    refine sv_locs [1, 2, 3, 4] [(0, .ref (b + a)), (1, .int v1), (2, .int v2), (3, .int v3)] rfl ?_
    exact aw_X0_choiceOfSwayed_87 G RR T hL ha  v1 v2 v3 g_4  h
  · have h := h.2 c_6
    refine sv_aload_n (pc := 66) G dX0_choiceOfSwayed_66 1 rfl ?_
    refine sv_getR (pc := 67) G fw_X0_30 (hL.cS ha) rfl (hL.cR7 ha) dX0_choiceOfSwayed_67 ?_
    refine sv_iload_n (pc := 70) G dX0_choiceOfSwayed_70 4 rfl ?_
    obtain ⟨s_7, h⟩ := h
    refine sv_ialdK (pc := 71) G (hL.cA7 ha) s_7 v3.toNatClampNeg rfl dX0_choiceOfSwayed_71 ?_
    refine sv_iload (pc := 72) G dX0_choiceOfSwayed_72 0 rfl ?_
    refine sv_iconst (pc := 74) G dX0_choiceOfSwayed_74 0 ic_0 ?_
    refine sv_bipush (pc := 75) G dX0_choiceOfSwayed_75 99 bp_99 ?_
    refine sv_callSN (cs := 0) (sl := 0) (st := [.int (g_4 (a + 7) v3.toNatClampNeg)]) (As := [.int s0, .int 0, .int 99]) (pc := 77) G RR (c_X6_held hL  h) mw_X6_held lk_X0_150 rfl ⟨(Nat.le_of_ble_eq_true rfl), (Nat.le_of_ble_eq_true rfl)⟩ ⟨(Nat.le_of_ble_eq_true rfl), (Nat.le_of_ble_eq_true rfl)⟩ (Nat.le_of_ble_eq_true rfl) rfl dX0_choiceOfSwayed_77 (sv_kI (fun r_9 g_8 h => ?_))
    refine sv_ic_le (pc := 80) G 87 (by decide) dX0_choiceOfSwayed_80 (fun c_10 => ?_) (fun c_10 => ?_)
    · have h := h.1 c_10
      refine sv_locs [1, 2, 3, 4] [(0, .ref (b + a)), (1, .int v1), (2, .int v2), (3, .int v3)] rfl ?_
      exact aw_X0_choiceOfSwayed_87 G RR T hL ha  v1 v2 v3 g_8  h
    · have h := h.2 c_10
      refine sv_iconst (pc := 83) G dX0_choiceOfSwayed_83 1 ic_1 ?_
      refine sv_goto (pc := 84) G dX0_choiceOfSwayed_84 88 (by decide) ?_
      refine sv_locs [1, 2, 3, 4] [(0, .ref (b + a)), (1, .int v1), (2, .int v2), (3, .int v3)] rfl ?_
      exact aw_X0_choiceOfSwayed_88 G RR T hL ha  v1 v2 v3 1 g_8  h
set_option maxRecDepth 100000 in
set_option maxHeartbeats 4000000 in
theorem c_X0_choiceOfSwayed {b : Nat} {xt : sv_Xt} {F : sv_Fr} {a : Nat} {v1 : Int32} {v2 : Int32} {v3 : Int32} {g : sv_Mg} {Q : Int32 → sv_Mg → Prop} (hL : sv_Lay F) (ha : sv_isC a) (h : wp_X0_choiceOfSwayed F a v1 v2 v3 g Q) : sv_Cal yX0_choiceOfSwayed cX0_choiceOfSwayed 7 (some .int) 3 70 0 0 b xt [.ref (b + a), .int v1, .int v2, .int v3] F g (sv_qI F Q) := by
  refine sv_intro mw_X0_choiceOfSwayed [(0, .ref (b + a)), (1, .int v1), (2, .int v2), (3, .int v3)] rfl (Nat.le_of_ble_eq_true rfl) (fun x G RR T NM => ?_)
  have G : sv_G x b xt RX0 cX0_choiceOfSwayed 7 := G
  unfold wp_X0_choiceOfSwayed at h
  refine sv_aload_n (pc := 0) G dX0_choiceOfSwayed_0 0 rfl ?_
  refine sv_getR (pc := 1) G fw_X0_67 (hL.cS ha) rfl (hL.cR0 ha) dX0_choiceOfSwayed_1 ?_
  refine sv_iconst (pc := 4) G dX0_choiceOfSwayed_4 0 ic_0 ?_
  refine sv_aload_n (pc := 5) G dX0_choiceOfSwayed_5 0 rfl ?_
  refine sv_getI (pc := 6) G fw_X0_64 (hL.cS ha) rfl dX0_choiceOfSwayed_6 ?_
  refine sv_callV (cs := 0) (sl := 0) (st := []) (As := [.int 0, .int (g a 18)]) (a := 1) (pc := 9) G RR (c_X2_latest hL  h) mw_X2_latest lk_X0_140 (hL.sh rfl) (by decide) rfl rfl ⟨(Nat.le_of_ble_eq_true rfl), (Nat.le_of_ble_eq_true rfl)⟩ ⟨(Nat.le_of_ble_eq_true rfl), (Nat.le_of_ble_eq_true rfl)⟩ (Nat.le_of_ble_eq_true rfl) rfl dX0_choiceOfSwayed_9 (sv_kI (fun r_12 g_11 h => ?_))
  refine sv_istore (pc := 12) G dX0_choiceOfSwayed_12 [(4, .int r_12), (0, .ref (b + a)), (1, .int v1), (2, .int v2), (3, .int v3)] (by decide) rfl ?_
  refine sv_iload (pc := 14) G dX0_choiceOfSwayed_14 0 rfl ?_
  refine sv_if_ge (pc := 16) G 31 (by decide) dX0_choiceOfSwayed_16 (fun c_13 => ?_) (fun c_13 => ?_)
  · have h := h.1 c_13
    refine sv_aload_n (pc := 31) G dX0_choiceOfSwayed_31 1 rfl ?_
    refine sv_getR (pc := 32) G fw_X0_67 (hL.cS ha) rfl (hL.cR0 ha) dX0_choiceOfSwayed_32 ?_
    refine sv_iload (pc := 35) G dX0_choiceOfSwayed_35 0 rfl ?_
    refine sv_aload_n (pc := 37) G dX0_choiceOfSwayed_37 1 rfl ?_
    refine sv_getR (pc := 38) G fw_X0_21 (hL.cS ha) rfl (hL.cR4 ha) dX0_choiceOfSwayed_38 ?_
    refine sv_iload_n (pc := 41) G dX0_choiceOfSwayed_41 2 rfl ?_
    obtain ⟨s_14, h⟩ := h
    refine sv_ialdK (pc := 42) G (hL.cA4 ha) s_14 v1.toNatClampNeg rfl dX0_choiceOfSwayed_42 ?_
    refine sv_aload_n (pc := 43) G dX0_choiceOfSwayed_43 1 rfl ?_
    refine sv_getI (pc := 44) G fw_X0_52 (hL.cS ha) rfl dX0_choiceOfSwayed_44 ?_
    refine sv_aload_n (pc := 47) G dX0_choiceOfSwayed_47 1 rfl ?_
    refine sv_getR (pc := 48) G fw_X0_18 (hL.cS ha) rfl (hL.cR3 ha) dX0_choiceOfSwayed_48 ?_
    refine sv_iload_n (pc := 51) G dX0_choiceOfSwayed_51 2 rfl ?_
    obtain ⟨s_15, h⟩ := h
    refine sv_ialdK (pc := 52) G (hL.cA3 ha) s_15 v1.toNatClampNeg rfl dX0_choiceOfSwayed_52 ?_
    refine sv_callV (cs := 0) (sl := 0) (st := []) (As := [.int r_12, .int (g_11 (a + 4) v1.toNatClampNeg), .int (g_11 a 14), .int (g_11 (a + 3) v1.toNatClampNeg)]) (a := 1) (pc := 53) G RR (c_X2_value hL  h) mw_X2_value lk_X0_146 (hL.sh rfl) (by decide) rfl rfl ⟨(Nat.le_of_ble_eq_true rfl), (Nat.le_of_ble_eq_true rfl)⟩ ⟨(Nat.le_of_ble_eq_true rfl), (Nat.le_of_ble_eq_true rfl)⟩ (Nat.le_of_ble_eq_true rfl) rfl dX0_choiceOfSwayed_53 (sv_kI (fun r_17 g_16 h => ?_))
    refine sv_locs [1, 2, 3, 4] [(0, .ref (b + a)), (1, .int v1), (2, .int v2), (3, .int v3)] rfl ?_
    exact aw_X0_choiceOfSwayed_56 G RR T hL ha  v1 v2 v3 r_17 g_16  h
  · have h := h.2 c_13
    refine sv_aload_n (pc := 19) G dX0_choiceOfSwayed_19 1 rfl ?_
    refine sv_getR (pc := 20) G fw_X0_21 (hL.cS ha) rfl (hL.cR4 ha) dX0_choiceOfSwayed_20 ?_
    refine sv_iload_n (pc := 23) G dX0_choiceOfSwayed_23 2 rfl ?_
    obtain ⟨s_18, h⟩ := h
    refine sv_ialdK (pc := 24) G (hL.cA4 ha) s_18 v1.toNatClampNeg rfl dX0_choiceOfSwayed_24 ?_
    refine sv_bipush (pc := 25) G dX0_choiceOfSwayed_25 10 bp_10 ?_
    refine sv_idiv (pc := 27) G dX0_choiceOfSwayed_27 (by decide) ?_
    refine sv_goto (pc := 28) G dX0_choiceOfSwayed_28 56 (by decide) ?_
    refine sv_locs [1, 2, 3, 4] [(0, .ref (b + a)), (1, .int v1), (2, .int v2), (3, .int v3)] rfl ?_
    exact aw_X0_choiceOfSwayed_56 G RR T hL ha  v1 v2 v3 ((g_11 (a + 4) v1.toNatClampNeg) / 10) g_11  h
def wp_X0_choice_69 (F : sv_Fr) (a : Nat) (Q : Int32 → sv_Mg → Prop) (v1 : Int32) (v2 : Int32) (v3 : Int32) (s0 : Int32) (g : sv_Mg) : Prop := ((s0 = 0 → wp_X0_choiceOfLoyal F a v1 v2 v3 g (fun r_3 g_2 => Q r_3 g_2)) ∧ (¬ s0 = 0 → Q v1 g))
def wp_X0_choice_68 (F : sv_Fr) (a : Nat) (Q : Int32 → sv_Mg → Prop) (v1 : Int32) (v2 : Int32) (v3 : Int32) (g : sv_Mg) : Prop := wp_X0_choice_69 F a Q  v1 v2 v3 0 g
def wp_X0_choice (F : sv_Fr) (a : Nat) (v1 : Int32) (v2 : Int32) (v3 : Int32) (g : sv_Mg) (Q : Int32 → sv_Mg → Prop) : Prop := vp_in v1 10 ∧ (((g (a + 1) v1.toNatClampNeg) = 1 → wp_X0_choiceOfLoyal F a v1 v2 v3 g (fun r_7 g_6 => Q r_7 g_6)) ∧ (¬ (g (a + 1) v1.toNatClampNeg) = 1 → (((g (a + 1) v1.toNatClampNeg) = 2 → wp_X0_choiceOfSwayed F a v1 v2 v3 g (fun r_10 g_9 => Q r_10 g_9)) ∧ (¬ (g (a + 1) v1.toNatClampNeg) = 2 → (((g (a + 1) v1.toNatClampNeg) = 3 → ((((v2 >>> (v1 &&& 31)) &&& 1) = 1 → vp_in v1 10 ∧ (((g (a + 4) v1.toNatClampNeg) < 50 → wp_X0_choice_68 F a Q  v1 v2 v3 g) ∧ (¬ (g (a + 4) v1.toNatClampNeg) < 50 → wp_X0_choice_69 F a Q  v1 v2 v3 1 g))) ∧ (¬ ((v2 >>> (v1 &&& 31)) &&& 1) = 1 → wp_X0_choice_68 F a Q  v1 v2 v3 g))) ∧ (¬ (g (a + 1) v1.toNatClampNeg) = 3 → (((g (a + 1) v1.toNatClampNeg) = 4 → ((((g a 14) - (g a 14) / 2 * 2) = 0 → wp_X0_choiceOfSwayed F a v1 v2 v3 g (fun r_18 g_17 => Q r_18 g_17)) ∧ (¬ ((g a 14) - (g a 14) / 2 * 2) = 0 → Q (-1) g))) ∧ (¬ (g (a + 1) v1.toNatClampNeg) = 4 → wp_X0_choiceOfPlain F a v1 v2 v3 g (fun r_20 g_19 => Q r_20 g_19)))))))))
set_option maxRecDepth 100000 in
set_option maxHeartbeats 4000000 in
theorem aw_X0_choice_69 {x : sv_X} {b : Nat} {xt : sv_Xt} {F : sv_Fr} {a : Nat} {Q : Int32 → sv_Mg → Prop} (G : sv_G x b xt RX0 cX0_choice 5) (RR : sv_R x 4 96 0 0) (T : sv_RT x (some .int)) (hL : sv_Lay F) (ha : sv_isC a) : ∀ (v1 : Int32) (v2 : Int32) (v3 : Int32) (s0 : Int32) (g : sv_Mg), wp_X0_choice_69 F a Q  v1 v2 v3 s0 g → sv_AW x (sv_Q x (sv_qI F Q) 0 0) F g 0 0 69 [(0, .ref (b + a)), (1, .int v1), (2, .int v2), (3, .int v3)] [.int s0] := by
  intro v1 v2 v3 s0 g h
  unfold wp_X0_choice_69 at h
  refine sv_istore (pc := 69) G dX0_choice_69 [(4, .int s0), (0, .ref (b + a)), (1, .int v1), (2, .int v2), (3, .int v3)] (by decide) rfl ?_
  refine sv_iload (pc := 71) G dX0_choice_71 0 rfl ?_
  refine sv_if_eq (pc := 73) G 80 (by decide) dX0_choice_73 (fun c_1 => ?_) (fun c_1 => ?_)
  · have h := h.1 c_1
    refine sv_aload_n (pc := 80) G dX0_choice_80 1 rfl ?_
    refine sv_iload_n (pc := 81) G dX0_choice_81 2 rfl ?_
    refine sv_iload_n (pc := 82) G dX0_choice_82 3 rfl ?_
    refine sv_iload_n (pc := 83) G dX0_choice_83 4 rfl ?_
    refine sv_callV (cs := 0) (sl := 0) (st := []) (As := [.int v1, .int v2, .int v3]) (a := a) (pc := 84) G RR (c_X0_choiceOfLoyal hL ha h) mw_X0_choiceOfLoyal lk_X0_131 (hL.cS ha) (by decide) rfl rfl ⟨(Nat.le_of_ble_eq_true rfl), (Nat.le_of_ble_eq_true rfl)⟩ ⟨(Nat.le_of_ble_eq_true rfl), (Nat.le_of_ble_eq_true rfl)⟩ (Nat.le_of_ble_eq_true rfl) rfl dX0_choice_84 (sv_kI (fun r_3 g_2 h => ?_))
    exact sv_ireturn (pc := 87) G T ⟨(Nat.le_of_ble_eq_true rfl), (Nat.le_of_ble_eq_true rfl)⟩ dX0_choice_87 ⟨_, rfl, rfl, h⟩
  · have h := h.2 c_1
    refine sv_iload_n (pc := 76) G dX0_choice_76 2 rfl ?_
    refine sv_goto (pc := 77) G dX0_choice_77 87 (by decide) ?_
    exact sv_ireturn (pc := 87) G T ⟨(Nat.le_of_ble_eq_true rfl), (Nat.le_of_ble_eq_true rfl)⟩ dX0_choice_87 ⟨_, rfl, rfl, h⟩
set_option maxRecDepth 100000 in
set_option maxHeartbeats 4000000 in
theorem aw_X0_choice_68 {x : sv_X} {b : Nat} {xt : sv_Xt} {F : sv_Fr} {a : Nat} {Q : Int32 → sv_Mg → Prop} (G : sv_G x b xt RX0 cX0_choice 5) (RR : sv_R x 4 96 0 0) (T : sv_RT x (some .int)) (hL : sv_Lay F) (ha : sv_isC a) : ∀ (v1 : Int32) (v2 : Int32) (v3 : Int32) (g : sv_Mg), wp_X0_choice_68 F a Q  v1 v2 v3 g → sv_AW x (sv_Q x (sv_qI F Q) 0 0) F g 0 0 68 [(0, .ref (b + a)), (1, .int v1), (2, .int v2), (3, .int v3)] [] := by
  intro v1 v2 v3 g h
  unfold wp_X0_choice_68 at h
  refine sv_iconst (pc := 68) G dX0_choice_68 0 ic_0 ?_
  refine sv_locs [0, 1, 2, 3] [(0, .ref (b + a)), (1, .int v1), (2, .int v2), (3, .int v3)] rfl ?_
  exact aw_X0_choice_69 G RR T hL ha  v1 v2 v3 0 g  h
set_option maxRecDepth 100000 in
set_option maxHeartbeats 4000000 in
theorem c_X0_choice {b : Nat} {xt : sv_Xt} {F : sv_Fr} {a : Nat} {v1 : Int32} {v2 : Int32} {v3 : Int32} {g : sv_Mg} {Q : Int32 → sv_Mg → Prop} (hL : sv_Lay F) (ha : sv_isC a) (h : wp_X0_choice F a v1 v2 v3 g Q) : sv_Cal yX0_choice cX0_choice 5 (some .int) 4 96 0 0 b xt [.ref (b + a), .int v1, .int v2, .int v3] F g (sv_qI F Q) := by
  refine sv_intro mw_X0_choice [(0, .ref (b + a)), (1, .int v1), (2, .int v2), (3, .int v3)] rfl (Nat.le_of_ble_eq_true rfl) (fun x G RR T NM => ?_)
  have G : sv_G x b xt RX0 cX0_choice 5 := G
  unfold wp_X0_choice at h
  refine sv_aload_n (pc := 0) G dX0_choice_0 0 rfl ?_
  refine sv_getR (pc := 1) G fw_X0_9 (hL.cS ha) rfl (hL.cR1 ha) dX0_choice_1 ?_
  refine sv_iload_n (pc := 4) G dX0_choice_4 1 rfl ?_
  obtain ⟨s_4, h⟩ := h
  refine sv_ialdK (pc := 5) G (hL.cA1 ha) s_4 v1.toNatClampNeg rfl dX0_choice_5 ?_
  by_cases c_5 : (g (a + 1) v1.toNatClampNeg) = 1
  · have h := h.1 c_5
    refine sv_tsw (pc := 6) G dX0_choice_6 1 (by rw [c_5]; decide) 36 (by decide) (by decide) rfl (by decide) ?_
    refine sv_aload_n (pc := 36) G dX0_choice_36 0 rfl ?_
    refine sv_iload_n (pc := 37) G dX0_choice_37 1 rfl ?_
    refine sv_iload_n (pc := 38) G dX0_choice_38 2 rfl ?_
    refine sv_iload_n (pc := 39) G dX0_choice_39 3 rfl ?_
    refine sv_callV (cs := 0) (sl := 0) (st := []) (As := [.int v1, .int v2, .int v3]) (a := a) (pc := 40) G RR (c_X0_choiceOfLoyal hL ha h) mw_X0_choiceOfLoyal lk_X0_131 (hL.cS ha) (by decide) rfl rfl ⟨(Nat.le_of_ble_eq_true rfl), (Nat.le_of_ble_eq_true rfl)⟩ ⟨(Nat.le_of_ble_eq_true rfl), (Nat.le_of_ble_eq_true rfl)⟩ (Nat.le_of_ble_eq_true rfl) rfl dX0_choice_40 (sv_kI (fun r_7 g_6 h => ?_))
    exact sv_ireturn (pc := 43) G T ⟨(Nat.le_of_ble_eq_true rfl), (Nat.le_of_ble_eq_true rfl)⟩ dX0_choice_43 ⟨_, rfl, rfl, h⟩
  · have h := h.2 c_5
    by_cases c_8 : (g (a + 1) v1.toNatClampNeg) = 2
    · have h := h.1 c_8
      refine sv_tsw (pc := 6) G dX0_choice_6 2 (by rw [c_8]; decide) 88 (by decide) (by decide) rfl (by decide) ?_
      refine sv_aload_n (pc := 88) G dX0_choice_88 0 rfl ?_
      refine sv_iload_n (pc := 89) G dX0_choice_89 1 rfl ?_
      refine sv_iload_n (pc := 90) G dX0_choice_90 2 rfl ?_
      refine sv_iload_n (pc := 91) G dX0_choice_91 3 rfl ?_
      refine sv_callV (cs := 0) (sl := 0) (st := []) (As := [.int v1, .int v2, .int v3]) (a := a) (pc := 92) G RR (c_X0_choiceOfSwayed hL ha h) mw_X0_choiceOfSwayed lk_X0_134 (hL.cS ha) (by decide) rfl rfl ⟨(Nat.le_of_ble_eq_true rfl), (Nat.le_of_ble_eq_true rfl)⟩ ⟨(Nat.le_of_ble_eq_true rfl), (Nat.le_of_ble_eq_true rfl)⟩ (Nat.le_of_ble_eq_true rfl) rfl dX0_choice_92 (sv_kI (fun r_10 g_9 h => ?_))
      exact sv_ireturn (pc := 95) G T ⟨(Nat.le_of_ble_eq_true rfl), (Nat.le_of_ble_eq_true rfl)⟩ dX0_choice_95 ⟨_, rfl, rfl, h⟩
    · have h := h.2 c_8
      by_cases c_11 : (g (a + 1) v1.toNatClampNeg) = 3
      · have h := h.1 c_11
        refine sv_tsw (pc := 6) G dX0_choice_6 3 (by rw [c_11]; decide) 44 (by decide) (by decide) rfl (by decide) ?_
        refine sv_iload_n (pc := 44) G dX0_choice_44 2 rfl ?_
        refine sv_iload_n (pc := 45) G dX0_choice_45 1 rfl ?_
        refine sv_ishr (pc := 46) G dX0_choice_46 ?_
        refine sv_iconst (pc := 47) G dX0_choice_47 1 ic_1 ?_
        refine sv_iand (pc := 48) G dX0_choice_48 ?_
        refine sv_iconst (pc := 49) G dX0_choice_49 1 ic_1 ?_
        refine sv_ic_ne (pc := 50) G 68 (by decide) dX0_choice_50 (fun c_12 => ?_) (fun c_12 => ?_)
        · have h := h.2 c_12
          refine sv_locs [0, 1, 2, 3] [(0, .ref (b + a)), (1, .int v1), (2, .int v2), (3, .int v3)] rfl ?_
          exact aw_X0_choice_68 G RR T hL ha  v1 v2 v3 g  h
        · have h := h.1 c_12
          refine sv_aload_n (pc := 53) G dX0_choice_53 0 rfl ?_
          refine sv_getR (pc := 54) G fw_X0_21 (hL.cS ha) rfl (hL.cR4 ha) dX0_choice_54 ?_
          refine sv_iload_n (pc := 57) G dX0_choice_57 1 rfl ?_
          obtain ⟨s_13, h⟩ := h
          refine sv_ialdK (pc := 58) G (hL.cA4 ha) s_13 v1.toNatClampNeg rfl dX0_choice_58 ?_
          refine sv_bipush (pc := 59) G dX0_choice_59 50 bp_50 ?_
          refine sv_ic_lt (pc := 61) G 68 (by decide) dX0_choice_61 (fun c_14 => ?_) (fun c_14 => ?_)
          · have h := h.1 c_14
            refine sv_locs [0, 1, 2, 3] [(0, .ref (b + a)), (1, .int v1), (2, .int v2), (3, .int v3)] rfl ?_
            exact aw_X0_choice_68 G RR T hL ha  v1 v2 v3 g  h
          · have h := h.2 c_14
            refine sv_iconst (pc := 64) G dX0_choice_64 1 ic_1 ?_
            refine sv_goto (pc := 65) G dX0_choice_65 69 (by decide) ?_
            refine sv_locs [0, 1, 2, 3] [(0, .ref (b + a)), (1, .int v1), (2, .int v2), (3, .int v3)] rfl ?_
            exact aw_X0_choice_69 G RR T hL ha  v1 v2 v3 1 g  h
      · have h := h.2 c_11
        by_cases c_15 : (g (a + 1) v1.toNatClampNeg) = 4
        · have h := h.1 c_15
          refine sv_tsw (pc := 6) G dX0_choice_6 4 (by rw [c_15]; decide) 96 (by decide) (by decide) rfl (by decide) ?_
          refine sv_aload_n (pc := 96) G dX0_choice_96 0 rfl ?_
          refine sv_getI (pc := 97) G fw_X0_52 (hL.cS ha) rfl dX0_choice_97 ?_
          refine sv_iconst (pc := 100) G dX0_choice_100 2 ic_2 ?_
          refine sv_irem (pc := 101) G dX0_choice_101 (by decide) ?_
          refine sv_if_eq (pc := 102) G 109 (by decide) dX0_choice_102 (fun c_16 => ?_) (fun c_16 => ?_)
          · have h := h.1 c_16
            refine sv_aload_n (pc := 109) G dX0_choice_109 0 rfl ?_
            refine sv_iload_n (pc := 110) G dX0_choice_110 1 rfl ?_
            refine sv_iload_n (pc := 111) G dX0_choice_111 2 rfl ?_
            refine sv_iload_n (pc := 112) G dX0_choice_112 3 rfl ?_
            refine sv_callV (cs := 0) (sl := 0) (st := []) (As := [.int v1, .int v2, .int v3]) (a := a) (pc := 113) G RR (c_X0_choiceOfSwayed hL ha h) mw_X0_choiceOfSwayed lk_X0_134 (hL.cS ha) (by decide) rfl rfl ⟨(Nat.le_of_ble_eq_true rfl), (Nat.le_of_ble_eq_true rfl)⟩ ⟨(Nat.le_of_ble_eq_true rfl), (Nat.le_of_ble_eq_true rfl)⟩ (Nat.le_of_ble_eq_true rfl) rfl dX0_choice_113 (sv_kI (fun r_18 g_17 h => ?_))
            exact sv_ireturn (pc := 116) G T ⟨(Nat.le_of_ble_eq_true rfl), (Nat.le_of_ble_eq_true rfl)⟩ dX0_choice_116 ⟨_, rfl, rfl, h⟩
          · have h := h.2 c_16
            refine sv_iconst (pc := 105) G dX0_choice_105 (-1) ic_m1 ?_
            refine sv_goto (pc := 106) G dX0_choice_106 116 (by decide) ?_
            exact sv_ireturn (pc := 116) G T ⟨(Nat.le_of_ble_eq_true rfl), (Nat.le_of_ble_eq_true rfl)⟩ dX0_choice_116 ⟨_, rfl, rfl, h⟩
        · have h := h.2 c_15
          refine sv_tswD (pc := 6) G dX0_choice_6 (by have qc_5 := lv_neT (a := 1) c_5 (by decide); have qc_8 := lv_neT (a := 2) c_8 (by decide); have qc_11 := lv_neT (a := 3) c_11 (by decide); have qc_15 := lv_neT (a := 4) c_15 (by decide); omega) 117 (by decide) ?_
          refine sv_aload_n (pc := 117) G dX0_choice_117 0 rfl ?_
          refine sv_iload_n (pc := 118) G dX0_choice_118 1 rfl ?_
          refine sv_iload_n (pc := 119) G dX0_choice_119 2 rfl ?_
          refine sv_iload_n (pc := 120) G dX0_choice_120 3 rfl ?_
          refine sv_callV (cs := 0) (sl := 0) (st := []) (As := [.int v1, .int v2, .int v3]) (a := a) (pc := 121) G RR (c_X0_choiceOfPlain hL ha h) mw_X0_choiceOfPlain lk_X0_137 (hL.cS ha) (by decide) rfl rfl ⟨(Nat.le_of_ble_eq_true rfl), (Nat.le_of_ble_eq_true rfl)⟩ ⟨(Nat.le_of_ble_eq_true rfl), (Nat.le_of_ble_eq_true rfl)⟩ (Nat.le_of_ble_eq_true rfl) rfl dX0_choice_121 (sv_kI (fun r_20 g_19 h => ?_))
          exact sv_ireturn (pc := 124) G T ⟨(Nat.le_of_ble_eq_true rfl), (Nat.le_of_ble_eq_true rfl)⟩ dX0_choice_124 ⟨_, rfl, rfl, h⟩
def wp_X6_weight (F : sv_Fr) (v0 : Int32) (g : sv_Mg) (Q : Int32 → sv_Mg → Prop) : Prop := ((v0 = 5 → Q 2 g) ∧ (¬ v0 = 5 → Q 1 g))
set_option maxRecDepth 100000 in
set_option maxHeartbeats 4000000 in
theorem c_X6_weight {b : Nat} {xt : sv_Xt} {F : sv_Fr} {v0 : Int32} {g : sv_Mg} {Q : Int32 → sv_Mg → Prop} (hL : sv_Lay F) (h : wp_X6_weight F v0 g Q) : sv_Cal yX6_weight cX6_weight 1 (some .int) 0 0 0 0 b xt [.int v0] F g (sv_qI F Q) := by
  refine sv_intro mw_X6_weight [(0, .int v0)] rfl (Nat.le_of_ble_eq_true rfl) (fun x G RR T NM => ?_)
  have G : sv_G x b xt RX6 cX6_weight 1 := G
  unfold wp_X6_weight at h
  refine sv_iload_n (pc := 0) G dX6_weight_0 0 rfl ?_
  refine sv_iconst (pc := 1) G dX6_weight_1 5 ic_5 ?_
  refine sv_ic_ne (pc := 2) G 9 (by decide) dX6_weight_2 (fun c_1 => ?_) (fun c_1 => ?_)
  · have h := h.2 c_1
    refine sv_iconst (pc := 9) G dX6_weight_9 1 ic_1 ?_
    exact sv_ireturn (pc := 10) G T ⟨(Nat.le_of_ble_eq_true rfl), (Nat.le_of_ble_eq_true rfl)⟩ dX6_weight_10 ⟨_, rfl, rfl, h⟩
  · have h := h.1 c_1
    refine sv_iconst (pc := 5) G dX6_weight_5 2 ic_2 ?_
    refine sv_goto (pc := 6) G dX6_weight_6 10 (by decide) ?_
    exact sv_ireturn (pc := 10) G T ⟨(Nat.le_of_ble_eq_true rfl), (Nat.le_of_ble_eq_true rfl)⟩ dX6_weight_10 ⟨_, rfl, rfl, h⟩
def wp_X0_wanted_4 (F : sv_Fr) (a : Nat) (Q : Int32 → sv_Mg → Prop) : Nat → Int32 → Int32 → sv_Mg → Prop
  | 0, _, _, _ => False
  | n + 1, v1, v2, g => (((g a 8) ≤ v2 → Q (((2 * v1) + 2) / 3) g) ∧ (¬ (g a 8) ≤ v2 → vp_in v2 10 ∧ wp_X6_weight F (g (a + 1) v2.toNatClampNeg) g (fun r_4 g_3 => ∀ v1_5 : Int32, v1_5 = (v1 + r_4) → ∀ v2_6 : Int32, v2_6 = v2 + 1 → (wp_X0_wanted_4 F a Q  n) v1_5 v2_6 g_3)))
def wp_X0_wanted (F : sv_Fr) (a : Nat) (g : sv_Mg) (Q : Int32 → sv_Mg → Prop) : Prop := ∃ n_7, wp_X0_wanted_4 F a Q  n_7 0 0 g
set_option maxRecDepth 100000 in
set_option maxHeartbeats 4000000 in
theorem aw_X0_wanted_4 {x : sv_X} {b : Nat} {xt : sv_Xt} {F : sv_Fr} {a : Nat} {Q : Int32 → sv_Mg → Prop} (G : sv_G x b xt RX0 cX0_wanted 3) (RR : sv_R x 1 20 0 0) (T : sv_RT x (some .int)) (hL : sv_Lay F) (ha : sv_isC a) : ∀ (n : Nat) (v1 : Int32) (v2 : Int32) (g : sv_Mg), wp_X0_wanted_4 F a Q  n v1 v2 g → sv_AW x (sv_Q x (sv_qI F Q) 0 0) F g 0 0 4 [(0, .ref (b + a)), (1, .int v1), (2, .int v2)] [] := by
  intro n
  induction n with
  | zero => intro v1 v2 g h; exact h.elim
  | succ n ih =>
    intro v1 v2 g h
    rw [wp_X0_wanted_4] at h
    refine sv_iload_n (pc := 4) G dX0_wanted_4 2 rfl ?_
    refine sv_aload_n (pc := 5) G dX0_wanted_5 0 rfl ?_
    refine sv_getI (pc := 6) G fw_X0_33 (hL.cS ha) rfl dX0_wanted_6 ?_
    refine sv_ic_ge (pc := 9) G 30 (by decide) dX0_wanted_9 (fun c_1 => ?_) (fun c_1 => ?_)
    · have h := h.1 c_1
      refine sv_iconst (pc := 30) G dX0_wanted_30 2 ic_2 ?_
      refine sv_iload_n (pc := 31) G dX0_wanted_31 1 rfl ?_
      refine sv_imul (pc := 32) G dX0_wanted_32 ?_
      refine sv_iconst (pc := 33) G dX0_wanted_33 2 ic_2 ?_
      refine sv_iadd (pc := 34) G dX0_wanted_34 ?_
      refine sv_iconst (pc := 35) G dX0_wanted_35 3 ic_3 ?_
      refine sv_idiv (pc := 36) G dX0_wanted_36 (by decide) ?_
      exact sv_ireturn (pc := 37) G T ⟨(Nat.le_of_ble_eq_true rfl), (Nat.le_of_ble_eq_true rfl)⟩ dX0_wanted_37 ⟨_, rfl, rfl, h⟩
    · have h := h.2 c_1
      refine sv_iload_n (pc := 12) G dX0_wanted_12 1 rfl ?_
      refine sv_aload_n (pc := 13) G dX0_wanted_13 0 rfl ?_
      refine sv_getR (pc := 14) G fw_X0_9 (hL.cS ha) rfl (hL.cR1 ha) dX0_wanted_14 ?_
      refine sv_iload_n (pc := 17) G dX0_wanted_17 2 rfl ?_
      obtain ⟨s_2, h⟩ := h
      refine sv_ialdK (pc := 18) G (hL.cA1 ha) s_2 v2.toNatClampNeg rfl dX0_wanted_18 ?_
      refine sv_callSN (cs := 0) (sl := 0) (st := [.int v1]) (As := [.int (g (a + 1) v2.toNatClampNeg)]) (pc := 19) G RR (c_X6_weight hL  h) mw_X6_weight lk_X0_121 rfl ⟨(Nat.le_of_ble_eq_true rfl), (Nat.le_of_ble_eq_true rfl)⟩ ⟨(Nat.le_of_ble_eq_true rfl), (Nat.le_of_ble_eq_true rfl)⟩ (Nat.le_of_ble_eq_true rfl) rfl dX0_wanted_19 (sv_kI (fun r_4 g_3 h => ?_))
      refine sv_iadd (pc := 22) G dX0_wanted_22 ?_
      refine sv_topi (fun v1_5 ev1_5 => ?_)
      have h := h v1_5 ev1_5
      refine sv_istore_n (pc := 23) G dX0_wanted_23 [(1, .int v1_5), (0, .ref (b + a)), (2, .int v2)] (by decide) rfl ?_
      obtain ⟨v2_6, ev2_6⟩ : ∃ y : Int32, y = v2 + 1 := ⟨_, rfl⟩
      have h := h v2_6 ev2_6
      refine sv_iinc (pc := 24) G dX0_wanted_24 2 v2_6 [(2, .int v2_6), (1, .int v1_5), (0, .ref (b + a))] (by rw [ev2_6, ic_1]) rfl (by decide) rfl ?_
      refine sv_goto (pc := 27) G dX0_wanted_27 4 (by decide) ?_
      refine sv_locs [2, 1, 0] [(0, .ref (b + a)), (1, .int v1_5), (2, .int v2_6)] rfl ?_
      exact ih v1_5 v2_6 g_3  h
set_option maxRecDepth 100000 in
set_option maxHeartbeats 4000000 in
theorem c_X0_wanted {b : Nat} {xt : sv_Xt} {F : sv_Fr} {a : Nat} {g : sv_Mg} {Q : Int32 → sv_Mg → Prop} (hL : sv_Lay F) (ha : sv_isC a) (h : wp_X0_wanted F a g Q) : sv_Cal yX0_wanted cX0_wanted 3 (some .int) 1 20 0 0 b xt [.ref (b + a)] F g (sv_qI F Q) := by
  refine sv_intro mw_X0_wanted [(0, .ref (b + a))] rfl (Nat.le_of_ble_eq_true rfl) (fun x G RR T NM => ?_)
  have G : sv_G x b xt RX0 cX0_wanted 3 := G
  unfold wp_X0_wanted at h
  refine sv_iconst (pc := 0) G dX0_wanted_0 0 ic_0 ?_
  refine sv_istore_n (pc := 1) G dX0_wanted_1 [(1, .int 0), (0, .ref (b + a))] (by decide) rfl ?_
  refine sv_iconst (pc := 2) G dX0_wanted_2 0 ic_0 ?_
  refine sv_istore_n (pc := 3) G dX0_wanted_3 [(2, .int 0), (1, .int 0), (0, .ref (b + a))] (by decide) rfl ?_
  refine sv_locs [2, 1, 0] [(0, .ref (b + a)), (1, .int 0), (2, .int 0)] rfl ?_
  obtain ⟨n_7, h⟩ := h
  exact aw_X0_wanted_4 G RR T hL ha  n_7 0 0 g  h
def wp_X0_elected_7 (F : sv_Fr) (a : Nat) (Q : Int32 → sv_Mg → Prop) : Nat → Int32 → Int32 → sv_Mg → Prop
  | 0, _, _, _ => False
  | n + 1, v1, v2, g => (((g a 8) ≤ v2 → Q (-1) g) ∧ (¬ (g a 8) ≤ v2 → vp_in v2 10 ∧ (((g (a + 7) v2.toNatClampNeg) < v1 → ∀ v2_4 : Int32, v2_4 = v2 + 1 → (wp_X0_elected_7 F a Q  n) v1 v2_4 g) ∧ (¬ (g (a + 7) v2.toNatClampNeg) < v1 → Q v2 g))))
def wp_X0_elected (F : sv_Fr) (a : Nat) (g : sv_Mg) (Q : Int32 → sv_Mg → Prop) : Prop := wp_X0_wanted F a g (fun r_6 g_5 => ∃ n_7, wp_X0_elected_7 F a Q  n_7 r_6 0 g_5)
set_option maxRecDepth 100000 in
set_option maxHeartbeats 4000000 in
theorem aw_X0_elected_7 {x : sv_X} {b : Nat} {xt : sv_Xt} {F : sv_Fr} {a : Nat} {Q : Int32 → sv_Mg → Prop} (G : sv_G x b xt RX0 cX0_elected 3) (RR : sv_R x 2 42 0 0) (T : sv_RT x (some .int)) (hL : sv_Lay F) (ha : sv_isC a) : ∀ (n : Nat) (v1 : Int32) (v2 : Int32) (g : sv_Mg), wp_X0_elected_7 F a Q  n v1 v2 g → sv_AW x (sv_Q x (sv_qI F Q) 0 0) F g 0 0 7 [(0, .ref (b + a)), (1, .int v1), (2, .int v2)] [] := by
  intro n
  induction n with
  | zero => intro v1 v2 g h; exact h.elim
  | succ n ih =>
    intro v1 v2 g h
    rw [wp_X0_elected_7] at h
    refine sv_iload_n (pc := 7) G dX0_elected_7 2 rfl ?_
    refine sv_aload_n (pc := 8) G dX0_elected_8 0 rfl ?_
    refine sv_getI (pc := 9) G fw_X0_33 (hL.cS ha) rfl dX0_elected_9 ?_
    refine sv_ic_ge (pc := 12) G 33 (by decide) dX0_elected_12 (fun c_1 => ?_) (fun c_1 => ?_)
    · have h := h.1 c_1
      refine sv_iconst (pc := 33) G dX0_elected_33 (-1) ic_m1 ?_
      exact sv_ireturn (pc := 34) G T ⟨(Nat.le_of_ble_eq_true rfl), (Nat.le_of_ble_eq_true rfl)⟩ dX0_elected_34 ⟨_, rfl, rfl, h⟩
    · have h := h.2 c_1
      refine sv_aload_n (pc := 15) G dX0_elected_15 0 rfl ?_
      refine sv_getR (pc := 16) G fw_X0_30 (hL.cS ha) rfl (hL.cR7 ha) dX0_elected_16 ?_
      refine sv_iload_n (pc := 19) G dX0_elected_19 2 rfl ?_
      obtain ⟨s_2, h⟩ := h
      refine sv_ialdK (pc := 20) G (hL.cA7 ha) s_2 v2.toNatClampNeg rfl dX0_elected_20 ?_
      refine sv_iload_n (pc := 21) G dX0_elected_21 1 rfl ?_
      refine sv_ic_lt (pc := 22) G 27 (by decide) dX0_elected_22 (fun c_3 => ?_) (fun c_3 => ?_)
      · have h := h.1 c_3
        obtain ⟨v2_4, ev2_4⟩ : ∃ y : Int32, y = v2 + 1 := ⟨_, rfl⟩
        have h := h v2_4 ev2_4
        refine sv_iinc (pc := 27) G dX0_elected_27 2 v2_4 [(2, .int v2_4), (0, .ref (b + a)), (1, .int v1)] (by rw [ev2_4, ic_1]) rfl (by decide) rfl ?_
        refine sv_goto (pc := 30) G dX0_elected_30 7 (by decide) ?_
        refine sv_locs [1, 2, 0] [(0, .ref (b + a)), (1, .int v1), (2, .int v2_4)] rfl ?_
        exact ih v1 v2_4 g  h
      · have h := h.2 c_3
        refine sv_iload_n (pc := 25) G dX0_elected_25 2 rfl ?_
        exact sv_ireturn (pc := 26) G T ⟨(Nat.le_of_ble_eq_true rfl), (Nat.le_of_ble_eq_true rfl)⟩ dX0_elected_26 ⟨_, rfl, rfl, h⟩
set_option maxRecDepth 100000 in
set_option maxHeartbeats 4000000 in
theorem c_X0_elected {b : Nat} {xt : sv_Xt} {F : sv_Fr} {a : Nat} {g : sv_Mg} {Q : Int32 → sv_Mg → Prop} (hL : sv_Lay F) (ha : sv_isC a) (h : wp_X0_elected F a g Q) : sv_Cal yX0_elected cX0_elected 3 (some .int) 2 42 0 0 b xt [.ref (b + a)] F g (sv_qI F Q) := by
  refine sv_intro mw_X0_elected [(0, .ref (b + a))] rfl (Nat.le_of_ble_eq_true rfl) (fun x G RR T NM => ?_)
  have G : sv_G x b xt RX0 cX0_elected 3 := G
  unfold wp_X0_elected at h
  refine sv_aload_n (pc := 0) G dX0_elected_0 0 rfl ?_
  refine sv_callV (cs := 0) (sl := 0) (st := []) (As := []) (a := a) (pc := 1) G RR (c_X0_wanted hL ha h) mw_X0_wanted lk_X0_125 (hL.cS ha) (by decide) rfl rfl ⟨(Nat.le_of_ble_eq_true rfl), (Nat.le_of_ble_eq_true rfl)⟩ ⟨(Nat.le_of_ble_eq_true rfl), (Nat.le_of_ble_eq_true rfl)⟩ (Nat.le_of_ble_eq_true rfl) rfl dX0_elected_1 (sv_kI (fun r_6 g_5 h => ?_))
  refine sv_istore_n (pc := 4) G dX0_elected_4 [(1, .int r_6), (0, .ref (b + a))] (by decide) rfl ?_
  refine sv_iconst (pc := 5) G dX0_elected_5 0 ic_0 ?_
  refine sv_istore_n (pc := 6) G dX0_elected_6 [(2, .int 0), (1, .int r_6), (0, .ref (b + a))] (by decide) rfl ?_
  refine sv_locs [2, 1, 0] [(0, .ref (b + a)), (1, .int r_6), (2, .int 0)] rfl ?_
  obtain ⟨n_7, h⟩ := h
  exact aw_X0_elected_7 G RR T hL ha  n_7 r_6 0 g_5  h
def wp_X0_leader (F : sv_Fr) (a : Nat) (g : sv_Mg) (Q : Int32 → sv_Mg → Prop) : Prop := wp_X0_mostAmong F a ((1 <<< ((g a 8) &&& 31)) - 1) g (fun r_2 g_1 => Q r_2 g_1)
set_option maxRecDepth 100000 in
set_option maxHeartbeats 4000000 in
theorem c_X0_leader {b : Nat} {xt : sv_Xt} {F : sv_Fr} {a : Nat} {g : sv_Mg} {Q : Int32 → sv_Mg → Prop} (hL : sv_Lay F) (ha : sv_isC a) (h : wp_X0_leader F a g Q) : sv_Cal yX0_leader cX0_leader 1 (some .int) 1 24 0 0 b xt [.ref (b + a)] F g (sv_qI F Q) := by
  refine sv_intro mw_X0_leader [(0, .ref (b + a))] rfl (Nat.le_of_ble_eq_true rfl) (fun x G RR T NM => ?_)
  have G : sv_G x b xt RX0 cX0_leader 1 := G
  unfold wp_X0_leader at h
  refine sv_aload_n (pc := 0) G dX0_leader_0 0 rfl ?_
  refine sv_iconst (pc := 1) G dX0_leader_1 1 ic_1 ?_
  refine sv_aload_n (pc := 2) G dX0_leader_2 0 rfl ?_
  refine sv_getI (pc := 3) G fw_X0_33 (hL.cS ha) rfl dX0_leader_3 ?_
  refine sv_ishl (pc := 6) G dX0_leader_6 ?_
  refine sv_iconst (pc := 7) G dX0_leader_7 1 ic_1 ?_
  refine sv_isub (pc := 8) G dX0_leader_8 ?_
  refine sv_callV (cs := 0) (sl := 0) (st := []) (As := [.int ((1 <<< ((g a 8) &&& 31)) - 1)]) (a := a) (pc := 9) G RR (c_X0_mostAmong hL ha h) mw_X0_mostAmong lk_X0_128 (hL.cS ha) (by decide) rfl rfl ⟨(Nat.le_of_ble_eq_true rfl), (Nat.le_of_ble_eq_true rfl)⟩ ⟨(Nat.le_of_ble_eq_true rfl), (Nat.le_of_ble_eq_true rfl)⟩ (Nat.le_of_ble_eq_true rfl) rfl dX0_leader_9 (sv_kI (fun r_2 g_1 h => ?_))
  exact sv_ireturn (pc := 12) G T ⟨(Nat.le_of_ble_eq_true rfl), (Nat.le_of_ble_eq_true rfl)⟩ dX0_leader_12 ⟨_, rfl, rfl, h⟩
def wp_X0_runners (F : sv_Fr) (a : Nat) (g : sv_Mg) (Q : Int32 → sv_Mg → Prop) : Prop := ∀ v1_1 : Int32, v1_1 = ((1 <<< ((g a 8) &&& 31)) - 1) → wp_X0_mostAmong F a v1_1 g (fun r_3 g_2 => (((g_2 a 14) < (g_2 a 11) → Q v1_1 g_2) ∧ (¬ (g_2 a 14) < (g_2 a 11) → wp_X0_isVoter F a r_3 g_2 (fun r_6 g_5 => ((r_6 = 0 → Q v1_1 g_5) ∧ (¬ r_6 = 0 → vp_in r_3 10 ∧ (((g_5 (a + 7) r_3.toNatClampNeg) = 0 → Q v1_1 g_5) ∧ (¬ (g_5 (a + 7) r_3.toNatClampNeg) = 0 → wp_X0_mostAmong F a (v1_1 &&& ((1 <<< (r_3 &&& 31)) ^^^ (-1))) g_5 (fun r_11 g_10 => wp_X0_isVoter F a r_11 g_10 (fun r_13 g_12 => ((r_13 = 0 → Q (1 <<< (r_3 &&& 31)) g_12) ∧ (¬ r_13 = 0 → vp_in r_11 10 ∧ (((g_12 (a + 7) r_11.toNatClampNeg) = 0 → Q (1 <<< (r_3 &&& 31)) g_12) ∧ (¬ (g_12 (a + 7) r_11.toNatClampNeg) = 0 → Q ((1 <<< (r_3 &&& 31)) ||| (1 <<< (r_11 &&& 31))) g_12))))))))))))))
set_option maxRecDepth 100000 in
set_option maxHeartbeats 4000000 in
theorem c_X0_runners {b : Nat} {xt : sv_Xt} {F : sv_Fr} {a : Nat} {g : sv_Mg} {Q : Int32 → sv_Mg → Prop} (hL : sv_Lay F) (ha : sv_isC a) (h : wp_X0_runners F a g Q) : sv_Cal yX0_runners cX0_runners 4 (some .int) 1 24 0 0 b xt [.ref (b + a)] F g (sv_qI F Q) := by
  refine sv_intro mw_X0_runners [(0, .ref (b + a))] rfl (Nat.le_of_ble_eq_true rfl) (fun x G RR T NM => ?_)
  have G : sv_G x b xt RX0 cX0_runners 4 := G
  unfold wp_X0_runners at h
  refine sv_iconst (pc := 0) G dX0_runners_0 1 ic_1 ?_
  refine sv_aload_n (pc := 1) G dX0_runners_1 0 rfl ?_
  refine sv_getI (pc := 2) G fw_X0_33 (hL.cS ha) rfl dX0_runners_2 ?_
  refine sv_ishl (pc := 5) G dX0_runners_5 ?_
  refine sv_iconst (pc := 6) G dX0_runners_6 1 ic_1 ?_
  refine sv_isub (pc := 7) G dX0_runners_7 ?_
  refine sv_topi (fun v1_1 ev1_1 => ?_)
  have h := h v1_1 ev1_1
  refine sv_istore_n (pc := 8) G dX0_runners_8 [(1, .int v1_1), (0, .ref (b + a))] (by decide) rfl ?_
  refine sv_aload_n (pc := 9) G dX0_runners_9 1 rfl ?_
  refine sv_iload_n (pc := 10) G dX0_runners_10 0 rfl ?_
  refine sv_callV (cs := 0) (sl := 0) (st := []) (As := [.int v1_1]) (a := a) (pc := 11) G RR (c_X0_mostAmong hL ha h) mw_X0_mostAmong lk_X0_128 (hL.cS ha) (by decide) rfl rfl ⟨(Nat.le_of_ble_eq_true rfl), (Nat.le_of_ble_eq_true rfl)⟩ ⟨(Nat.le_of_ble_eq_true rfl), (Nat.le_of_ble_eq_true rfl)⟩ (Nat.le_of_ble_eq_true rfl) rfl dX0_runners_11 (sv_kI (fun r_3 g_2 h => ?_))
  refine sv_istore_n (pc := 14) G dX0_runners_14 [(2, .int r_3), (1, .int v1_1), (0, .ref (b + a))] (by decide) rfl ?_
  refine sv_aload_n (pc := 15) G dX0_runners_15 2 rfl ?_
  refine sv_getI (pc := 16) G fw_X0_52 (hL.cS ha) rfl dX0_runners_16 ?_
  refine sv_aload_n (pc := 19) G dX0_runners_19 2 rfl ?_
  refine sv_getI (pc := 20) G fw_X0_43 (hL.cS ha) rfl dX0_runners_20 ?_
  refine sv_ic_lt (pc := 23) G 43 (by decide) dX0_runners_23 (fun c_4 => ?_) (fun c_4 => ?_)
  · have h := h.1 c_4
    refine sv_iload_n (pc := 43) G dX0_runners_43 1 rfl ?_
    exact sv_ireturn (pc := 44) G T ⟨(Nat.le_of_ble_eq_true rfl), (Nat.le_of_ble_eq_true rfl)⟩ dX0_runners_44 ⟨_, rfl, rfl, h⟩
  · have h := h.2 c_4
    refine sv_aload_n (pc := 26) G dX0_runners_26 2 rfl ?_
    refine sv_iload_n (pc := 27) G dX0_runners_27 0 rfl ?_
    refine sv_callV (cs := 0) (sl := 0) (st := []) (As := [.int r_3]) (a := a) (pc := 28) G RR (c_X0_isVoter hL ha h) mw_X0_isVoter lk_X0_117 (hL.cS ha) (by decide) rfl rfl ⟨(Nat.le_of_ble_eq_true rfl), (Nat.le_of_ble_eq_true rfl)⟩ ⟨(Nat.le_of_ble_eq_true rfl), (Nat.le_of_ble_eq_true rfl)⟩ (Nat.le_of_ble_eq_true rfl) rfl dX0_runners_28 (sv_kI (fun r_6 g_5 h => ?_))
    refine sv_if_eq (pc := 31) G 43 (by decide) dX0_runners_31 (fun c_7 => ?_) (fun c_7 => ?_)
    · have h := h.1 c_7
      refine sv_iload_n (pc := 43) G dX0_runners_43 1 rfl ?_
      exact sv_ireturn (pc := 44) G T ⟨(Nat.le_of_ble_eq_true rfl), (Nat.le_of_ble_eq_true rfl)⟩ dX0_runners_44 ⟨_, rfl, rfl, h⟩
    · have h := h.2 c_7
      refine sv_aload_n (pc := 34) G dX0_runners_34 2 rfl ?_
      refine sv_getR (pc := 35) G fw_X0_30 (hL.cS ha) rfl (hL.cR7 ha) dX0_runners_35 ?_
      refine sv_iload_n (pc := 38) G dX0_runners_38 0 rfl ?_
      obtain ⟨s_8, h⟩ := h
      refine sv_ialdK (pc := 39) G (hL.cA7 ha) s_8 r_3.toNatClampNeg rfl dX0_runners_39 ?_
      refine sv_if_ne (pc := 40) G 45 (by decide) dX0_runners_40 (fun c_9 => ?_) (fun c_9 => ?_)
      · have h := h.2 c_9
        refine sv_aload_n (pc := 45) G dX0_runners_45 2 rfl ?_
        refine sv_iload_n (pc := 46) G dX0_runners_46 1 rfl ?_
        refine sv_iconst (pc := 47) G dX0_runners_47 1 ic_1 ?_
        refine sv_iload_n (pc := 48) G dX0_runners_48 0 rfl ?_
        refine sv_ishl (pc := 49) G dX0_runners_49 ?_
        refine sv_iconst (pc := 50) G dX0_runners_50 (-1) ic_m1 ?_
        refine sv_ixor (pc := 51) G dX0_runners_51 ?_
        refine sv_iand (pc := 52) G dX0_runners_52 ?_
        refine sv_callV (cs := 0) (sl := 0) (st := []) (As := [.int (v1_1 &&& ((1 <<< (r_3 &&& 31)) ^^^ (-1)))]) (a := a) (pc := 53) G RR (c_X0_mostAmong hL ha h) mw_X0_mostAmong lk_X0_128 (hL.cS ha) (by decide) rfl rfl ⟨(Nat.le_of_ble_eq_true rfl), (Nat.le_of_ble_eq_true rfl)⟩ ⟨(Nat.le_of_ble_eq_true rfl), (Nat.le_of_ble_eq_true rfl)⟩ (Nat.le_of_ble_eq_true rfl) rfl dX0_runners_53 (sv_kI (fun r_11 g_10 h => ?_))
        refine sv_istore_n (pc := 56) G dX0_runners_56 [(3, .int r_11), (2, .int r_3), (1, .int v1_1), (0, .ref (b + a))] (by decide) rfl ?_
        refine sv_aload_n (pc := 57) G dX0_runners_57 3 rfl ?_
        refine sv_iload_n (pc := 58) G dX0_runners_58 0 rfl ?_
        refine sv_callV (cs := 0) (sl := 0) (st := []) (As := [.int r_11]) (a := a) (pc := 59) G RR (c_X0_isVoter hL ha h) mw_X0_isVoter lk_X0_117 (hL.cS ha) (by decide) rfl rfl ⟨(Nat.le_of_ble_eq_true rfl), (Nat.le_of_ble_eq_true rfl)⟩ ⟨(Nat.le_of_ble_eq_true rfl), (Nat.le_of_ble_eq_true rfl)⟩ (Nat.le_of_ble_eq_true rfl) rfl dX0_runners_59 (sv_kI (fun r_13 g_12 h => ?_))
        refine sv_if_eq (pc := 62) G 74 (by decide) dX0_runners_62 (fun c_14 => ?_) (fun c_14 => ?_)
        · have h := h.1 c_14
          refine sv_iconst (pc := 74) G dX0_runners_74 1 ic_1 ?_
          refine sv_iload_n (pc := 75) G dX0_runners_75 1 rfl ?_
          refine sv_ishl (pc := 76) G dX0_runners_76 ?_
          exact sv_ireturn (pc := 77) G T ⟨(Nat.le_of_ble_eq_true rfl), (Nat.le_of_ble_eq_true rfl)⟩ dX0_runners_77 ⟨_, rfl, rfl, h⟩
        · have h := h.2 c_14
          refine sv_aload_n (pc := 65) G dX0_runners_65 3 rfl ?_
          refine sv_getR (pc := 66) G fw_X0_30 (hL.cS ha) rfl (hL.cR7 ha) dX0_runners_66 ?_
          refine sv_iload_n (pc := 69) G dX0_runners_69 0 rfl ?_
          obtain ⟨s_15, h⟩ := h
          refine sv_ialdK (pc := 70) G (hL.cA7 ha) s_15 r_11.toNatClampNeg rfl dX0_runners_70 ?_
          refine sv_if_ne (pc := 71) G 78 (by decide) dX0_runners_71 (fun c_16 => ?_) (fun c_16 => ?_)
          · have h := h.2 c_16
            refine sv_iconst (pc := 78) G dX0_runners_78 1 ic_1 ?_
            refine sv_iload_n (pc := 79) G dX0_runners_79 1 rfl ?_
            refine sv_ishl (pc := 80) G dX0_runners_80 ?_
            refine sv_iconst (pc := 81) G dX0_runners_81 1 ic_1 ?_
            refine sv_iload_n (pc := 82) G dX0_runners_82 0 rfl ?_
            refine sv_ishl (pc := 83) G dX0_runners_83 ?_
            refine sv_ior (pc := 84) G dX0_runners_84 ?_
            exact sv_ireturn (pc := 85) G T ⟨(Nat.le_of_ble_eq_true rfl), (Nat.le_of_ble_eq_true rfl)⟩ dX0_runners_85 ⟨_, rfl, rfl, h⟩
          · have h := h.1 c_16
            refine sv_iconst (pc := 74) G dX0_runners_74 1 ic_1 ?_
            refine sv_iload_n (pc := 75) G dX0_runners_75 1 rfl ?_
            refine sv_ishl (pc := 76) G dX0_runners_76 ?_
            exact sv_ireturn (pc := 77) G T ⟨(Nat.le_of_ble_eq_true rfl), (Nat.le_of_ble_eq_true rfl)⟩ dX0_runners_77 ⟨_, rfl, rfl, h⟩
      · have h := h.1 c_9
        refine sv_iload_n (pc := 43) G dX0_runners_43 1 rfl ?_
        exact sv_ireturn (pc := 44) G T ⟨(Nat.le_of_ble_eq_true rfl), (Nat.le_of_ble_eq_true rfl)⟩ dX0_runners_44 ⟨_, rfl, rfl, h⟩
def wp_X0_smokeNow_52 (F : sv_Fr) (a : Nat) (Q : Int32 → sv_Mg → Prop) (K25 : Int32 → Int32 → sv_Mg → Prop) (v1 : Int32) (v2 : Int32) (g : sv_Mg) : Prop := ∀ v2_1 : Int32, v2_1 = v2 + 1 → K25 v1 v2_1 g
def wp_X0_smokeNow_25 (F : sv_Fr) (a : Nat) (Q : Int32 → sv_Mg → Prop) : Nat → Int32 → Int32 → sv_Mg → Prop
  | 0, _, _, _ => False
  | n + 1, v1, v2, g => (((g a 8) ≤ v2 → ((10 ≤ v1 → ((25 ≤ v1 → Q 3 g) ∧ (¬ 25 ≤ v1 → Q 2 g))) ∧ (¬ 10 ≤ v1 → Q 1 g))) ∧ (¬ (g a 8) ≤ v2 → vp_in v2 10 ∧ (((g (a + 6) v2.toNatClampNeg) = (-1) → wp_X0_smokeNow_52 F a Q (wp_X0_smokeNow_25 F a Q  n) v1 v2 g) ∧ (¬ (g (a + 6) v2.toNatClampNeg) = (-1) → vp_in v2 10 ∧ ∀ v1_8 : Int32, v1_8 = (v1 + (g (a + 5) v2.toNatClampNeg)) → wp_X0_smokeNow_52 F a Q (wp_X0_smokeNow_25 F a Q  n) v1_8 v2 g))))
def wp_X0_smokeNow (F : sv_Fr) (a : Nat) (g : sv_Mg) (Q : Int32 → sv_Mg → Prop) : Prop := (((g a 13) = (-1) → ∀ v1_10 : Int32, v1_10 = ((g a 9) - ((g a 10) / 10)) → ∃ n_11, wp_X0_smokeNow_25 F a Q  n_11 v1_10 0 g) ∧ (¬ (g a 13) = (-1) → Q 0 g))
set_option maxRecDepth 100000 in
set_option maxHeartbeats 4000000 in
theorem aw_X0_smokeNow_52 {x : sv_X} {b : Nat} {xt : sv_Xt} {F : sv_Fr} {a : Nat} {Q : Int32 → sv_Mg → Prop} (G : sv_G x b xt RX0 cX0_smokeNow 3) (RR : sv_R x 0 0 0 0) (T : sv_RT x (some .int)) (hL : sv_Lay F) (ha : sv_isC a) {K25 : Int32 → Int32 → sv_Mg → Prop} (hK25 : ∀ (v1 : Int32) (v2 : Int32) (g : sv_Mg), K25 v1 v2 g → sv_AW x (sv_Q x (sv_qI F Q) 0 0) F g 0 0 25 [(0, .ref (b + a)), (1, .int v1), (2, .int v2)] []) : ∀ (v1 : Int32) (v2 : Int32) (g : sv_Mg), wp_X0_smokeNow_52 F a Q K25 v1 v2 g → sv_AW x (sv_Q x (sv_qI F Q) 0 0) F g 0 0 52 [(0, .ref (b + a)), (1, .int v1), (2, .int v2)] [] := by
  intro v1 v2 g h
  unfold wp_X0_smokeNow_52 at h
  obtain ⟨v2_1, ev2_1⟩ : ∃ y : Int32, y = v2 + 1 := ⟨_, rfl⟩
  have h := h v2_1 ev2_1
  refine sv_iinc (pc := 52) G dX0_smokeNow_52 2 v2_1 [(2, .int v2_1), (0, .ref (b + a)), (1, .int v1)] (by rw [ev2_1, ic_1]) rfl (by decide) rfl ?_
  refine sv_goto (pc := 55) G dX0_smokeNow_55 25 (by decide) ?_
  refine sv_locs [1, 2, 0] [(0, .ref (b + a)), (1, .int v1), (2, .int v2_1)] rfl ?_
  exact hK25 v1 v2_1 g  h
set_option maxRecDepth 100000 in
set_option maxHeartbeats 4000000 in
theorem aw_X0_smokeNow_25 {x : sv_X} {b : Nat} {xt : sv_Xt} {F : sv_Fr} {a : Nat} {Q : Int32 → sv_Mg → Prop} (G : sv_G x b xt RX0 cX0_smokeNow 3) (RR : sv_R x 0 0 0 0) (T : sv_RT x (some .int)) (hL : sv_Lay F) (ha : sv_isC a) : ∀ (n : Nat) (v1 : Int32) (v2 : Int32) (g : sv_Mg), wp_X0_smokeNow_25 F a Q  n v1 v2 g → sv_AW x (sv_Q x (sv_qI F Q) 0 0) F g 0 0 25 [(0, .ref (b + a)), (1, .int v1), (2, .int v2)] [] := by
  intro n
  induction n with
  | zero => intro v1 v2 g h; exact h.elim
  | succ n ih =>
    intro v1 v2 g h
    rw [wp_X0_smokeNow_25] at h
    refine sv_iload_n (pc := 25) G dX0_smokeNow_25 2 rfl ?_
    refine sv_aload_n (pc := 26) G dX0_smokeNow_26 0 rfl ?_
    refine sv_getI (pc := 27) G fw_X0_33 (hL.cS ha) rfl dX0_smokeNow_27 ?_
    refine sv_ic_ge (pc := 30) G 58 (by decide) dX0_smokeNow_30 (fun c_2 => ?_) (fun c_2 => ?_)
    · have h := h.1 c_2
      refine sv_iload_n (pc := 58) G dX0_smokeNow_58 1 rfl ?_
      refine sv_bipush (pc := 59) G dX0_smokeNow_59 10 bp_10 ?_
      refine sv_ic_ge (pc := 61) G 66 (by decide) dX0_smokeNow_61 (fun c_3 => ?_) (fun c_3 => ?_)
      · have h := h.1 c_3
        refine sv_iload_n (pc := 66) G dX0_smokeNow_66 1 rfl ?_
        refine sv_bipush (pc := 67) G dX0_smokeNow_67 25 bp_25 ?_
        refine sv_ic_ge (pc := 69) G 76 (by decide) dX0_smokeNow_69 (fun c_4 => ?_) (fun c_4 => ?_)
        · have h := h.1 c_4
          refine sv_iconst (pc := 76) G dX0_smokeNow_76 3 ic_3 ?_
          exact sv_ireturn (pc := 77) G T ⟨(Nat.le_of_ble_eq_true rfl), (Nat.le_of_ble_eq_true rfl)⟩ dX0_smokeNow_77 ⟨_, rfl, rfl, h⟩
        · have h := h.2 c_4
          refine sv_iconst (pc := 72) G dX0_smokeNow_72 2 ic_2 ?_
          refine sv_goto (pc := 73) G dX0_smokeNow_73 77 (by decide) ?_
          exact sv_ireturn (pc := 77) G T ⟨(Nat.le_of_ble_eq_true rfl), (Nat.le_of_ble_eq_true rfl)⟩ dX0_smokeNow_77 ⟨_, rfl, rfl, h⟩
      · have h := h.2 c_3
        refine sv_iconst (pc := 64) G dX0_smokeNow_64 1 ic_1 ?_
        exact sv_ireturn (pc := 65) G T ⟨(Nat.le_of_ble_eq_true rfl), (Nat.le_of_ble_eq_true rfl)⟩ dX0_smokeNow_65 ⟨_, rfl, rfl, h⟩
    · have h := h.2 c_2
      refine sv_aload_n (pc := 33) G dX0_smokeNow_33 0 rfl ?_
      refine sv_getR (pc := 34) G fw_X0_27 (hL.cS ha) rfl (hL.cR6 ha) dX0_smokeNow_34 ?_
      refine sv_iload_n (pc := 37) G dX0_smokeNow_37 2 rfl ?_
      obtain ⟨s_5, h⟩ := h
      refine sv_ialdK (pc := 38) G (hL.cA6 ha) s_5 v2.toNatClampNeg rfl dX0_smokeNow_38 ?_
      refine sv_iconst (pc := 39) G dX0_smokeNow_39 (-1) ic_m1 ?_
      refine sv_ic_eq (pc := 40) G 52 (by decide) dX0_smokeNow_40 (fun c_6 => ?_) (fun c_6 => ?_)
      · have h := h.1 c_6
        refine sv_locs [0, 1, 2] [(0, .ref (b + a)), (1, .int v1), (2, .int v2)] rfl ?_
        exact aw_X0_smokeNow_52 G RR T hL ha ih v1 v2 g  h
      · have h := h.2 c_6
        refine sv_iload_n (pc := 43) G dX0_smokeNow_43 1 rfl ?_
        refine sv_aload_n (pc := 44) G dX0_smokeNow_44 0 rfl ?_
        refine sv_getR (pc := 45) G fw_X0_24 (hL.cS ha) rfl (hL.cR5 ha) dX0_smokeNow_45 ?_
        refine sv_iload_n (pc := 48) G dX0_smokeNow_48 2 rfl ?_
        obtain ⟨s_7, h⟩ := h
        refine sv_ialdK (pc := 49) G (hL.cA5 ha) s_7 v2.toNatClampNeg rfl dX0_smokeNow_49 ?_
        refine sv_iadd (pc := 50) G dX0_smokeNow_50 ?_
        refine sv_topi (fun v1_8 ev1_8 => ?_)
        have h := h v1_8 ev1_8
        refine sv_istore_n (pc := 51) G dX0_smokeNow_51 [(1, .int v1_8), (0, .ref (b + a)), (2, .int v2)] (by decide) rfl ?_
        refine sv_locs [1, 0, 2] [(0, .ref (b + a)), (1, .int v1_8), (2, .int v2)] rfl ?_
        exact aw_X0_smokeNow_52 G RR T hL ha ih v1_8 v2 g  h
set_option maxRecDepth 100000 in
set_option maxHeartbeats 4000000 in
theorem c_X0_smokeNow {b : Nat} {xt : sv_Xt} {F : sv_Fr} {a : Nat} {g : sv_Mg} {Q : Int32 → sv_Mg → Prop} (hL : sv_Lay F) (ha : sv_isC a) (h : wp_X0_smokeNow F a g Q) : sv_Cal yX0_smokeNow cX0_smokeNow 3 (some .int) 0 0 0 0 b xt [.ref (b + a)] F g (sv_qI F Q) := by
  refine sv_intro mw_X0_smokeNow [(0, .ref (b + a))] rfl (Nat.le_of_ble_eq_true rfl) (fun x G RR T NM => ?_)
  have G : sv_G x b xt RX0 cX0_smokeNow 3 := G
  unfold wp_X0_smokeNow at h
  refine sv_aload_n (pc := 0) G dX0_smokeNow_0 0 rfl ?_
  refine sv_getI (pc := 1) G fw_X0_49 (hL.cS ha) rfl dX0_smokeNow_1 ?_
  refine sv_iconst (pc := 4) G dX0_smokeNow_4 (-1) ic_m1 ?_
  refine sv_ic_eq (pc := 5) G 10 (by decide) dX0_smokeNow_5 (fun c_9 => ?_) (fun c_9 => ?_)
  · have h := h.1 c_9
    refine sv_aload_n (pc := 10) G dX0_smokeNow_10 0 rfl ?_
    refine sv_getI (pc := 11) G fw_X0_37 (hL.cS ha) rfl dX0_smokeNow_11 ?_
    refine sv_aload_n (pc := 14) G dX0_smokeNow_14 0 rfl ?_
    refine sv_getI (pc := 15) G fw_X0_40 (hL.cS ha) rfl dX0_smokeNow_15 ?_
    refine sv_bipush (pc := 18) G dX0_smokeNow_18 10 bp_10 ?_
    refine sv_idiv (pc := 20) G dX0_smokeNow_20 (by decide) ?_
    refine sv_isub (pc := 21) G dX0_smokeNow_21 ?_
    refine sv_topi (fun v1_10 ev1_10 => ?_)
    have h := h v1_10 ev1_10
    refine sv_istore_n (pc := 22) G dX0_smokeNow_22 [(1, .int v1_10), (0, .ref (b + a))] (by decide) rfl ?_
    refine sv_iconst (pc := 23) G dX0_smokeNow_23 0 ic_0 ?_
    refine sv_istore_n (pc := 24) G dX0_smokeNow_24 [(2, .int 0), (1, .int v1_10), (0, .ref (b + a))] (by decide) rfl ?_
    refine sv_locs [2, 1, 0] [(0, .ref (b + a)), (1, .int v1_10), (2, .int 0)] rfl ?_
    obtain ⟨n_11, h⟩ := h
    exact aw_X0_smokeNow_25 G RR T hL ha  n_11 v1_10 0 g  h
  · have h := h.2 c_9
    refine sv_iconst (pc := 8) G dX0_smokeNow_8 0 ic_0 ?_
    exact sv_ireturn (pc := 9) G T ⟨(Nat.le_of_ble_eq_true rfl), (Nat.le_of_ble_eq_true rfl)⟩ dX0_smokeNow_9 ⟨_, rfl, rfl, h⟩
def wp_X0_tally_54 (F : sv_Fr) (a : Nat) (Q : sv_Mg → Prop) (K10 : Int32 → sv_Mg → Prop) (v1 : Int32) (g : sv_Mg) : Prop := ∀ v1_1 : Int32, v1_1 = v1 + 1 → K10 v1_1 g
def wp_X0_tally_10 (F : sv_Fr) (a : Nat) (Q : sv_Mg → Prop) : Nat → Int32 → sv_Mg → Prop
  | 0, _, _ => False
  | n + 1, v1, g => (((g a 8) ≤ v1 → Q g) ∧ (¬ (g a 8) ≤ v1 → vp_in v1 10 ∧ wp_X0_isVoter F a (g (a + 6) v1.toNatClampNeg) g (fun r_5 g_4 => ((r_5 = 0 → wp_X0_tally_54 F a Q (wp_X0_tally_10 F a Q  n) v1 g_4) ∧ (¬ r_5 = 0 → vp_in v1 10 ∧ vp_in (g_4 (a + 6) v1.toNatClampNeg) 10 ∧ vp_in v1 10 ∧ wp_X6_weight F (g_4 (a + 1) v1.toNatClampNeg) g_4 (fun r_11 g_10 => vp_in (g_4 (a + 6) v1.toNatClampNeg) 10 ∧ ∀ g_13, g_13 = sv_st g_10 (a + 7) (g_4 (a + 6) v1.toNatClampNeg).toNatClampNeg ((g_4 (a + 7) (g_4 (a + 6) v1.toNatClampNeg).toNatClampNeg) + r_11) → wp_X0_tally_54 F a Q (wp_X0_tally_10 F a Q  n) v1 g_13))))))
def wp_X0_tally (F : sv_Fr) (a : Nat) (g : sv_Mg) (Q : sv_Mg → Prop) : Prop := wp_J7_fill_53178 F (a + 7) 10 0 g (fun g_14 => ∃ n_15, wp_X0_tally_10 F a Q  n_15 0 g_14)
set_option maxRecDepth 100000 in
set_option maxHeartbeats 4000000 in
theorem aw_X0_tally_54 {x : sv_X} {b : Nat} {xt : sv_Xt} {F : sv_Fr} {a : Nat} {Q : sv_Mg → Prop} (G : sv_G x b xt RX0 cX0_tally 2) (RR : sv_R x 1 23 0 0) (T : sv_RT x none) (hL : sv_Lay F) (ha : sv_isC a) {K10 : Int32 → sv_Mg → Prop} (hK10 : ∀ (v1 : Int32) (g : sv_Mg), K10 v1 g → sv_AW x (sv_Q x (sv_qV F Q) 0 0) F g 0 0 10 [(0, .ref (b + a)), (1, .int v1)] []) : ∀ (v1 : Int32) (g : sv_Mg), wp_X0_tally_54 F a Q K10 v1 g → sv_AW x (sv_Q x (sv_qV F Q) 0 0) F g 0 0 54 [(0, .ref (b + a)), (1, .int v1)] [] := by
  intro v1 g h
  unfold wp_X0_tally_54 at h
  obtain ⟨v1_1, ev1_1⟩ : ∃ y : Int32, y = v1 + 1 := ⟨_, rfl⟩
  have h := h v1_1 ev1_1
  refine sv_iinc (pc := 54) G dX0_tally_54 1 v1_1 [(1, .int v1_1), (0, .ref (b + a))] (by rw [ev1_1, ic_1]) rfl (by decide) rfl ?_
  refine sv_goto (pc := 57) G dX0_tally_57 10 (by decide) ?_
  refine sv_locs [1, 0] [(0, .ref (b + a)), (1, .int v1_1)] rfl ?_
  exact hK10 v1_1 g  h
set_option maxRecDepth 100000 in
set_option maxHeartbeats 4000000 in
theorem aw_X0_tally_10 {x : sv_X} {b : Nat} {xt : sv_Xt} {F : sv_Fr} {a : Nat} {Q : sv_Mg → Prop} (G : sv_G x b xt RX0 cX0_tally 2) (RR : sv_R x 1 23 0 0) (T : sv_RT x none) (hL : sv_Lay F) (ha : sv_isC a) : ∀ (n : Nat) (v1 : Int32) (g : sv_Mg), wp_X0_tally_10 F a Q  n v1 g → sv_AW x (sv_Q x (sv_qV F Q) 0 0) F g 0 0 10 [(0, .ref (b + a)), (1, .int v1)] [] := by
  intro n
  induction n with
  | zero => intro v1 g h; exact h.elim
  | succ n ih =>
    intro v1 g h
    rw [wp_X0_tally_10] at h
    refine sv_iload_n (pc := 10) G dX0_tally_10 1 rfl ?_
    refine sv_aload_n (pc := 11) G dX0_tally_11 0 rfl ?_
    refine sv_getI (pc := 12) G fw_X0_33 (hL.cS ha) rfl dX0_tally_12 ?_
    refine sv_ic_ge (pc := 15) G 60 (by decide) dX0_tally_15 (fun c_2 => ?_) (fun c_2 => ?_)
    · have h := h.1 c_2
      exact sv_vreturn (pc := 60) G T ⟨(Nat.le_of_ble_eq_true rfl), (Nat.le_of_ble_eq_true rfl)⟩ dX0_tally_60 ⟨rfl, rfl, h⟩
    · have h := h.2 c_2
      refine sv_aload_n (pc := 18) G dX0_tally_18 0 rfl ?_
      refine sv_aload_n (pc := 19) G dX0_tally_19 0 rfl ?_
      refine sv_getR (pc := 20) G fw_X0_27 (hL.cS ha) rfl (hL.cR6 ha) dX0_tally_20 ?_
      refine sv_iload_n (pc := 23) G dX0_tally_23 1 rfl ?_
      obtain ⟨s_3, h⟩ := h
      refine sv_ialdK (pc := 24) G (hL.cA6 ha) s_3 v1.toNatClampNeg rfl dX0_tally_24 ?_
      refine sv_callV (cs := 0) (sl := 0) (st := []) (As := [.int (g (a + 6) v1.toNatClampNeg)]) (a := a) (pc := 25) G RR (c_X0_isVoter hL ha h) mw_X0_isVoter lk_X0_117 (hL.cS ha) (by decide) rfl rfl ⟨(Nat.le_of_ble_eq_true rfl), (Nat.le_of_ble_eq_true rfl)⟩ ⟨(Nat.le_of_ble_eq_true rfl), (Nat.le_of_ble_eq_true rfl)⟩ (Nat.le_of_ble_eq_true rfl) rfl dX0_tally_25 (sv_kI (fun r_5 g_4 h => ?_))
      refine sv_if_eq (pc := 28) G 54 (by decide) dX0_tally_28 (fun c_6 => ?_) (fun c_6 => ?_)
      · have h := h.1 c_6
        refine sv_locs [0, 1] [(0, .ref (b + a)), (1, .int v1)] rfl ?_
        exact aw_X0_tally_54 G RR T hL ha ih v1 g_4  h
      · have h := h.2 c_6
        refine sv_aload_n (pc := 31) G dX0_tally_31 0 rfl ?_
        refine sv_getR (pc := 32) G fw_X0_30 (hL.cS ha) rfl (hL.cR7 ha) dX0_tally_32 ?_
        refine sv_aload_n (pc := 35) G dX0_tally_35 0 rfl ?_
        refine sv_getR (pc := 36) G fw_X0_27 (hL.cS ha) rfl (hL.cR6 ha) dX0_tally_36 ?_
        refine sv_iload_n (pc := 39) G dX0_tally_39 1 rfl ?_
        obtain ⟨s_7, h⟩ := h
        refine sv_ialdK (pc := 40) G (hL.cA6 ha) s_7 v1.toNatClampNeg rfl dX0_tally_40 ?_
        refine sv_dup2 (pc := 41) G dX0_tally_41 rfl rfl ?_
        obtain ⟨s_8, h⟩ := h
        refine sv_ialdK (pc := 42) G (hL.cA7 ha) s_8 (g_4 (a + 6) v1.toNatClampNeg).toNatClampNeg rfl dX0_tally_42 ?_
        refine sv_aload_n (pc := 43) G dX0_tally_43 0 rfl ?_
        refine sv_getR (pc := 44) G fw_X0_9 (hL.cS ha) rfl (hL.cR1 ha) dX0_tally_44 ?_
        refine sv_iload_n (pc := 47) G dX0_tally_47 1 rfl ?_
        obtain ⟨s_9, h⟩ := h
        refine sv_ialdK (pc := 48) G (hL.cA1 ha) s_9 v1.toNatClampNeg rfl dX0_tally_48 ?_
        refine sv_callSN (cs := 0) (sl := 0) (st := [.int (g_4 (a + 7) (g_4 (a + 6) v1.toNatClampNeg).toNatClampNeg), .int (g_4 (a + 6) v1.toNatClampNeg), .ref (b + (a + 7))]) (As := [.int (g_4 (a + 1) v1.toNatClampNeg)]) (pc := 49) G RR (c_X6_weight hL  h) mw_X6_weight lk_X0_121 rfl ⟨(Nat.le_of_ble_eq_true rfl), (Nat.le_of_ble_eq_true rfl)⟩ ⟨(Nat.le_of_ble_eq_true rfl), (Nat.le_of_ble_eq_true rfl)⟩ (Nat.le_of_ble_eq_true rfl) rfl dX0_tally_49 (sv_kI (fun r_11 g_10 h => ?_))
        refine sv_iadd (pc := 52) G dX0_tally_52 ?_
        obtain ⟨s_12, h⟩ := h
        refine sv_iastK (pc := 53) G (hL.cA7 ha) s_12 (g_4 (a + 6) v1.toNatClampNeg).toNatClampNeg rfl dX0_tally_53 (fun g_13 eg_13 => ?_)
        have h := h g_13 eg_13
        refine sv_locs [0, 1] [(0, .ref (b + a)), (1, .int v1)] rfl ?_
        exact aw_X0_tally_54 G RR T hL ha ih v1 g_13  h
set_option maxRecDepth 100000 in
set_option maxHeartbeats 4000000 in
theorem c_X0_tally {b : Nat} {xt : sv_Xt} {F : sv_Fr} {a : Nat} {g : sv_Mg} {Q : sv_Mg → Prop} (hL : sv_Lay F) (ha : sv_isC a) (h : wp_X0_tally F a g Q) : sv_Cal yX0_tally cX0_tally 2 none 1 23 0 0 b xt [.ref (b + a)] F g (sv_qV F Q) := by
  refine sv_intro mw_X0_tally [(0, .ref (b + a))] rfl (Nat.le_of_ble_eq_true rfl) (fun x G RR T NM => ?_)
  have G : sv_G x b xt RX0 cX0_tally 2 := G
  unfold wp_X0_tally at h
  refine sv_aload_n (pc := 0) G dX0_tally_0 0 rfl ?_
  refine sv_getR (pc := 1) G fw_X0_30 (hL.cS ha) rfl (hL.cR7 ha) dX0_tally_1 ?_
  refine sv_iconst (pc := 4) G dX0_tally_4 0 ic_0 ?_
  refine sv_callS (cs := 0) (sl := 0) (st := []) (As := [.ref (b + (a + 7)), .int 0]) (pc := 5) G RR (c_J7_fill_53178 hL (hL.cA7 ha) h) mw_J7_fill_53178 lk_X0_86 rfl ⟨(Nat.le_of_ble_eq_true rfl), (Nat.le_of_ble_eq_true rfl)⟩ ⟨(Nat.le_of_ble_eq_true rfl), (Nat.le_of_ble_eq_true rfl)⟩ (Nat.le_of_ble_eq_true rfl) rfl dX0_tally_5 (sv_kV (fun g_14 h => ?_))
  refine sv_iconst (pc := 8) G dX0_tally_8 0 ic_0 ?_
  refine sv_istore_n (pc := 9) G dX0_tally_9 [(1, .int 0), (0, .ref (b + a))] (by decide) rfl ?_
  refine sv_locs [1, 0] [(0, .ref (b + a)), (1, .int 0)] rfl ?_
  obtain ⟨n_15, h⟩ := h
  exact aw_X0_tally_10 G RR T hL ha  n_15 0 g_14  h
def wp_X0_wetPapers_33 (F : sv_Fr) (a : Nat) (Q : sv_Mg → Prop) (K2 : Int32 → sv_Mg → Prop) (v1 : Int32) (g : sv_Mg) : Prop := ∀ v1_1 : Int32, v1_1 = v1 + 1 → K2 v1_1 g
def wp_X0_wetPapers_2 (F : sv_Fr) (a : Nat) (Q : sv_Mg → Prop) : Nat → Int32 → sv_Mg → Prop
  | 0, _, _ => False
  | n + 1, v1, g => (((g a 8) ≤ v1 → Q g) ∧ (¬ (g a 8) ≤ v1 → vp_in v1 10 ∧ (((g (a + 6) v1.toNatClampNeg) = (-1) → wp_X0_wetPapers_33 F a Q (wp_X0_wetPapers_2 F a Q  n) v1 g) ∧ (¬ (g (a + 6) v1.toNatClampNeg) = (-1) → wp_X0_draw F a g (fun r_6 g_5 => vp_in v1 10 ∧ ∀ g_8, g_8 = sv_st g_5 (a + 5) v1.toNatClampNeg (r_6 - r_6 / 10 * 10) → wp_X0_wetPapers_33 F a Q (wp_X0_wetPapers_2 F a Q  n) v1 g_8)))))
def wp_X0_wetPapers (F : sv_Fr) (a : Nat) (g : sv_Mg) (Q : sv_Mg → Prop) : Prop := ∃ n_9, wp_X0_wetPapers_2 F a Q  n_9 0 g
set_option maxRecDepth 100000 in
set_option maxHeartbeats 4000000 in
theorem aw_X0_wetPapers_33 {x : sv_X} {b : Nat} {xt : sv_Xt} {F : sv_Fr} {a : Nat} {Q : sv_Mg → Prop} (G : sv_G x b xt RX0 cX0_wetPapers 2) (RR : sv_R x 1 20 0 0) (T : sv_RT x none) (hL : sv_Lay F) (ha : sv_isC a) {K2 : Int32 → sv_Mg → Prop} (hK2 : ∀ (v1 : Int32) (g : sv_Mg), K2 v1 g → sv_AW x (sv_Q x (sv_qV F Q) 0 0) F g 0 0 2 [(0, .ref (b + a)), (1, .int v1)] []) : ∀ (v1 : Int32) (g : sv_Mg), wp_X0_wetPapers_33 F a Q K2 v1 g → sv_AW x (sv_Q x (sv_qV F Q) 0 0) F g 0 0 33 [(0, .ref (b + a)), (1, .int v1)] [] := by
  intro v1 g h
  unfold wp_X0_wetPapers_33 at h
  obtain ⟨v1_1, ev1_1⟩ : ∃ y : Int32, y = v1 + 1 := ⟨_, rfl⟩
  have h := h v1_1 ev1_1
  refine sv_iinc (pc := 33) G dX0_wetPapers_33 1 v1_1 [(1, .int v1_1), (0, .ref (b + a))] (by rw [ev1_1, ic_1]) rfl (by decide) rfl ?_
  refine sv_goto (pc := 36) G dX0_wetPapers_36 2 (by decide) ?_
  refine sv_locs [1, 0] [(0, .ref (b + a)), (1, .int v1_1)] rfl ?_
  exact hK2 v1_1 g  h
set_option maxRecDepth 100000 in
set_option maxHeartbeats 4000000 in
theorem aw_X0_wetPapers_2 {x : sv_X} {b : Nat} {xt : sv_Xt} {F : sv_Fr} {a : Nat} {Q : sv_Mg → Prop} (G : sv_G x b xt RX0 cX0_wetPapers 2) (RR : sv_R x 1 20 0 0) (T : sv_RT x none) (hL : sv_Lay F) (ha : sv_isC a) : ∀ (n : Nat) (v1 : Int32) (g : sv_Mg), wp_X0_wetPapers_2 F a Q  n v1 g → sv_AW x (sv_Q x (sv_qV F Q) 0 0) F g 0 0 2 [(0, .ref (b + a)), (1, .int v1)] [] := by
  intro n
  induction n with
  | zero => intro v1 g h; exact h.elim
  | succ n ih =>
    intro v1 g h
    rw [wp_X0_wetPapers_2] at h
    refine sv_iload_n (pc := 2) G dX0_wetPapers_2 1 rfl ?_
    refine sv_aload_n (pc := 3) G dX0_wetPapers_3 0 rfl ?_
    refine sv_getI (pc := 4) G fw_X0_33 (hL.cS ha) rfl dX0_wetPapers_4 ?_
    refine sv_ic_ge (pc := 7) G 39 (by decide) dX0_wetPapers_7 (fun c_2 => ?_) (fun c_2 => ?_)
    · have h := h.1 c_2
      exact sv_vreturn (pc := 39) G T ⟨(Nat.le_of_ble_eq_true rfl), (Nat.le_of_ble_eq_true rfl)⟩ dX0_wetPapers_39 ⟨rfl, rfl, h⟩
    · have h := h.2 c_2
      refine sv_aload_n (pc := 10) G dX0_wetPapers_10 0 rfl ?_
      refine sv_getR (pc := 11) G fw_X0_27 (hL.cS ha) rfl (hL.cR6 ha) dX0_wetPapers_11 ?_
      refine sv_iload_n (pc := 14) G dX0_wetPapers_14 1 rfl ?_
      obtain ⟨s_3, h⟩ := h
      refine sv_ialdK (pc := 15) G (hL.cA6 ha) s_3 v1.toNatClampNeg rfl dX0_wetPapers_15 ?_
      refine sv_iconst (pc := 16) G dX0_wetPapers_16 (-1) ic_m1 ?_
      refine sv_ic_eq (pc := 17) G 33 (by decide) dX0_wetPapers_17 (fun c_4 => ?_) (fun c_4 => ?_)
      · have h := h.1 c_4
        refine sv_locs [0, 1] [(0, .ref (b + a)), (1, .int v1)] rfl ?_
        exact aw_X0_wetPapers_33 G RR T hL ha ih v1 g  h
      · have h := h.2 c_4
        refine sv_aload_n (pc := 20) G dX0_wetPapers_20 0 rfl ?_
        refine sv_getR (pc := 21) G fw_X0_24 (hL.cS ha) rfl (hL.cR5 ha) dX0_wetPapers_21 ?_
        refine sv_iload_n (pc := 24) G dX0_wetPapers_24 1 rfl ?_
        refine sv_aload_n (pc := 25) G dX0_wetPapers_25 0 rfl ?_
        refine sv_callV (cs := 0) (sl := 0) (st := [.int v1, .ref (b + (a + 5))]) (As := []) (a := a) (pc := 26) G RR (c_X0_draw hL ha h) mw_X0_draw lk_X0_77 (hL.cS ha) (by decide) rfl rfl ⟨(Nat.le_of_ble_eq_true rfl), (Nat.le_of_ble_eq_true rfl)⟩ ⟨(Nat.le_of_ble_eq_true rfl), (Nat.le_of_ble_eq_true rfl)⟩ (Nat.le_of_ble_eq_true rfl) rfl dX0_wetPapers_26 (sv_kI (fun r_6 g_5 h => ?_))
        refine sv_bipush (pc := 29) G dX0_wetPapers_29 10 bp_10 ?_
        refine sv_irem (pc := 31) G dX0_wetPapers_31 (by decide) ?_
        obtain ⟨s_7, h⟩ := h
        refine sv_iastK (pc := 32) G (hL.cA5 ha) s_7 v1.toNatClampNeg rfl dX0_wetPapers_32 (fun g_8 eg_8 => ?_)
        have h := h g_8 eg_8
        refine sv_locs [0, 1] [(0, .ref (b + a)), (1, .int v1)] rfl ?_
        exact aw_X0_wetPapers_33 G RR T hL ha ih v1 g_8  h
set_option maxRecDepth 100000 in
set_option maxHeartbeats 4000000 in
theorem c_X0_wetPapers {b : Nat} {xt : sv_Xt} {F : sv_Fr} {a : Nat} {g : sv_Mg} {Q : sv_Mg → Prop} (hL : sv_Lay F) (ha : sv_isC a) (h : wp_X0_wetPapers F a g Q) : sv_Cal yX0_wetPapers cX0_wetPapers 2 none 1 20 0 0 b xt [.ref (b + a)] F g (sv_qV F Q) := by
  refine sv_intro mw_X0_wetPapers [(0, .ref (b + a))] rfl (Nat.le_of_ble_eq_true rfl) (fun x G RR T NM => ?_)
  have G : sv_G x b xt RX0 cX0_wetPapers 2 := G
  unfold wp_X0_wetPapers at h
  refine sv_iconst (pc := 0) G dX0_wetPapers_0 0 ic_0 ?_
  refine sv_istore_n (pc := 1) G dX0_wetPapers_1 [(1, .int 0), (0, .ref (b + a))] (by decide) rfl ?_
  refine sv_locs [1, 0] [(0, .ref (b + a)), (1, .int 0)] rfl ?_
  obtain ⟨n_9, h⟩ := h
  exact aw_X0_wetPapers_2 G RR T hL ha  n_9 0 g  h
def wp_X0_round_38 (F : sv_Fr) (a : Nat) (Q : sv_Mg → Prop) : Nat → Int32 → Int32 → Int32 → sv_Mg → Prop
  | 0, _, _, _, _ => False
  | n + 1, v1, v2, v3, g => (((g a 8) ≤ v3 → ∀ g_2, g_2 = sv_st g a 14 ((g a 14) + 1) → wp_X0_tally F a g_2 (fun g_3 => wp_X0_elected F a g_3 (fun r_5 g_4 => ∀ g_6, g_6 = sv_st g_4 a 13 r_5 → wp_X0_smokeNow F a g_6 (fun r_8 g_7 => ∀ g_9, g_9 = sv_st g_7 a 17 r_8 → wp_X0_draw F a g_9 (fun r_11 g_10 => ∀ g_12, g_12 = sv_st g_10 a 12 (r_11 - r_11 / 4 * 4) → wp_X0_wetPapers F a g_12 (fun g_13 => Q g_13)))))) ∧ (¬ (g a 8) ≤ v3 → wp_X0_choice F a v3 v1 v2 g (fun r_15 g_14 => vp_in v3 10 ∧ ∀ g_17, g_17 = sv_st g_14 (a + 6) v3.toNatClampNeg r_15 → ∀ v3_18 : Int32, v3_18 = v3 + 1 → (wp_X0_round_38 F a Q  n) v1 v2 v3_18 g_17)))
def wp_X0_round (F : sv_Fr) (a : Nat) (g : sv_Mg) (Q : sv_Mg → Prop) : Prop := ∀ g_19, g_19 = sv_st g a 15 ((g a 15) + 1) → (((g_19 a 13) = (-1) → (((g_19 a 8) = 0 → Q g_19) ∧ (¬ (g_19 a 8) = 0 → wp_X0_runners F a g_19 (fun r_23 g_22 => wp_X0_leader F a g_22 (fun r_25 g_24 => ∃ n_26, wp_X0_round_38 F a Q  n_26 r_23 r_25 0 g_24))))) ∧ (¬ (g_19 a 13) = (-1) → Q g_19))
set_option maxRecDepth 100000 in
set_option maxHeartbeats 4000000 in
theorem aw_X0_round_38 {x : sv_X} {b : Nat} {xt : sv_Xt} {F : sv_Fr} {a : Nat} {Q : sv_Mg → Prop} (G : sv_G x b xt RX0 cX0_round 4) (RR : sv_R x 5 120 0 0) (T : sv_RT x none) (hL : sv_Lay F) (ha : sv_isC a) : ∀ (n : Nat) (v1 : Int32) (v2 : Int32) (v3 : Int32) (g : sv_Mg), wp_X0_round_38 F a Q  n v1 v2 v3 g → sv_AW x (sv_Q x (sv_qV F Q) 0 0) F g 0 0 38 [(0, .ref (b + a)), (1, .int v1), (2, .int v2), (3, .int v3)] [] := by
  intro n
  induction n with
  | zero => intro v1 v2 v3 g h; exact h.elim
  | succ n ih =>
    intro v1 v2 v3 g h
    rw [wp_X0_round_38] at h
    refine sv_iload_n (pc := 38) G dX0_round_38 3 rfl ?_
    refine sv_aload_n (pc := 39) G dX0_round_39 0 rfl ?_
    refine sv_getI (pc := 40) G fw_X0_33 (hL.cS ha) rfl dX0_round_40 ?_
    refine sv_ic_ge (pc := 43) G 65 (by decide) dX0_round_43 (fun c_1 => ?_) (fun c_1 => ?_)
    · have h := h.1 c_1
      refine sv_aload_n (pc := 65) G dX0_round_65 0 rfl ?_
      refine sv_dup (pc := 66) G dX0_round_66 rfl ?_
      refine sv_getI (pc := 67) G fw_X0_52 (hL.cS ha) rfl dX0_round_67 ?_
      refine sv_iconst (pc := 70) G dX0_round_70 1 ic_1 ?_
      refine sv_iadd (pc := 71) G dX0_round_71 ?_
      refine sv_putI (pc := 72) G fw_X0_52 (hL.cS ha) rfl dX0_round_72 (fun g_2 eg_2 => ?_)
      have h := h g_2 eg_2
      refine sv_aload_n (pc := 75) G dX0_round_75 0 rfl ?_
      refine sv_callV (cs := 0) (sl := 0) (st := []) (As := []) (a := a) (pc := 76) G RR (c_X0_tally hL ha h) mw_X0_tally lk_X0_105 (hL.cS ha) (by decide) rfl rfl ⟨(Nat.le_of_ble_eq_true rfl), (Nat.le_of_ble_eq_true rfl)⟩ ⟨(Nat.le_of_ble_eq_true rfl), (Nat.le_of_ble_eq_true rfl)⟩ (Nat.le_of_ble_eq_true rfl) rfl dX0_round_76 (sv_kV (fun g_3 h => ?_))
      refine sv_aload_n (pc := 79) G dX0_round_79 0 rfl ?_
      refine sv_aload_n (pc := 80) G dX0_round_80 0 rfl ?_
      refine sv_callV (cs := 0) (sl := 0) (st := [.ref (b + a)]) (As := []) (a := a) (pc := 81) G RR (c_X0_elected hL ha h) mw_X0_elected lk_X0_108 (hL.cS ha) (by decide) rfl rfl ⟨(Nat.le_of_ble_eq_true rfl), (Nat.le_of_ble_eq_true rfl)⟩ ⟨(Nat.le_of_ble_eq_true rfl), (Nat.le_of_ble_eq_true rfl)⟩ (Nat.le_of_ble_eq_true rfl) rfl dX0_round_81 (sv_kI (fun r_5 g_4 h => ?_))
      refine sv_putI (pc := 84) G fw_X0_49 (hL.cS ha) rfl dX0_round_84 (fun g_6 eg_6 => ?_)
      have h := h g_6 eg_6
      refine sv_aload_n (pc := 87) G dX0_round_87 0 rfl ?_
      refine sv_aload_n (pc := 88) G dX0_round_88 0 rfl ?_
      refine sv_callV (cs := 0) (sl := 0) (st := [.ref (b + a)]) (As := []) (a := a) (pc := 89) G RR (c_X0_smokeNow hL ha h) mw_X0_smokeNow lk_X0_111 (hL.cS ha) (by decide) rfl rfl ⟨(Nat.le_of_ble_eq_true rfl), (Nat.le_of_ble_eq_true rfl)⟩ ⟨(Nat.le_of_ble_eq_true rfl), (Nat.le_of_ble_eq_true rfl)⟩ (Nat.le_of_ble_eq_true rfl) rfl dX0_round_89 (sv_kI (fun r_8 g_7 h => ?_))
      refine sv_putI (pc := 92) G fw_X0_61 (hL.cS ha) rfl dX0_round_92 (fun g_9 eg_9 => ?_)
      have h := h g_9 eg_9
      refine sv_aload_n (pc := 95) G dX0_round_95 0 rfl ?_
      refine sv_aload_n (pc := 96) G dX0_round_96 0 rfl ?_
      refine sv_callV (cs := 0) (sl := 0) (st := [.ref (b + a)]) (As := []) (a := a) (pc := 97) G RR (c_X0_draw hL ha h) mw_X0_draw lk_X0_77 (hL.cS ha) (by decide) rfl rfl ⟨(Nat.le_of_ble_eq_true rfl), (Nat.le_of_ble_eq_true rfl)⟩ ⟨(Nat.le_of_ble_eq_true rfl), (Nat.le_of_ble_eq_true rfl)⟩ (Nat.le_of_ble_eq_true rfl) rfl dX0_round_97 (sv_kI (fun r_11 g_10 h => ?_))
      refine sv_iconst (pc := 100) G dX0_round_100 4 ic_4 ?_
      refine sv_irem (pc := 101) G dX0_round_101 (by decide) ?_
      refine sv_putI (pc := 102) G fw_X0_46 (hL.cS ha) rfl dX0_round_102 (fun g_12 eg_12 => ?_)
      have h := h g_12 eg_12
      refine sv_aload_n (pc := 105) G dX0_round_105 0 rfl ?_
      refine sv_callV (cs := 0) (sl := 0) (st := []) (As := []) (a := a) (pc := 106) G RR (c_X0_wetPapers hL ha h) mw_X0_wetPapers lk_X0_114 (hL.cS ha) (by decide) rfl rfl ⟨(Nat.le_of_ble_eq_true rfl), (Nat.le_of_ble_eq_true rfl)⟩ ⟨(Nat.le_of_ble_eq_true rfl), (Nat.le_of_ble_eq_true rfl)⟩ (Nat.le_of_ble_eq_true rfl) rfl dX0_round_106 (sv_kV (fun g_13 h => ?_))
      exact sv_vreturn (pc := 109) G T ⟨(Nat.le_of_ble_eq_true rfl), (Nat.le_of_ble_eq_true rfl)⟩ dX0_round_109 ⟨rfl, rfl, h⟩
    · have h := h.2 c_1
      refine sv_aload_n (pc := 46) G dX0_round_46 0 rfl ?_
      refine sv_getR (pc := 47) G fw_X0_27 (hL.cS ha) rfl (hL.cR6 ha) dX0_round_47 ?_
      refine sv_iload_n (pc := 50) G dX0_round_50 3 rfl ?_
      refine sv_aload_n (pc := 51) G dX0_round_51 0 rfl ?_
      refine sv_iload_n (pc := 52) G dX0_round_52 3 rfl ?_
      refine sv_iload_n (pc := 53) G dX0_round_53 1 rfl ?_
      refine sv_iload_n (pc := 54) G dX0_round_54 2 rfl ?_
      refine sv_callV (cs := 0) (sl := 0) (st := [.int v3, .ref (b + (a + 6))]) (As := [.int v3, .int v1, .int v2]) (a := a) (pc := 55) G RR (c_X0_choice hL ha h) mw_X0_choice lk_X0_101 (hL.cS ha) (by decide) rfl rfl ⟨(Nat.le_of_ble_eq_true rfl), (Nat.le_of_ble_eq_true rfl)⟩ ⟨(Nat.le_of_ble_eq_true rfl), (Nat.le_of_ble_eq_true rfl)⟩ (Nat.le_of_ble_eq_true rfl) rfl dX0_round_55 (sv_kI (fun r_15 g_14 h => ?_))
      obtain ⟨s_16, h⟩ := h
      refine sv_iastK (pc := 58) G (hL.cA6 ha) s_16 v3.toNatClampNeg rfl dX0_round_58 (fun g_17 eg_17 => ?_)
      have h := h g_17 eg_17
      obtain ⟨v3_18, ev3_18⟩ : ∃ y : Int32, y = v3 + 1 := ⟨_, rfl⟩
      have h := h v3_18 ev3_18
      refine sv_iinc (pc := 59) G dX0_round_59 3 v3_18 [(3, .int v3_18), (0, .ref (b + a)), (1, .int v1), (2, .int v2)] (by rw [ev3_18, ic_1]) rfl (by decide) rfl ?_
      refine sv_goto (pc := 62) G dX0_round_62 38 (by decide) ?_
      refine sv_locs [1, 2, 3, 0] [(0, .ref (b + a)), (1, .int v1), (2, .int v2), (3, .int v3_18)] rfl ?_
      exact ih v1 v2 v3_18 g_17  h
set_option maxRecDepth 100000 in
set_option maxHeartbeats 4000000 in
theorem c_X0_round {b : Nat} {xt : sv_Xt} {F : sv_Fr} {a : Nat} {g : sv_Mg} {Q : sv_Mg → Prop} (hL : sv_Lay F) (ha : sv_isC a) (h : wp_X0_round F a g Q) : sv_Cal yX0_round cX0_round 4 none 5 120 0 0 b xt [.ref (b + a)] F g (sv_qV F Q) := by
  refine sv_intro mw_X0_round [(0, .ref (b + a))] rfl (Nat.le_of_ble_eq_true rfl) (fun x G RR T NM => ?_)
  have G : sv_G x b xt RX0 cX0_round 4 := G
  unfold wp_X0_round at h
  refine sv_aload_n (pc := 0) G dX0_round_0 0 rfl ?_
  refine sv_dup (pc := 1) G dX0_round_1 rfl ?_
  refine sv_getI (pc := 2) G fw_X0_55 (hL.cS ha) rfl dX0_round_2 ?_
  refine sv_iconst (pc := 5) G dX0_round_5 1 ic_1 ?_
  refine sv_iadd (pc := 6) G dX0_round_6 ?_
  refine sv_putI (pc := 7) G fw_X0_55 (hL.cS ha) rfl dX0_round_7 (fun g_19 eg_19 => ?_)
  have h := h g_19 eg_19
  refine sv_aload_n (pc := 10) G dX0_round_10 0 rfl ?_
  refine sv_getI (pc := 11) G fw_X0_49 (hL.cS ha) rfl dX0_round_11 ?_
  refine sv_iconst (pc := 14) G dX0_round_14 (-1) ic_m1 ?_
  refine sv_ic_ne (pc := 15) G 25 (by decide) dX0_round_15 (fun c_20 => ?_) (fun c_20 => ?_)
  · have h := h.2 c_20
    exact sv_vreturn (pc := 25) G T ⟨(Nat.le_of_ble_eq_true rfl), (Nat.le_of_ble_eq_true rfl)⟩ dX0_round_25 ⟨rfl, rfl, h⟩
  · have h := h.1 c_20
    refine sv_aload_n (pc := 18) G dX0_round_18 0 rfl ?_
    refine sv_getI (pc := 19) G fw_X0_33 (hL.cS ha) rfl dX0_round_19 ?_
    refine sv_if_ne (pc := 22) G 26 (by decide) dX0_round_22 (fun c_21 => ?_) (fun c_21 => ?_)
    · have h := h.2 c_21
      refine sv_aload_n (pc := 26) G dX0_round_26 0 rfl ?_
      refine sv_callV (cs := 0) (sl := 0) (st := []) (As := []) (a := a) (pc := 27) G RR (c_X0_runners hL ha h) mw_X0_runners lk_X0_95 (hL.cS ha) (by decide) rfl rfl ⟨(Nat.le_of_ble_eq_true rfl), (Nat.le_of_ble_eq_true rfl)⟩ ⟨(Nat.le_of_ble_eq_true rfl), (Nat.le_of_ble_eq_true rfl)⟩ (Nat.le_of_ble_eq_true rfl) rfl dX0_round_27 (sv_kI (fun r_23 g_22 h => ?_))
      refine sv_istore_n (pc := 30) G dX0_round_30 [(1, .int r_23), (0, .ref (b + a))] (by decide) rfl ?_
      refine sv_aload_n (pc := 31) G dX0_round_31 1 rfl ?_
      refine sv_callV (cs := 0) (sl := 0) (st := []) (As := []) (a := a) (pc := 32) G RR (c_X0_leader hL ha h) mw_X0_leader lk_X0_98 (hL.cS ha) (by decide) rfl rfl ⟨(Nat.le_of_ble_eq_true rfl), (Nat.le_of_ble_eq_true rfl)⟩ ⟨(Nat.le_of_ble_eq_true rfl), (Nat.le_of_ble_eq_true rfl)⟩ (Nat.le_of_ble_eq_true rfl) rfl dX0_round_32 (sv_kI (fun r_25 g_24 h => ?_))
      refine sv_istore_n (pc := 35) G dX0_round_35 [(2, .int r_25), (1, .int r_23), (0, .ref (b + a))] (by decide) rfl ?_
      refine sv_iconst (pc := 36) G dX0_round_36 0 ic_0 ?_
      refine sv_istore_n (pc := 37) G dX0_round_37 [(3, .int 0), (2, .int r_25), (1, .int r_23), (0, .ref (b + a))] (by decide) rfl ?_
      refine sv_locs [3, 2, 1, 0] [(0, .ref (b + a)), (1, .int r_23), (2, .int r_25), (3, .int 0)] rfl ?_
      obtain ⟨n_26, h⟩ := h
      exact aw_X0_round_38 G RR T hL ha  n_26 r_23 r_25 0 g_24  h
    · have h := h.1 c_21
      exact sv_vreturn (pc := 25) G T ⟨(Nat.le_of_ble_eq_true rfl), (Nat.le_of_ble_eq_true rfl)⟩ dX0_round_25 ⟨rfl, rfl, h⟩
def wp_X0_go_2 (F : sv_Fr) (a : Nat) (Q : sv_Mg → Prop) : Nat → Int32 → Int32 → sv_Mg → Prop
  | 0, _, _, _ => False
  | n + 1, v1, v2, g => ((v1 ≤ v2 → Q g) ∧ (¬ v1 ≤ v2 → wp_X0_round F a g (fun g_2 => ∀ v2_3 : Int32, v2_3 = v2 + 1 → (wp_X0_go_2 F a Q  n) v1 v2_3 g_2)))
def wp_X0_go (F : sv_Fr) (a : Nat) (v1 : Int32) (g : sv_Mg) (Q : sv_Mg → Prop) : Prop := ∃ n_4, wp_X0_go_2 F a Q  n_4 v1 0 g
set_option maxRecDepth 100000 in
set_option maxHeartbeats 4000000 in
theorem aw_X0_go_2 {x : sv_X} {b : Nat} {xt : sv_Xt} {F : sv_Fr} {a : Nat} {Q : sv_Mg → Prop} (G : sv_G x b xt RX0 cX0_go 3) (RR : sv_R x 6 143 0 0) (T : sv_RT x none) (hL : sv_Lay F) (ha : sv_isC a) : ∀ (n : Nat) (v1 : Int32) (v2 : Int32) (g : sv_Mg), wp_X0_go_2 F a Q  n v1 v2 g → sv_AW x (sv_Q x (sv_qV F Q) 0 0) F g 0 0 2 [(0, .ref (b + a)), (1, .int v1), (2, .int v2)] [] := by
  intro n
  induction n with
  | zero => intro v1 v2 g h; exact h.elim
  | succ n ih =>
    intro v1 v2 g h
    rw [wp_X0_go_2] at h
    refine sv_iload_n (pc := 2) G dX0_go_2 2 rfl ?_
    refine sv_iload_n (pc := 3) G dX0_go_3 1 rfl ?_
    refine sv_ic_ge (pc := 4) G 17 (by decide) dX0_go_4 (fun c_1 => ?_) (fun c_1 => ?_)
    · have h := h.1 c_1
      exact sv_vreturn (pc := 17) G T ⟨(Nat.le_of_ble_eq_true rfl), (Nat.le_of_ble_eq_true rfl)⟩ dX0_go_17 ⟨rfl, rfl, h⟩
    · have h := h.2 c_1
      refine sv_aload_n (pc := 7) G dX0_go_7 0 rfl ?_
      refine sv_callV (cs := 0) (sl := 0) (st := []) (As := []) (a := a) (pc := 8) G RR (c_X0_round hL ha h) mw_X0_round lk_X0_92 (hL.cS ha) (by decide) rfl rfl ⟨(Nat.le_of_ble_eq_true rfl), (Nat.le_of_ble_eq_true rfl)⟩ ⟨(Nat.le_of_ble_eq_true rfl), (Nat.le_of_ble_eq_true rfl)⟩ (Nat.le_of_ble_eq_true rfl) rfl dX0_go_8 (sv_kV (fun g_2 h => ?_))
      obtain ⟨v2_3, ev2_3⟩ : ∃ y : Int32, y = v2 + 1 := ⟨_, rfl⟩
      have h := h v2_3 ev2_3
      refine sv_iinc (pc := 11) G dX0_go_11 2 v2_3 [(2, .int v2_3), (0, .ref (b + a)), (1, .int v1)] (by rw [ev2_3, ic_1]) rfl (by decide) rfl ?_
      refine sv_goto (pc := 14) G dX0_go_14 2 (by decide) ?_
      refine sv_locs [1, 2, 0] [(0, .ref (b + a)), (1, .int v1), (2, .int v2_3)] rfl ?_
      exact ih v1 v2_3 g_2  h
set_option maxRecDepth 100000 in
set_option maxHeartbeats 4000000 in
theorem c_X0_go {b : Nat} {xt : sv_Xt} {F : sv_Fr} {a : Nat} {v1 : Int32} {g : sv_Mg} {Q : sv_Mg → Prop} (hL : sv_Lay F) (ha : sv_isC a) (h : wp_X0_go F a v1 g Q) : sv_Cal yX0_go cX0_go 3 none 6 143 0 0 b xt [.ref (b + a), .int v1] F g (sv_qV F Q) := by
  refine sv_intro mw_X0_go [(0, .ref (b + a)), (1, .int v1)] rfl (Nat.le_of_ble_eq_true rfl) (fun x G RR T NM => ?_)
  have G : sv_G x b xt RX0 cX0_go 3 := G
  unfold wp_X0_go at h
  refine sv_iconst (pc := 0) G dX0_go_0 0 ic_0 ?_
  refine sv_istore_n (pc := 1) G dX0_go_1 [(2, .int 0), (0, .ref (b + a)), (1, .int v1)] (by decide) rfl ?_
  refine sv_locs [1, 2, 0] [(0, .ref (b + a)), (1, .int v1), (2, .int 0)] rfl ?_
  obtain ⟨n_4, h⟩ := h
  exact aw_X0_go_2 G RR T hL ha  n_4 v1 0 g  h
def wp_X0_mostVotes (F : sv_Fr) (a : Nat) (g : sv_Mg) (Q : Int32 → sv_Mg → Prop) : Prop := wp_X0_leader F a g (fun r_2 g_1 => wp_X0_isVoter F a r_2 g_1 (fun r_4 g_3 => ((r_4 = 0 → Q 0 g_3) ∧ (¬ r_4 = 0 → vp_in r_2 10 ∧ Q (g_3 (a + 7) r_2.toNatClampNeg) g_3))))
set_option maxRecDepth 100000 in
set_option maxHeartbeats 4000000 in
theorem c_X0_mostVotes {b : Nat} {xt : sv_Xt} {F : sv_Fr} {a : Nat} {g : sv_Mg} {Q : Int32 → sv_Mg → Prop} (hL : sv_Lay F) (ha : sv_isC a) (h : wp_X0_mostVotes F a g Q) : sv_Cal yX0_mostVotes cX0_mostVotes 2 (some .int) 2 44 0 0 b xt [.ref (b + a)] F g (sv_qI F Q) := by
  refine sv_intro mw_X0_mostVotes [(0, .ref (b + a))] rfl (Nat.le_of_ble_eq_true rfl) (fun x G RR T NM => ?_)
  have G : sv_G x b xt RX0 cX0_mostVotes 2 := G
  unfold wp_X0_mostVotes at h
  refine sv_aload_n (pc := 0) G dX0_mostVotes_0 0 rfl ?_
  refine sv_callV (cs := 0) (sl := 0) (st := []) (As := []) (a := a) (pc := 1) G RR (c_X0_leader hL ha h) mw_X0_leader lk_X0_98 (hL.cS ha) (by decide) rfl rfl ⟨(Nat.le_of_ble_eq_true rfl), (Nat.le_of_ble_eq_true rfl)⟩ ⟨(Nat.le_of_ble_eq_true rfl), (Nat.le_of_ble_eq_true rfl)⟩ (Nat.le_of_ble_eq_true rfl) rfl dX0_mostVotes_1 (sv_kI (fun r_2 g_1 h => ?_))
  refine sv_istore_n (pc := 4) G dX0_mostVotes_4 [(1, .int r_2), (0, .ref (b + a))] (by decide) rfl ?_
  refine sv_aload_n (pc := 5) G dX0_mostVotes_5 1 rfl ?_
  refine sv_iload_n (pc := 6) G dX0_mostVotes_6 0 rfl ?_
  refine sv_callV (cs := 0) (sl := 0) (st := []) (As := [.int r_2]) (a := a) (pc := 7) G RR (c_X0_isVoter hL ha h) mw_X0_isVoter lk_X0_117 (hL.cS ha) (by decide) rfl rfl ⟨(Nat.le_of_ble_eq_true rfl), (Nat.le_of_ble_eq_true rfl)⟩ ⟨(Nat.le_of_ble_eq_true rfl), (Nat.le_of_ble_eq_true rfl)⟩ (Nat.le_of_ble_eq_true rfl) rfl dX0_mostVotes_7 (sv_kI (fun r_4 g_3 h => ?_))
  refine sv_if_eq (pc := 10) G 22 (by decide) dX0_mostVotes_10 (fun c_5 => ?_) (fun c_5 => ?_)
  · have h := h.1 c_5
    refine sv_iconst (pc := 22) G dX0_mostVotes_22 0 ic_0 ?_
    exact sv_ireturn (pc := 23) G T ⟨(Nat.le_of_ble_eq_true rfl), (Nat.le_of_ble_eq_true rfl)⟩ dX0_mostVotes_23 ⟨_, rfl, rfl, h⟩
  · have h := h.2 c_5
    refine sv_aload_n (pc := 13) G dX0_mostVotes_13 1 rfl ?_
    refine sv_getR (pc := 14) G fw_X0_30 (hL.cS ha) rfl (hL.cR7 ha) dX0_mostVotes_14 ?_
    refine sv_iload_n (pc := 17) G dX0_mostVotes_17 0 rfl ?_
    obtain ⟨s_6, h⟩ := h
    refine sv_ialdK (pc := 18) G (hL.cA7 ha) s_6 r_2.toNatClampNeg rfl dX0_mostVotes_18 ?_
    refine sv_goto (pc := 19) G dX0_mostVotes_19 23 (by decide) ?_
    exact sv_ireturn (pc := 23) G T ⟨(Nat.le_of_ble_eq_true rfl), (Nat.le_of_ble_eq_true rfl)⟩ dX0_mostVotes_23 ⟨_, rfl, rfl, h⟩
def wp_X3_addFour_3 (F : sv_Fr) (Q : sv_Mg → Prop) : Nat → Int32 → Int32 → sv_Mg → Prop
  | 0, _, _, _ => False
  | n + 1, v1, v2, g => ((v2 < 0 → Q g) ∧ (¬ v2 < 0 → ((96 ≤ (g 4 1) → Q g) ∧ (¬ 96 ≤ (g 4 1) → vp_in (g 4 1) 96 ∧ ∀ g_4, g_4 = sv_st g 5 (g 4 1).toNatClampNeg (((v1 : Int32).toUInt32 >>> ((v2 : Int32).toUInt32 &&& Int32.toUInt32 31)).toInt32 &&& 255) → ∀ g_5, g_5 = sv_st g_4 4 1 ((g_4 4 1) + 1) → ∀ v2_6 : Int32, v2_6 = v2 + (-8) → (wp_X3_addFour_3 F Q  n) v1 v2_6 g_5))))
def wp_X3_addFour (F : sv_Fr) (v1 : Int32) (g : sv_Mg) (Q : sv_Mg → Prop) : Prop := ∃ n_7, wp_X3_addFour_3 F  Q  n_7 v1 24 g
set_option maxRecDepth 100000 in
set_option maxHeartbeats 4000000 in
theorem aw_X3_addFour_3 {x : sv_X} {b : Nat} {xt : sv_Xt} {F : sv_Fr} {Q : sv_Mg → Prop} (G : sv_G x b xt RX3 cX3_addFour 3) (RR : sv_R x 0 0 0 0) (T : sv_RT x none) (hL : sv_Lay F) : ∀ (n : Nat) (v1 : Int32) (v2 : Int32) (g : sv_Mg), wp_X3_addFour_3 F Q  n v1 v2 g → sv_AW x (sv_Q x (sv_qV F Q) 0 0) F g 0 0 3 [(0, .ref (b + 4)), (1, .int v1), (2, .int v2)] [] := by
  intro n
  induction n with
  | zero => intro v1 v2 g h; exact h.elim
  | succ n ih =>
    intro v1 v2 g h
    rw [wp_X3_addFour_3] at h
    refine sv_iload_n (pc := 3) G dX3_addFour_3 2 rfl ?_
    refine sv_if_lt (pc := 4) G 48 (by decide) dX3_addFour_4 (fun c_1 => ?_) (fun c_1 => ?_)
    · have h := h.1 c_1
      exact sv_vreturn (pc := 48) G T ⟨(Nat.le_of_ble_eq_true rfl), (Nat.le_of_ble_eq_true rfl)⟩ dX3_addFour_48 ⟨rfl, rfl, h⟩
    · have h := h.2 c_1
      refine sv_aload_n (pc := 7) G dX3_addFour_7 0 rfl ?_
      refine sv_getI (pc := 8) G fw_X3_15 (hL.sh rfl) rfl dX3_addFour_8 ?_
      refine sv_bipush (pc := 11) G dX3_addFour_11 96 bp_96 ?_
      refine sv_ic_ge (pc := 13) G 48 (by decide) dX3_addFour_13 (fun c_2 => ?_) (fun c_2 => ?_)
      · have h := h.1 c_2
        exact sv_vreturn (pc := 48) G T ⟨(Nat.le_of_ble_eq_true rfl), (Nat.le_of_ble_eq_true rfl)⟩ dX3_addFour_48 ⟨rfl, rfl, h⟩
      · have h := h.2 c_2
        refine sv_aload_n (pc := 16) G dX3_addFour_16 0 rfl ?_
        refine sv_getR (pc := 17) G fw_X3_9 (hL.sh rfl) rfl (hL.rf 11 rfl) dX3_addFour_17 ?_
        refine sv_aload_n (pc := 20) G dX3_addFour_20 0 rfl ?_
        refine sv_getI (pc := 21) G fw_X3_15 (hL.sh rfl) rfl dX3_addFour_21 ?_
        refine sv_iload_n (pc := 24) G dX3_addFour_24 1 rfl ?_
        refine sv_iload_n (pc := 25) G dX3_addFour_25 2 rfl ?_
        refine sv_iushr (pc := 26) G dX3_addFour_26 ?_
        refine sv_sipush (pc := 27) G dX3_addFour_27 255 sp_255 ?_
        refine sv_iand (pc := 30) G dX3_addFour_30 ?_
        obtain ⟨s_3, h⟩ := h
        refine sv_iastK (pc := 31) G (hL.sh rfl) s_3 (g 4 1).toNatClampNeg rfl dX3_addFour_31 (fun g_4 eg_4 => ?_)
        have h := h g_4 eg_4
        refine sv_aload_n (pc := 32) G dX3_addFour_32 0 rfl ?_
        refine sv_dup (pc := 33) G dX3_addFour_33 rfl ?_
        refine sv_getI (pc := 34) G fw_X3_15 (hL.sh rfl) rfl dX3_addFour_34 ?_
        refine sv_iconst (pc := 37) G dX3_addFour_37 1 ic_1 ?_
        refine sv_iadd (pc := 38) G dX3_addFour_38 ?_
        refine sv_putI (pc := 39) G fw_X3_15 (hL.sh rfl) rfl dX3_addFour_39 (fun g_5 eg_5 => ?_)
        have h := h g_5 eg_5
        obtain ⟨v2_6, ev2_6⟩ : ∃ y : Int32, y = v2 + (-8) := ⟨_, rfl⟩
        have h := h v2_6 ev2_6
        refine sv_iinc (pc := 42) G dX3_addFour_42 2 v2_6 [(2, .int v2_6), (0, .ref (b + 4)), (1, .int v1)] (by rw [ev2_6, ic_m8]) rfl (by decide) rfl ?_
        refine sv_goto (pc := 45) G dX3_addFour_45 3 (by decide) ?_
        refine sv_locs [1, 2, 0] [(0, .ref (b + 4)), (1, .int v1), (2, .int v2_6)] rfl ?_
        exact ih v1 v2_6 g_5  h
set_option maxRecDepth 100000 in
set_option maxHeartbeats 4000000 in
theorem c_X3_addFour {b : Nat} {xt : sv_Xt} {F : sv_Fr} {v1 : Int32} {g : sv_Mg} {Q : sv_Mg → Prop} (hL : sv_Lay F) (h : wp_X3_addFour F v1 g Q) : sv_Cal yX3_addFour cX3_addFour 3 none 0 0 0 0 b xt [.ref (b + 4), .int v1] F g (sv_qV F Q) := by
  refine sv_intro mw_X3_addFour [(0, .ref (b + 4)), (1, .int v1)] rfl (Nat.le_of_ble_eq_true rfl) (fun x G RR T NM => ?_)
  have G : sv_G x b xt RX3 cX3_addFour 3 := G
  unfold wp_X3_addFour at h
  refine sv_bipush (pc := 0) G dX3_addFour_0 24 bp_24 ?_
  refine sv_istore_n (pc := 2) G dX3_addFour_2 [(2, .int 24), (0, .ref (b + 4)), (1, .int v1)] (by decide) rfl ?_
  refine sv_locs [1, 2, 0] [(0, .ref (b + 4)), (1, .int v1), (2, .int 24)] rfl ?_
  obtain ⟨n_7, h⟩ := h
  exact aw_X3_addFour_3 G RR T hL   n_7 v1 24 g  h
def wp_X3_sortOf_14 (F : sv_Fr) (Q : Int32 → sv_Mg → Prop) (v0 : Int32) (g : sv_Mg) : Prop := ((v0 < 48 → Q 3 g) ∧ (¬ v0 < 48 → ((57 < v0 → Q 3 g) ∧ (¬ 57 < v0 → Q 2 g))))
def wp_X3_sortOf (F : sv_Fr) (v0 : Int32) (g : sv_Mg) (Q : Int32 → sv_Mg → Prop) : Prop := ((v0 < 97 → wp_X3_sortOf_14 F  Q  v0 g) ∧ (¬ v0 < 97 → ((122 < v0 → wp_X3_sortOf_14 F  Q  v0 g) ∧ (¬ 122 < v0 → Q 1 g))))
set_option maxRecDepth 100000 in
set_option maxHeartbeats 4000000 in
theorem aw_X3_sortOf_14 {x : sv_X} {b : Nat} {xt : sv_Xt} {F : sv_Fr} {Q : Int32 → sv_Mg → Prop} (G : sv_G x b xt RX3 cX3_sortOf 1) (RR : sv_R x 0 0 0 0) (T : sv_RT x (some .int)) (hL : sv_Lay F) : ∀ (v0 : Int32) (g : sv_Mg), wp_X3_sortOf_14 F Q  v0 g → sv_AW x (sv_Q x (sv_qI F Q) 0 0) F g 0 0 14 [(0, .int v0)] [] := by
  intro v0 g h
  unfold wp_X3_sortOf_14 at h
  refine sv_iload_n (pc := 14) G dX3_sortOf_14 0 rfl ?_
  refine sv_bipush (pc := 15) G dX3_sortOf_15 48 bp_48 ?_
  refine sv_ic_lt (pc := 17) G 30 (by decide) dX3_sortOf_17 (fun c_1 => ?_) (fun c_1 => ?_)
  · have h := h.1 c_1
    refine sv_iconst (pc := 30) G dX3_sortOf_30 3 ic_3 ?_
    exact sv_ireturn (pc := 31) G T ⟨(Nat.le_of_ble_eq_true rfl), (Nat.le_of_ble_eq_true rfl)⟩ dX3_sortOf_31 ⟨_, rfl, rfl, h⟩
  · have h := h.2 c_1
    refine sv_iload_n (pc := 20) G dX3_sortOf_20 0 rfl ?_
    refine sv_bipush (pc := 21) G dX3_sortOf_21 57 bp_57 ?_
    refine sv_ic_gt (pc := 23) G 30 (by decide) dX3_sortOf_23 (fun c_2 => ?_) (fun c_2 => ?_)
    · have h := h.1 c_2
      refine sv_iconst (pc := 30) G dX3_sortOf_30 3 ic_3 ?_
      exact sv_ireturn (pc := 31) G T ⟨(Nat.le_of_ble_eq_true rfl), (Nat.le_of_ble_eq_true rfl)⟩ dX3_sortOf_31 ⟨_, rfl, rfl, h⟩
    · have h := h.2 c_2
      refine sv_iconst (pc := 26) G dX3_sortOf_26 2 ic_2 ?_
      refine sv_goto (pc := 27) G dX3_sortOf_27 31 (by decide) ?_
      exact sv_ireturn (pc := 31) G T ⟨(Nat.le_of_ble_eq_true rfl), (Nat.le_of_ble_eq_true rfl)⟩ dX3_sortOf_31 ⟨_, rfl, rfl, h⟩
set_option maxRecDepth 100000 in
set_option maxHeartbeats 4000000 in
theorem c_X3_sortOf {b : Nat} {xt : sv_Xt} {F : sv_Fr} {v0 : Int32} {g : sv_Mg} {Q : Int32 → sv_Mg → Prop} (hL : sv_Lay F) (h : wp_X3_sortOf F v0 g Q) : sv_Cal yX3_sortOf cX3_sortOf 1 (some .int) 0 0 0 0 b xt [.int v0] F g (sv_qI F Q) := by
  refine sv_intro mw_X3_sortOf [(0, .int v0)] rfl (Nat.le_of_ble_eq_true rfl) (fun x G RR T NM => ?_)
  have G : sv_G x b xt RX3 cX3_sortOf 1 := G
  unfold wp_X3_sortOf at h
  refine sv_iload_n (pc := 0) G dX3_sortOf_0 0 rfl ?_
  refine sv_bipush (pc := 1) G dX3_sortOf_1 97 bp_97 ?_
  refine sv_ic_lt (pc := 3) G 14 (by decide) dX3_sortOf_3 (fun c_3 => ?_) (fun c_3 => ?_)
  · have h := h.1 c_3
    refine sv_locs [0] [(0, .int v0)] rfl ?_
    exact aw_X3_sortOf_14 G RR T hL   v0 g  h
  · have h := h.2 c_3
    refine sv_iload_n (pc := 6) G dX3_sortOf_6 0 rfl ?_
    refine sv_bipush (pc := 7) G dX3_sortOf_7 122 bp_122 ?_
    refine sv_ic_gt (pc := 9) G 14 (by decide) dX3_sortOf_9 (fun c_4 => ?_) (fun c_4 => ?_)
    · have h := h.1 c_4
      refine sv_locs [0] [(0, .int v0)] rfl ?_
      exact aw_X3_sortOf_14 G RR T hL   v0 g  h
    · have h := h.2 c_4
      refine sv_iconst (pc := 12) G dX3_sortOf_12 1 ic_1 ?_
      exact sv_ireturn (pc := 13) G T ⟨(Nat.le_of_ble_eq_true rfl), (Nat.le_of_ble_eq_true rfl)⟩ dX3_sortOf_13 ⟨_, rfl, rfl, h⟩
def wp_X3_endOfWord_5 (F : sv_Fr) (Q : Int32 → sv_Mg → Prop) : Nat → Int32 → sv_Mg → Prop
  | 0, _, _ => False
  | n + 1, v1, g => (((g 4 1) ≤ v1 → Q v1 g) ∧ (¬ (g 4 1) ≤ v1 → vp_in v1 96 ∧ wp_X3_sortOf F (g 5 v1.toNatClampNeg) g (fun r_4 g_3 => ((r_4 = (g_3 4 2) → ∀ v1_6 : Int32, v1_6 = v1 + 1 → (wp_X3_endOfWord_5 F Q  n) v1_6 g_3) ∧ (¬ r_4 = (g_3 4 2) → Q v1 g_3)))))
def wp_X3_endOfWord (F : sv_Fr) (g : sv_Mg) (Q : Int32 → sv_Mg → Prop) : Prop := ∀ v1_7 : Int32, v1_7 = (g 4 3) → ∃ n_8, wp_X3_endOfWord_5 F  Q  n_8 v1_7 g
set_option maxRecDepth 100000 in
set_option maxHeartbeats 4000000 in
theorem aw_X3_endOfWord_5 {x : sv_X} {b : Nat} {xt : sv_Xt} {F : sv_Fr} {Q : Int32 → sv_Mg → Prop} (G : sv_G x b xt RX3 cX3_endOfWord 2) (RR : sv_R x 1 20 0 0) (T : sv_RT x (some .int)) (hL : sv_Lay F) : ∀ (n : Nat) (v1 : Int32) (g : sv_Mg), wp_X3_endOfWord_5 F Q  n v1 g → sv_AW x (sv_Q x (sv_qI F Q) 0 0) F g 0 0 5 [(0, .ref (b + 4)), (1, .int v1)] [] := by
  intro n
  induction n with
  | zero => intro v1 g h; exact h.elim
  | succ n ih =>
    intro v1 g h
    rw [wp_X3_endOfWord_5] at h
    refine sv_iload_n (pc := 5) G dX3_endOfWord_5 1 rfl ?_
    refine sv_aload_n (pc := 6) G dX3_endOfWord_6 0 rfl ?_
    refine sv_getI (pc := 7) G fw_X3_15 (hL.sh rfl) rfl dX3_endOfWord_7 ?_
    refine sv_ic_ge (pc := 10) G 35 (by decide) dX3_endOfWord_10 (fun c_1 => ?_) (fun c_1 => ?_)
    · have h := h.1 c_1
      refine sv_iload_n (pc := 35) G dX3_endOfWord_35 1 rfl ?_
      exact sv_ireturn (pc := 36) G T ⟨(Nat.le_of_ble_eq_true rfl), (Nat.le_of_ble_eq_true rfl)⟩ dX3_endOfWord_36 ⟨_, rfl, rfl, h⟩
    · have h := h.2 c_1
      refine sv_aload_n (pc := 13) G dX3_endOfWord_13 0 rfl ?_
      refine sv_getR (pc := 14) G fw_X3_9 (hL.sh rfl) rfl (hL.rf 11 rfl) dX3_endOfWord_14 ?_
      refine sv_iload_n (pc := 17) G dX3_endOfWord_17 1 rfl ?_
      obtain ⟨s_2, h⟩ := h
      refine sv_ialdK (pc := 18) G (hL.sh rfl) s_2 v1.toNatClampNeg rfl dX3_endOfWord_18 ?_
      refine sv_callS (cs := 0) (sl := 0) (st := []) (As := [.int (g 5 v1.toNatClampNeg)]) (pc := 19) G RR (c_X3_sortOf hL  h) mw_X3_sortOf lk_X3_65 rfl ⟨(Nat.le_of_ble_eq_true rfl), (Nat.le_of_ble_eq_true rfl)⟩ ⟨(Nat.le_of_ble_eq_true rfl), (Nat.le_of_ble_eq_true rfl)⟩ (Nat.le_of_ble_eq_true rfl) rfl dX3_endOfWord_19 (sv_kI (fun r_4 g_3 h => ?_))
      refine sv_aload_n (pc := 22) G dX3_endOfWord_22 0 rfl ?_
      refine sv_getI (pc := 23) G fw_X3_19 (hL.sh rfl) rfl dX3_endOfWord_23 ?_
      refine sv_ic_ne (pc := 26) G 35 (by decide) dX3_endOfWord_26 (fun c_5 => ?_) (fun c_5 => ?_)
      · have h := h.2 c_5
        refine sv_iload_n (pc := 35) G dX3_endOfWord_35 1 rfl ?_
        exact sv_ireturn (pc := 36) G T ⟨(Nat.le_of_ble_eq_true rfl), (Nat.le_of_ble_eq_true rfl)⟩ dX3_endOfWord_36 ⟨_, rfl, rfl, h⟩
      · have h := h.1 c_5
        obtain ⟨v1_6, ev1_6⟩ : ∃ y : Int32, y = v1 + 1 := ⟨_, rfl⟩
        have h := h v1_6 ev1_6
        refine sv_iinc (pc := 29) G dX3_endOfWord_29 1 v1_6 [(1, .int v1_6), (0, .ref (b + 4))] (by rw [ev1_6, ic_1]) rfl (by decide) rfl ?_
        refine sv_goto (pc := 32) G dX3_endOfWord_32 5 (by decide) ?_
        refine sv_locs [1, 0] [(0, .ref (b + 4)), (1, .int v1_6)] rfl ?_
        exact ih v1_6 g_3  h
set_option maxRecDepth 100000 in
set_option maxHeartbeats 4000000 in
theorem c_X3_endOfWord {b : Nat} {xt : sv_Xt} {F : sv_Fr} {g : sv_Mg} {Q : Int32 → sv_Mg → Prop} (hL : sv_Lay F) (h : wp_X3_endOfWord F g Q) : sv_Cal yX3_endOfWord cX3_endOfWord 2 (some .int) 1 20 0 0 b xt [.ref (b + 4)] F g (sv_qI F Q) := by
  refine sv_intro mw_X3_endOfWord [(0, .ref (b + 4))] rfl (Nat.le_of_ble_eq_true rfl) (fun x G RR T NM => ?_)
  have G : sv_G x b xt RX3 cX3_endOfWord 2 := G
  unfold wp_X3_endOfWord at h
  refine sv_aload_n (pc := 0) G dX3_endOfWord_0 0 rfl ?_
  refine sv_getI (pc := 1) G fw_X3_22 (hL.sh rfl) rfl dX3_endOfWord_1 ?_
  refine sv_topi (fun v1_7 ev1_7 => ?_)
  have h := h v1_7 ev1_7
  refine sv_istore_n (pc := 4) G dX3_endOfWord_4 [(1, .int v1_7), (0, .ref (b + 4))] (by decide) rfl ?_
  refine sv_locs [1, 0] [(0, .ref (b + 4)), (1, .int v1_7)] rfl ?_
  obtain ⟨n_8, h⟩ := h
  exact aw_X3_endOfWord_5 G RR T hL   n_8 v1_7 g  h
def wp_X3_readValue_29 (F : sv_Fr) (Q : sv_Mg → Prop) : Nat → Int32 → sv_Mg → Prop
  | 0, _, _ => False
  | n + 1, v1, g => (((g 4 4) ≤ v1 → Q g) ∧ (¬ (g 4 4) ≤ v1 → vp_in v1 96 ∧ ∀ g_3, g_3 = sv_st g 4 5 ((((g 4 5) * 10) + (g 5 v1.toNatClampNeg)) - 48) → ∀ v1_4 : Int32, v1_4 = v1 + 1 → (wp_X3_readValue_29 F Q  n) v1_4 g_3))
def wp_X3_readValue (F : sv_Fr) (g : sv_Mg) (Q : sv_Mg → Prop) : Prop := ((((g 4 4) - (g 4 3)) ≤ 4 → ∀ g_6, g_6 = sv_st g 4 5 0 → ∀ v1_7 : Int32, v1_7 = (g_6 4 3) → ∃ n_8, wp_X3_readValue_29 F  Q  n_8 v1_7 g_6) ∧ (¬ ((g 4 4) - (g 4 3)) ≤ 4 → ∀ g_9, g_9 = sv_st g 4 2 4 → Q g_9))
set_option maxRecDepth 100000 in
set_option maxHeartbeats 4000000 in
theorem aw_X3_readValue_29 {x : sv_X} {b : Nat} {xt : sv_Xt} {F : sv_Fr} {Q : sv_Mg → Prop} (G : sv_G x b xt RX3 cX3_readValue 2) (RR : sv_R x 0 0 0 0) (T : sv_RT x none) (hL : sv_Lay F) : ∀ (n : Nat) (v1 : Int32) (g : sv_Mg), wp_X3_readValue_29 F Q  n v1 g → sv_AW x (sv_Q x (sv_qV F Q) 0 0) F g 0 0 29 [(0, .ref (b + 4)), (1, .int v1)] [] := by
  intro n
  induction n with
  | zero => intro v1 g h; exact h.elim
  | succ n ih =>
    intro v1 g h
    rw [wp_X3_readValue_29] at h
    refine sv_iload_n (pc := 29) G dX3_readValue_29 1 rfl ?_
    refine sv_aload_n (pc := 30) G dX3_readValue_30 0 rfl ?_
    refine sv_getI (pc := 31) G fw_X3_25 (hL.sh rfl) rfl dX3_readValue_31 ?_
    refine sv_ic_ge (pc := 34) G 64 (by decide) dX3_readValue_34 (fun c_1 => ?_) (fun c_1 => ?_)
    · have h := h.1 c_1
      exact sv_vreturn (pc := 64) G T ⟨(Nat.le_of_ble_eq_true rfl), (Nat.le_of_ble_eq_true rfl)⟩ dX3_readValue_64 ⟨rfl, rfl, h⟩
    · have h := h.2 c_1
      refine sv_aload_n (pc := 37) G dX3_readValue_37 0 rfl ?_
      refine sv_aload_n (pc := 38) G dX3_readValue_38 0 rfl ?_
      refine sv_getI (pc := 39) G fw_X3_28 (hL.sh rfl) rfl dX3_readValue_39 ?_
      refine sv_bipush (pc := 42) G dX3_readValue_42 10 bp_10 ?_
      refine sv_imul (pc := 44) G dX3_readValue_44 ?_
      refine sv_aload_n (pc := 45) G dX3_readValue_45 0 rfl ?_
      refine sv_getR (pc := 46) G fw_X3_9 (hL.sh rfl) rfl (hL.rf 11 rfl) dX3_readValue_46 ?_
      refine sv_iload_n (pc := 49) G dX3_readValue_49 1 rfl ?_
      obtain ⟨s_2, h⟩ := h
      refine sv_ialdK (pc := 50) G (hL.sh rfl) s_2 v1.toNatClampNeg rfl dX3_readValue_50 ?_
      refine sv_iadd (pc := 51) G dX3_readValue_51 ?_
      refine sv_bipush (pc := 52) G dX3_readValue_52 48 bp_48 ?_
      refine sv_isub (pc := 54) G dX3_readValue_54 ?_
      refine sv_putI (pc := 55) G fw_X3_28 (hL.sh rfl) rfl dX3_readValue_55 (fun g_3 eg_3 => ?_)
      have h := h g_3 eg_3
      obtain ⟨v1_4, ev1_4⟩ : ∃ y : Int32, y = v1 + 1 := ⟨_, rfl⟩
      have h := h v1_4 ev1_4
      refine sv_iinc (pc := 58) G dX3_readValue_58 1 v1_4 [(1, .int v1_4), (0, .ref (b + 4))] (by rw [ev1_4, ic_1]) rfl (by decide) rfl ?_
      refine sv_goto (pc := 61) G dX3_readValue_61 29 (by decide) ?_
      refine sv_locs [1, 0] [(0, .ref (b + 4)), (1, .int v1_4)] rfl ?_
      exact ih v1_4 g_3  h
set_option maxRecDepth 100000 in
set_option maxHeartbeats 4000000 in
theorem c_X3_readValue {b : Nat} {xt : sv_Xt} {F : sv_Fr} {g : sv_Mg} {Q : sv_Mg → Prop} (hL : sv_Lay F) (h : wp_X3_readValue F g Q) : sv_Cal yX3_readValue cX3_readValue 2 none 0 0 0 0 b xt [.ref (b + 4)] F g (sv_qV F Q) := by
  refine sv_intro mw_X3_readValue [(0, .ref (b + 4))] rfl (Nat.le_of_ble_eq_true rfl) (fun x G RR T NM => ?_)
  have G : sv_G x b xt RX3 cX3_readValue 2 := G
  unfold wp_X3_readValue at h
  refine sv_aload_n (pc := 0) G dX3_readValue_0 0 rfl ?_
  refine sv_getI (pc := 1) G fw_X3_25 (hL.sh rfl) rfl dX3_readValue_1 ?_
  refine sv_aload_n (pc := 4) G dX3_readValue_4 0 rfl ?_
  refine sv_getI (pc := 5) G fw_X3_22 (hL.sh rfl) rfl dX3_readValue_5 ?_
  refine sv_isub (pc := 8) G dX3_readValue_8 ?_
  refine sv_iconst (pc := 9) G dX3_readValue_9 4 ic_4 ?_
  refine sv_ic_le (pc := 10) G 19 (by decide) dX3_readValue_10 (fun c_5 => ?_) (fun c_5 => ?_)
  · have h := h.1 c_5
    refine sv_aload_n (pc := 19) G dX3_readValue_19 0 rfl ?_
    refine sv_iconst (pc := 20) G dX3_readValue_20 0 ic_0 ?_
    refine sv_putI (pc := 21) G fw_X3_28 (hL.sh rfl) rfl dX3_readValue_21 (fun g_6 eg_6 => ?_)
    have h := h g_6 eg_6
    refine sv_aload_n (pc := 24) G dX3_readValue_24 0 rfl ?_
    refine sv_getI (pc := 25) G fw_X3_22 (hL.sh rfl) rfl dX3_readValue_25 ?_
    refine sv_topi (fun v1_7 ev1_7 => ?_)
    have h := h v1_7 ev1_7
    refine sv_istore_n (pc := 28) G dX3_readValue_28 [(1, .int v1_7), (0, .ref (b + 4))] (by decide) rfl ?_
    refine sv_locs [1, 0] [(0, .ref (b + 4)), (1, .int v1_7)] rfl ?_
    obtain ⟨n_8, h⟩ := h
    exact aw_X3_readValue_29 G RR T hL   n_8 v1_7 g_6  h
  · have h := h.2 c_5
    refine sv_aload_n (pc := 13) G dX3_readValue_13 0 rfl ?_
    refine sv_iconst (pc := 14) G dX3_readValue_14 4 ic_4 ?_
    refine sv_putI (pc := 15) G fw_X3_19 (hL.sh rfl) rfl dX3_readValue_15 (fun g_9 eg_9 => ?_)
    have h := h g_9 eg_9
    exact sv_vreturn (pc := 18) G T ⟨(Nat.le_of_ble_eq_true rfl), (Nat.le_of_ble_eq_true rfl)⟩ dX3_readValue_18 ⟨rfl, rfl, h⟩
def wp_X3_next_159 (F : sv_Fr) (Q : sv_Mg → Prop) (v1 : Int32) (v2 : Int32) (g : sv_Mg) : Prop := (((g 4 2) = 3 → Q g) ∧ (¬ (g 4 2) = 3 → ((v1 = 0 → Q g) ∧ (¬ v1 = 0 → (((g 4 3) = v2 → ∀ g_4, g_4 = sv_st g 4 2 4 → Q g_4) ∧ (¬ (g 4 3) = v2 → Q g))))))
def wp_X3_next_144 (F : sv_Fr) (Q : sv_Mg → Prop) (v1 : Int32) (v2 : Int32) (s0 : Int32) (g : sv_Mg) : Prop := ∀ g_5, g_5 = sv_st g 4 4 s0 → (((g_5 4 2) = 2 → wp_X3_readValue F  g_5 (fun g_7 => wp_X3_next_159 F  Q  v1 v2 g_7)) ∧ (¬ (g_5 4 2) = 2 → wp_X3_next_159 F  Q  v1 v2 g_5))
def wp_X3_next_73 (F : sv_Fr) (Q : sv_Mg → Prop) (v1 : Int32) (v2 : Int32) (g : sv_Mg) : Prop := ∀ g_8, g_8 = sv_st g 4 4 (g 4 3) → (((g_8 4 3) < (g_8 4 1) → vp_in (g_8 4 3) 96 ∧ ∀ g_11, g_11 = sv_st g_8 4 5 (g_8 5 (g_8 4 3).toNatClampNeg) → wp_X3_sortOf F (g_11 4 5) g_11 (fun r_13 g_12 => ∀ g_14, g_14 = sv_st g_12 4 2 r_13 → (((g_14 4 2) = 3 → wp_X3_next_144 F  Q  v1 v2 ((g_14 4 3) + 1) g_14) ∧ (¬ (g_14 4 2) = 3 → wp_X3_endOfWord F  g_14 (fun r_17 g_16 => wp_X3_next_144 F  Q  v1 v2 r_17 g_16))))) ∧ (¬ (g_8 4 3) < (g_8 4 1) → ∀ g_18, g_18 = sv_st g_8 4 2 0 → Q g_18))
def wp_X3_next_35 (F : sv_Fr) (Q : sv_Mg → Prop) : Nat → Int32 → Int32 → sv_Mg → Prop
  | 0, _, _, _ => False
  | n + 1, v1, v2, g => (((g 4 1) ≤ (g 4 3) → wp_X3_next_73 F  Q  v1 v2 g) ∧ (¬ (g 4 1) ≤ (g 4 3) → vp_in (g 4 3) 96 ∧ (((g 5 (g 4 3).toNatClampNeg) = 32 → ∀ g_22, g_22 = sv_st g 4 3 ((g 4 3) + 1) → (wp_X3_next_35 F Q  n) v1 v2 g_22) ∧ (¬ (g 5 (g 4 3).toNatClampNeg) = 32 → wp_X3_next_73 F  Q  v1 v2 g))))
def wp_X3_next_21 (F : sv_Fr) (Q : sv_Mg → Prop) (s0 : Int32) (g : sv_Mg) : Prop := ∀ v2_23 : Int32, v2_23 = (g 4 4) → ∀ g_24, g_24 = sv_st g 4 3 (g 4 4) → ∃ n_25, wp_X3_next_35 F  Q  n_25 s0 v2_23 g_24
def wp_X3_next_16 (F : sv_Fr) (Q : sv_Mg → Prop) (g : sv_Mg) : Prop := wp_X3_next_21 F  Q  1 g
def wp_X3_next (F : sv_Fr) (g : sv_Mg) (Q : sv_Mg → Prop) : Prop := (((g 4 2) = 1 → wp_X3_next_16 F  Q   g) ∧ (¬ (g 4 2) = 1 → (((g 4 2) = 2 → wp_X3_next_16 F  Q   g) ∧ (¬ (g 4 2) = 2 → wp_X3_next_21 F  Q  0 g))))
set_option maxRecDepth 100000 in
set_option maxHeartbeats 4000000 in
theorem aw_X3_next_159 {x : sv_X} {b : Nat} {xt : sv_Xt} {F : sv_Fr} {Q : sv_Mg → Prop} (G : sv_G x b xt RX3 cX3_next 3) (RR : sv_R x 2 41 0 0) (T : sv_RT x none) (hL : sv_Lay F) : ∀ (v1 : Int32) (v2 : Int32) (g : sv_Mg), wp_X3_next_159 F Q  v1 v2 g → sv_AW x (sv_Q x (sv_qV F Q) 0 0) F g 0 0 159 [(0, .ref (b + 4)), (1, .int v1), (2, .int v2)] [] := by
  intro v1 v2 g h
  unfold wp_X3_next_159 at h
  refine sv_aload_n (pc := 159) G dX3_next_159 0 rfl ?_
  refine sv_getI (pc := 160) G fw_X3_19 (hL.sh rfl) rfl dX3_next_160 ?_
  refine sv_iconst (pc := 163) G dX3_next_163 3 ic_3 ?_
  refine sv_ic_eq (pc := 164) G 184 (by decide) dX3_next_164 (fun c_1 => ?_) (fun c_1 => ?_)
  · have h := h.1 c_1
    exact sv_vreturn (pc := 184) G T ⟨(Nat.le_of_ble_eq_true rfl), (Nat.le_of_ble_eq_true rfl)⟩ dX3_next_184 ⟨rfl, rfl, h⟩
  · have h := h.2 c_1
    refine sv_iload_n (pc := 167) G dX3_next_167 1 rfl ?_
    refine sv_if_eq (pc := 168) G 184 (by decide) dX3_next_168 (fun c_2 => ?_) (fun c_2 => ?_)
    · have h := h.1 c_2
      exact sv_vreturn (pc := 184) G T ⟨(Nat.le_of_ble_eq_true rfl), (Nat.le_of_ble_eq_true rfl)⟩ dX3_next_184 ⟨rfl, rfl, h⟩
    · have h := h.2 c_2
      refine sv_aload_n (pc := 171) G dX3_next_171 0 rfl ?_
      refine sv_getI (pc := 172) G fw_X3_22 (hL.sh rfl) rfl dX3_next_172 ?_
      refine sv_iload_n (pc := 175) G dX3_next_175 2 rfl ?_
      refine sv_ic_ne (pc := 176) G 184 (by decide) dX3_next_176 (fun c_3 => ?_) (fun c_3 => ?_)
      · have h := h.2 c_3
        exact sv_vreturn (pc := 184) G T ⟨(Nat.le_of_ble_eq_true rfl), (Nat.le_of_ble_eq_true rfl)⟩ dX3_next_184 ⟨rfl, rfl, h⟩
      · have h := h.1 c_3
        refine sv_aload_n (pc := 179) G dX3_next_179 0 rfl ?_
        refine sv_iconst (pc := 180) G dX3_next_180 4 ic_4 ?_
        refine sv_putI (pc := 181) G fw_X3_19 (hL.sh rfl) rfl dX3_next_181 (fun g_4 eg_4 => ?_)
        have h := h g_4 eg_4
        exact sv_vreturn (pc := 184) G T ⟨(Nat.le_of_ble_eq_true rfl), (Nat.le_of_ble_eq_true rfl)⟩ dX3_next_184 ⟨rfl, rfl, h⟩
set_option maxRecDepth 100000 in
set_option maxHeartbeats 4000000 in
theorem aw_X3_next_144 {x : sv_X} {b : Nat} {xt : sv_Xt} {F : sv_Fr} {Q : sv_Mg → Prop} (G : sv_G x b xt RX3 cX3_next 3) (RR : sv_R x 2 41 0 0) (T : sv_RT x none) (hL : sv_Lay F) : ∀ (v1 : Int32) (v2 : Int32) (s0 : Int32) (g : sv_Mg), wp_X3_next_144 F Q  v1 v2 s0 g → sv_AW x (sv_Q x (sv_qV F Q) 0 0) F g 0 0 144 [(0, .ref (b + 4)), (1, .int v1), (2, .int v2)] [.int s0, .ref (b + 4)] := by
  intro v1 v2 s0 g h
  unfold wp_X3_next_144 at h
  refine sv_putI (pc := 144) G fw_X3_25 (hL.sh rfl) rfl dX3_next_144 (fun g_5 eg_5 => ?_)
  have h := h g_5 eg_5
  refine sv_aload_n (pc := 147) G dX3_next_147 0 rfl ?_
  refine sv_getI (pc := 148) G fw_X3_19 (hL.sh rfl) rfl dX3_next_148 ?_
  refine sv_iconst (pc := 151) G dX3_next_151 2 ic_2 ?_
  refine sv_ic_ne (pc := 152) G 159 (by decide) dX3_next_152 (fun c_6 => ?_) (fun c_6 => ?_)
  · have h := h.2 c_6
    refine sv_locs [0, 1, 2] [(0, .ref (b + 4)), (1, .int v1), (2, .int v2)] rfl ?_
    exact aw_X3_next_159 G RR T hL   v1 v2 g_5  h
  · have h := h.1 c_6
    refine sv_aload_n (pc := 155) G dX3_next_155 0 rfl ?_
    refine sv_callV (cs := 0) (sl := 0) (st := []) (As := []) (a := 4) (pc := 156) G RR (c_X3_readValue hL  h) mw_X3_readValue lk_X3_73 (hL.sh rfl) (by decide) rfl rfl ⟨(Nat.le_of_ble_eq_true rfl), (Nat.le_of_ble_eq_true rfl)⟩ ⟨(Nat.le_of_ble_eq_true rfl), (Nat.le_of_ble_eq_true rfl)⟩ (Nat.le_of_ble_eq_true rfl) rfl dX3_next_156 (sv_kV (fun g_7 h => ?_))
    refine sv_locs [0, 1, 2] [(0, .ref (b + 4)), (1, .int v1), (2, .int v2)] rfl ?_
    exact aw_X3_next_159 G RR T hL   v1 v2 g_7  h
set_option maxRecDepth 100000 in
set_option maxHeartbeats 4000000 in
theorem aw_X3_next_73 {x : sv_X} {b : Nat} {xt : sv_Xt} {F : sv_Fr} {Q : sv_Mg → Prop} (G : sv_G x b xt RX3 cX3_next 3) (RR : sv_R x 2 41 0 0) (T : sv_RT x none) (hL : sv_Lay F) : ∀ (v1 : Int32) (v2 : Int32) (g : sv_Mg), wp_X3_next_73 F Q  v1 v2 g → sv_AW x (sv_Q x (sv_qV F Q) 0 0) F g 0 0 73 [(0, .ref (b + 4)), (1, .int v1), (2, .int v2)] [] := by
  intro v1 v2 g h
  unfold wp_X3_next_73 at h
  refine sv_aload_n (pc := 73) G dX3_next_73 0 rfl ?_
  refine sv_aload_n (pc := 74) G dX3_next_74 0 rfl ?_
  refine sv_getI (pc := 75) G fw_X3_22 (hL.sh rfl) rfl dX3_next_75 ?_
  refine sv_putI (pc := 78) G fw_X3_25 (hL.sh rfl) rfl dX3_next_78 (fun g_8 eg_8 => ?_)
  have h := h g_8 eg_8
  refine sv_aload_n (pc := 81) G dX3_next_81 0 rfl ?_
  refine sv_getI (pc := 82) G fw_X3_22 (hL.sh rfl) rfl dX3_next_82 ?_
  refine sv_aload_n (pc := 85) G dX3_next_85 0 rfl ?_
  refine sv_getI (pc := 86) G fw_X3_15 (hL.sh rfl) rfl dX3_next_86 ?_
  refine sv_ic_lt (pc := 89) G 98 (by decide) dX3_next_89 (fun c_9 => ?_) (fun c_9 => ?_)
  · have h := h.1 c_9
    refine sv_aload_n (pc := 98) G dX3_next_98 0 rfl ?_
    refine sv_aload_n (pc := 99) G dX3_next_99 0 rfl ?_
    refine sv_getR (pc := 100) G fw_X3_9 (hL.sh rfl) rfl (hL.rf 11 rfl) dX3_next_100 ?_
    refine sv_aload_n (pc := 103) G dX3_next_103 0 rfl ?_
    refine sv_getI (pc := 104) G fw_X3_22 (hL.sh rfl) rfl dX3_next_104 ?_
    obtain ⟨s_10, h⟩ := h
    refine sv_ialdK (pc := 107) G (hL.sh rfl) s_10 (g_8 4 3).toNatClampNeg rfl dX3_next_107 ?_
    refine sv_putI (pc := 108) G fw_X3_28 (hL.sh rfl) rfl dX3_next_108 (fun g_11 eg_11 => ?_)
    have h := h g_11 eg_11
    refine sv_aload_n (pc := 111) G dX3_next_111 0 rfl ?_
    refine sv_aload_n (pc := 112) G dX3_next_112 0 rfl ?_
    refine sv_getI (pc := 113) G fw_X3_28 (hL.sh rfl) rfl dX3_next_113 ?_
    refine sv_callS (cs := 0) (sl := 0) (st := [.ref (b + 4)]) (As := [.int (g_11 4 5)]) (pc := 116) G RR (c_X3_sortOf hL  h) mw_X3_sortOf lk_X3_65 rfl ⟨(Nat.le_of_ble_eq_true rfl), (Nat.le_of_ble_eq_true rfl)⟩ ⟨(Nat.le_of_ble_eq_true rfl), (Nat.le_of_ble_eq_true rfl)⟩ (Nat.le_of_ble_eq_true rfl) rfl dX3_next_116 (sv_kI (fun r_13 g_12 h => ?_))
    refine sv_putI (pc := 119) G fw_X3_19 (hL.sh rfl) rfl dX3_next_119 (fun g_14 eg_14 => ?_)
    have h := h g_14 eg_14
    refine sv_aload_n (pc := 122) G dX3_next_122 0 rfl ?_
    refine sv_aload_n (pc := 123) G dX3_next_123 0 rfl ?_
    refine sv_getI (pc := 124) G fw_X3_19 (hL.sh rfl) rfl dX3_next_124 ?_
    refine sv_iconst (pc := 127) G dX3_next_127 3 ic_3 ?_
    refine sv_ic_ne (pc := 128) G 140 (by decide) dX3_next_128 (fun c_15 => ?_) (fun c_15 => ?_)
    · have h := h.2 c_15
      refine sv_aload_n (pc := 140) G dX3_next_140 0 rfl ?_
      refine sv_callV (cs := 0) (sl := 0) (st := [.ref (b + 4)]) (As := []) (a := 4) (pc := 141) G RR (c_X3_endOfWord hL  h) mw_X3_endOfWord lk_X3_69 (hL.sh rfl) (by decide) rfl rfl ⟨(Nat.le_of_ble_eq_true rfl), (Nat.le_of_ble_eq_true rfl)⟩ ⟨(Nat.le_of_ble_eq_true rfl), (Nat.le_of_ble_eq_true rfl)⟩ (Nat.le_of_ble_eq_true rfl) rfl dX3_next_141 (sv_kI (fun r_17 g_16 h => ?_))
      refine sv_locs [0, 1, 2] [(0, .ref (b + 4)), (1, .int v1), (2, .int v2)] rfl ?_
      exact aw_X3_next_144 G RR T hL   v1 v2 r_17 g_16  h
    · have h := h.1 c_15
      refine sv_aload_n (pc := 131) G dX3_next_131 0 rfl ?_
      refine sv_getI (pc := 132) G fw_X3_22 (hL.sh rfl) rfl dX3_next_132 ?_
      refine sv_iconst (pc := 135) G dX3_next_135 1 ic_1 ?_
      refine sv_iadd (pc := 136) G dX3_next_136 ?_
      refine sv_goto (pc := 137) G dX3_next_137 144 (by decide) ?_
      refine sv_locs [0, 1, 2] [(0, .ref (b + 4)), (1, .int v1), (2, .int v2)] rfl ?_
      exact aw_X3_next_144 G RR T hL   v1 v2 ((g_14 4 3) + 1) g_14  h
  · have h := h.2 c_9
    refine sv_aload_n (pc := 92) G dX3_next_92 0 rfl ?_
    refine sv_iconst (pc := 93) G dX3_next_93 0 ic_0 ?_
    refine sv_putI (pc := 94) G fw_X3_19 (hL.sh rfl) rfl dX3_next_94 (fun g_18 eg_18 => ?_)
    have h := h g_18 eg_18
    exact sv_vreturn (pc := 97) G T ⟨(Nat.le_of_ble_eq_true rfl), (Nat.le_of_ble_eq_true rfl)⟩ dX3_next_97 ⟨rfl, rfl, h⟩
set_option maxRecDepth 100000 in
set_option maxHeartbeats 4000000 in
theorem aw_X3_next_35 {x : sv_X} {b : Nat} {xt : sv_Xt} {F : sv_Fr} {Q : sv_Mg → Prop} (G : sv_G x b xt RX3 cX3_next 3) (RR : sv_R x 2 41 0 0) (T : sv_RT x none) (hL : sv_Lay F) : ∀ (n : Nat) (v1 : Int32) (v2 : Int32) (g : sv_Mg), wp_X3_next_35 F Q  n v1 v2 g → sv_AW x (sv_Q x (sv_qV F Q) 0 0) F g 0 0 35 [(0, .ref (b + 4)), (1, .int v1), (2, .int v2)] [] := by
  intro n
  induction n with
  | zero => intro v1 v2 g h; exact h.elim
  | succ n ih =>
    intro v1 v2 g h
    rw [wp_X3_next_35] at h
    refine sv_aload_n (pc := 35) G dX3_next_35 0 rfl ?_
    refine sv_getI (pc := 36) G fw_X3_22 (hL.sh rfl) rfl dX3_next_36 ?_
    refine sv_aload_n (pc := 39) G dX3_next_39 0 rfl ?_
    refine sv_getI (pc := 40) G fw_X3_15 (hL.sh rfl) rfl dX3_next_40 ?_
    refine sv_ic_ge (pc := 43) G 73 (by decide) dX3_next_43 (fun c_19 => ?_) (fun c_19 => ?_)
    · have h := h.1 c_19
      refine sv_locs [0, 1, 2] [(0, .ref (b + 4)), (1, .int v1), (2, .int v2)] rfl ?_
      exact aw_X3_next_73 G RR T hL   v1 v2 g  h
    · have h := h.2 c_19
      refine sv_aload_n (pc := 46) G dX3_next_46 0 rfl ?_
      refine sv_getR (pc := 47) G fw_X3_9 (hL.sh rfl) rfl (hL.rf 11 rfl) dX3_next_47 ?_
      refine sv_aload_n (pc := 50) G dX3_next_50 0 rfl ?_
      refine sv_getI (pc := 51) G fw_X3_22 (hL.sh rfl) rfl dX3_next_51 ?_
      obtain ⟨s_20, h⟩ := h
      refine sv_ialdK (pc := 54) G (hL.sh rfl) s_20 (g 4 3).toNatClampNeg rfl dX3_next_54 ?_
      refine sv_bipush (pc := 55) G dX3_next_55 32 bp_32 ?_
      refine sv_ic_ne (pc := 57) G 73 (by decide) dX3_next_57 (fun c_21 => ?_) (fun c_21 => ?_)
      · have h := h.2 c_21
        refine sv_locs [0, 1, 2] [(0, .ref (b + 4)), (1, .int v1), (2, .int v2)] rfl ?_
        exact aw_X3_next_73 G RR T hL   v1 v2 g  h
      · have h := h.1 c_21
        refine sv_aload_n (pc := 60) G dX3_next_60 0 rfl ?_
        refine sv_dup (pc := 61) G dX3_next_61 rfl ?_
        refine sv_getI (pc := 62) G fw_X3_22 (hL.sh rfl) rfl dX3_next_62 ?_
        refine sv_iconst (pc := 65) G dX3_next_65 1 ic_1 ?_
        refine sv_iadd (pc := 66) G dX3_next_66 ?_
        refine sv_putI (pc := 67) G fw_X3_22 (hL.sh rfl) rfl dX3_next_67 (fun g_22 eg_22 => ?_)
        have h := h g_22 eg_22
        refine sv_goto (pc := 70) G dX3_next_70 35 (by decide) ?_
        refine sv_locs [0, 1, 2] [(0, .ref (b + 4)), (1, .int v1), (2, .int v2)] rfl ?_
        exact ih v1 v2 g_22  h
set_option maxRecDepth 100000 in
set_option maxHeartbeats 4000000 in
theorem aw_X3_next_21 {x : sv_X} {b : Nat} {xt : sv_Xt} {F : sv_Fr} {Q : sv_Mg → Prop} (G : sv_G x b xt RX3 cX3_next 3) (RR : sv_R x 2 41 0 0) (T : sv_RT x none) (hL : sv_Lay F) : ∀ (s0 : Int32) (g : sv_Mg), wp_X3_next_21 F Q  s0 g → sv_AW x (sv_Q x (sv_qV F Q) 0 0) F g 0 0 21 [(0, .ref (b + 4))] [.int s0] := by
  intro s0 g h
  unfold wp_X3_next_21 at h
  refine sv_istore_n (pc := 21) G dX3_next_21 [(1, .int s0), (0, .ref (b + 4))] (by decide) rfl ?_
  refine sv_aload_n (pc := 22) G dX3_next_22 1 rfl ?_
  refine sv_getI (pc := 23) G fw_X3_25 (hL.sh rfl) rfl dX3_next_23 ?_
  refine sv_topi (fun v2_23 ev2_23 => ?_)
  have h := h v2_23 ev2_23
  refine sv_istore_n (pc := 26) G dX3_next_26 [(2, .int v2_23), (1, .int s0), (0, .ref (b + 4))] (by decide) rfl ?_
  refine sv_aload_n (pc := 27) G dX3_next_27 2 rfl ?_
  refine sv_aload_n (pc := 28) G dX3_next_28 2 rfl ?_
  refine sv_getI (pc := 29) G fw_X3_25 (hL.sh rfl) rfl dX3_next_29 ?_
  refine sv_putI (pc := 32) G fw_X3_22 (hL.sh rfl) rfl dX3_next_32 (fun g_24 eg_24 => ?_)
  have h := h g_24 eg_24
  refine sv_locs [2, 1, 0] [(0, .ref (b + 4)), (1, .int s0), (2, .int v2_23)] rfl ?_
  obtain ⟨n_25, h⟩ := h
  exact aw_X3_next_35 G RR T hL   n_25 s0 v2_23 g_24  h
set_option maxRecDepth 100000 in
set_option maxHeartbeats 4000000 in
theorem aw_X3_next_16 {x : sv_X} {b : Nat} {xt : sv_Xt} {F : sv_Fr} {Q : sv_Mg → Prop} (G : sv_G x b xt RX3 cX3_next 3) (RR : sv_R x 2 41 0 0) (T : sv_RT x none) (hL : sv_Lay F) : ∀  (g : sv_Mg), wp_X3_next_16 F Q   g → sv_AW x (sv_Q x (sv_qV F Q) 0 0) F g 0 0 16 [(0, .ref (b + 4))] [] := by
  intro g h
  unfold wp_X3_next_16 at h
  refine sv_iconst (pc := 16) G dX3_next_16 1 ic_1 ?_
  refine sv_goto (pc := 17) G dX3_next_17 21 (by decide) ?_
  refine sv_locs [0] [(0, .ref (b + 4))] rfl ?_
  exact aw_X3_next_21 G RR T hL   1 g  h
set_option maxRecDepth 100000 in
set_option maxHeartbeats 4000000 in
theorem c_X3_next {b : Nat} {xt : sv_Xt} {F : sv_Fr} {g : sv_Mg} {Q : sv_Mg → Prop} (hL : sv_Lay F) (h : wp_X3_next F g Q) : sv_Cal yX3_next cX3_next 3 none 2 41 0 0 b xt [.ref (b + 4)] F g (sv_qV F Q) := by
  refine sv_intro mw_X3_next [(0, .ref (b + 4))] rfl (Nat.le_of_ble_eq_true rfl) (fun x G RR T NM => ?_)
  have G : sv_G x b xt RX3 cX3_next 3 := G
  unfold wp_X3_next at h
  refine sv_aload_n (pc := 0) G dX3_next_0 0 rfl ?_
  refine sv_getI (pc := 1) G fw_X3_19 (hL.sh rfl) rfl dX3_next_1 ?_
  refine sv_iconst (pc := 4) G dX3_next_4 1 ic_1 ?_
  refine sv_ic_eq (pc := 5) G 16 (by decide) dX3_next_5 (fun c_26 => ?_) (fun c_26 => ?_)
  · have h := h.1 c_26
    refine sv_locs [0] [(0, .ref (b + 4))] rfl ?_
    exact aw_X3_next_16 G RR T hL    g  h
  · have h := h.2 c_26
    refine sv_aload_n (pc := 8) G dX3_next_8 0 rfl ?_
    refine sv_getI (pc := 9) G fw_X3_19 (hL.sh rfl) rfl dX3_next_9 ?_
    refine sv_iconst (pc := 12) G dX3_next_12 2 ic_2 ?_
    refine sv_ic_ne (pc := 13) G 20 (by decide) dX3_next_13 (fun c_27 => ?_) (fun c_27 => ?_)
    · have h := h.2 c_27
      refine sv_iconst (pc := 20) G dX3_next_20 0 ic_0 ?_
      refine sv_locs [0] [(0, .ref (b + 4))] rfl ?_
      exact aw_X3_next_21 G RR T hL   0 g  h
    · have h := h.1 c_27
      refine sv_locs [0] [(0, .ref (b + 4))] rfl ?_
      exact aw_X3_next_16 G RR T hL    g  h
def wp_X3_add (F : sv_Fr) (v1 : Int32) (g : sv_Mg) (Q : Int32 → sv_Mg → Prop) : Prop := (((g 4 9) < 96 → vp_in (g 4 9) 96 ∧ ∀ g_3, g_3 = sv_st g 6 (g 4 9).toNatClampNeg v1 → ∀ g_4, g_4 = sv_st g_3 4 9 ((g_3 4 9) + 1) → Q 1 g_4) ∧ (¬ (g 4 9) < 96 → Q 0 g))
set_option maxRecDepth 100000 in
set_option maxHeartbeats 4000000 in
theorem c_X3_add {b : Nat} {xt : sv_Xt} {F : sv_Fr} {v1 : Int32} {g : sv_Mg} {Q : Int32 → sv_Mg → Prop} (hL : sv_Lay F) (h : wp_X3_add F v1 g Q) : sv_Cal yX3_add cX3_add 2 (some .boolean) 0 0 0 0 b xt [.ref (b + 4), .int v1] F g (sv_qI F Q) := by
  refine sv_intro mw_X3_add [(0, .ref (b + 4)), (1, .int v1)] rfl (Nat.le_of_ble_eq_true rfl) (fun x G RR T NM => ?_)
  have G : sv_G x b xt RX3 cX3_add 2 := G
  unfold wp_X3_add at h
  refine sv_aload_n (pc := 0) G dX3_add_0 0 rfl ?_
  refine sv_getI (pc := 1) G fw_X3_40 (hL.sh rfl) rfl dX3_add_1 ?_
  refine sv_bipush (pc := 4) G dX3_add_4 96 bp_96 ?_
  refine sv_ic_lt (pc := 6) G 11 (by decide) dX3_add_6 (fun c_1 => ?_) (fun c_1 => ?_)
  · have h := h.1 c_1
    refine sv_aload_n (pc := 11) G dX3_add_11 0 rfl ?_
    refine sv_getR (pc := 12) G fw_X3_37 (hL.sh rfl) rfl (hL.rf 12 rfl) dX3_add_12 ?_
    refine sv_aload_n (pc := 15) G dX3_add_15 0 rfl ?_
    refine sv_getI (pc := 16) G fw_X3_40 (hL.sh rfl) rfl dX3_add_16 ?_
    refine sv_iload_n (pc := 19) G dX3_add_19 1 rfl ?_
    obtain ⟨s_2, h⟩ := h
    refine sv_iastK (pc := 20) G (hL.sh rfl) s_2 (g 4 9).toNatClampNeg rfl dX3_add_20 (fun g_3 eg_3 => ?_)
    have h := h g_3 eg_3
    refine sv_aload_n (pc := 21) G dX3_add_21 0 rfl ?_
    refine sv_dup (pc := 22) G dX3_add_22 rfl ?_
    refine sv_getI (pc := 23) G fw_X3_40 (hL.sh rfl) rfl dX3_add_23 ?_
    refine sv_iconst (pc := 26) G dX3_add_26 1 ic_1 ?_
    refine sv_iadd (pc := 27) G dX3_add_27 ?_
    refine sv_putI (pc := 28) G fw_X3_40 (hL.sh rfl) rfl dX3_add_28 (fun g_4 eg_4 => ?_)
    have h := h g_4 eg_4
    refine sv_iconst (pc := 31) G dX3_add_31 1 ic_1 ?_
    exact sv_zreturn (pc := 32) G T (Or.inr rfl) ⟨(Nat.le_of_ble_eq_true rfl), (Nat.le_of_ble_eq_true rfl)⟩ dX3_add_32 ⟨_, rfl, rfl, h⟩
  · have h := h.2 c_1
    refine sv_iconst (pc := 9) G dX3_add_9 0 ic_0 ?_
    exact sv_zreturn (pc := 10) G T (Or.inl rfl) ⟨(Nat.le_of_ble_eq_true rfl), (Nat.le_of_ble_eq_true rfl)⟩ dX3_add_10 ⟨_, rfl, rfl, h⟩
def wp_J0_isLatin1_aae02 (F : sv_Fr) (s0 : Nat) (g : sv_Mg) (Q : Int32 → sv_Mg → Prop) : Prop := (((1 : Int32) = 0 → Q 0 g) ∧ (¬ (1 : Int32) = 0 → (((0 : Int32) = 0 → Q 1 g) ∧ (¬ (0 : Int32) = 0 → Q 0 g))))
set_option maxRecDepth 100000 in
set_option maxHeartbeats 4000000 in
theorem c_J0_isLatin1_aae02 {b : Nat} {xt : sv_Xt} {F : sv_Fr} {s0 : Nat} {g : sv_Mg} {Q : Int32 → sv_Mg → Prop} (hL : sv_Lay F) (hs0 : s0 < 14) (h : wp_J0_isLatin1_aae02 F s0 g Q) : sv_Cal yJ0_isLatin1_aae02 cJ0_isLatin1_aae02 1 (some .boolean) 0 0 0 0 b xt [.ref (xt.1 s0)] F g (sv_qI F Q) := by
  refine sv_intro mw_J0_isLatin1_aae02 [(0, .ref (xt.1 s0))] rfl (Nat.le_of_ble_eq_true rfl) (fun x G RR T NM => ?_)
  have G : sv_G x b xt RJ0 cJ0_isLatin1_aae02 1 := G
  unfold wp_J0_isLatin1_aae02 at h
  refine sv_getsC (pc := 0) G dJ0_isLatin1_aae02_0 wf_J0_38 ?_
  refine sv_if_eq (pc := 3) G 17 (by decide) dJ0_isLatin1_aae02_3 (fun c_1 => ?_) (fun c_1 => ?_)
  · have h := h.1 c_1
    refine sv_iconst (pc := 17) G dJ0_isLatin1_aae02_17 0 ic_0 ?_
    exact sv_zreturn (pc := 18) G T (Or.inl rfl) ⟨(Nat.le_of_ble_eq_true rfl), (Nat.le_of_ble_eq_true rfl)⟩ dJ0_isLatin1_aae02_18 ⟨_, rfl, rfl, h⟩
  · have h := h.2 c_1
    refine sv_aload_n (pc := 6) G dJ0_isLatin1_aae02_6 0 rfl ?_
    refine sv_scod (pc := 7) G dJ0_isLatin1_aae02_7 hs0 wf_J0_15 ?_
    refine sv_if_ne (pc := 10) G 17 (by decide) dJ0_isLatin1_aae02_10 (fun c_2 => ?_) (fun c_2 => ?_)
    · have h := h.2 c_2
      refine sv_iconst (pc := 17) G dJ0_isLatin1_aae02_17 0 ic_0 ?_
      exact sv_zreturn (pc := 18) G T (Or.inl rfl) ⟨(Nat.le_of_ble_eq_true rfl), (Nat.le_of_ble_eq_true rfl)⟩ dJ0_isLatin1_aae02_18 ⟨_, rfl, rfl, h⟩
    · have h := h.1 c_2
      refine sv_iconst (pc := 13) G dJ0_isLatin1_aae02_13 1 ic_1 ?_
      refine sv_goto (pc := 14) G dJ0_isLatin1_aae02_14 18 (by decide) ?_
      exact sv_zreturn (pc := 18) G T (Or.inr rfl) ⟨(Nat.le_of_ble_eq_true rfl), (Nat.le_of_ble_eq_true rfl)⟩ dJ0_isLatin1_aae02_18 ⟨_, rfl, rfl, h⟩
def wp_J0_coder_7d493 (F : sv_Fr) (s0 : Nat) (g : sv_Mg) (Q : Int32 → sv_Mg → Prop) : Prop := (((1 : Int32) = 0 → narrow .byte (.int 1) = .int 1 ∧ Q 1 g) ∧ (¬ (1 : Int32) = 0 → narrow .byte (.int 0) = .int 0 ∧ Q 0 g))
set_option maxRecDepth 100000 in
set_option maxHeartbeats 4000000 in
theorem c_J0_coder_7d493 {b : Nat} {xt : sv_Xt} {F : sv_Fr} {s0 : Nat} {g : sv_Mg} {Q : Int32 → sv_Mg → Prop} (hL : sv_Lay F) (hs0 : s0 < 14) (h : wp_J0_coder_7d493 F s0 g Q) : sv_Cal yJ0_coder_7d493 cJ0_coder_7d493 1 (some .byte) 0 0 0 0 b xt [.ref (xt.1 s0)] F g (sv_qI F Q) := by
  refine sv_intro mw_J0_coder_7d493 [(0, .ref (xt.1 s0))] rfl (Nat.le_of_ble_eq_true rfl) (fun x G RR T NM => ?_)
  have G : sv_G x b xt RJ0 cJ0_coder_7d493 1 := G
  unfold wp_J0_coder_7d493 at h
  refine sv_getsC (pc := 0) G dJ0_coder_7d493_0 wf_J0_38 ?_
  refine sv_if_eq (pc := 3) G 13 (by decide) dJ0_coder_7d493_3 (fun c_1 => ?_) (fun c_1 => ?_)
  · have h := h.1 c_1
    refine sv_iconst (pc := 13) G dJ0_coder_7d493_13 1 ic_1 ?_
    obtain ⟨s_2, h⟩ := h
    exact sv_creturn (pc := 14) G T s_2 ⟨(Nat.le_of_ble_eq_true rfl), (Nat.le_of_ble_eq_true rfl)⟩ dJ0_coder_7d493_14 ⟨_, rfl, rfl, h⟩
  · have h := h.2 c_1
    refine sv_aload_n (pc := 6) G dJ0_coder_7d493_6 0 rfl ?_
    refine sv_scod (pc := 7) G dJ0_coder_7d493_7 hs0 wf_J0_15 ?_
    refine sv_goto (pc := 10) G dJ0_coder_7d493_10 14 (by decide) ?_
    obtain ⟨s_3, h⟩ := h
    exact sv_creturn (pc := 14) G T s_3 ⟨(Nat.le_of_ble_eq_true rfl), (Nat.le_of_ble_eq_true rfl)⟩ dJ0_coder_7d493_14 ⟨_, rfl, rfl, h⟩
def wp_J0_length_8abf5 (F : sv_Fr) (s0 : Nat) (g : sv_Mg) (Q : Int32 → sv_Mg → Prop) : Prop := wp_J0_coder_7d493 F s0 g (fun r_2 g_1 => Q ((nI (sv_len.getD s0 0)) >>> (r_2 &&& 31)) g_1)
set_option maxRecDepth 100000 in
set_option maxHeartbeats 4000000 in
theorem c_J0_length_8abf5 {b : Nat} {xt : sv_Xt} {F : sv_Fr} {s0 : Nat} {g : sv_Mg} {Q : Int32 → sv_Mg → Prop} (hL : sv_Lay F) (hs0 : s0 < 14) (h : wp_J0_length_8abf5 F s0 g Q) : sv_Cal yJ0_length_8abf5 cJ0_length_8abf5 1 (some .int) 1 20 0 0 b xt [.ref (xt.1 s0)] F g (sv_qI F Q) := by
  refine sv_intro mw_J0_length_8abf5 [(0, .ref (xt.1 s0))] rfl (Nat.le_of_ble_eq_true rfl) (fun x G RR T NM => ?_)
  have G : sv_G x b xt RJ0 cJ0_length_8abf5 1 := G
  unfold wp_J0_length_8abf5 at h
  refine sv_aload_n (pc := 0) G dJ0_length_8abf5_0 0 rfl ?_
  refine sv_sval (pc := 1) G dJ0_length_8abf5_1 hs0 wf_J0_9 ?_
  refine sv_slen (pc := 4) G dJ0_length_8abf5_4 hs0 ?_
  refine sv_aload_n (pc := 5) G dJ0_length_8abf5_5 0 rfl ?_
  refine sv_callVS (cs := 0) (sl := 0) (st := [.int (nI (sv_len.getD s0 0))]) (As := []) (q := s0) (pc := 6) G RR (c_J0_coder_7d493 hL hs0 h) mw_J0_coder_7d493 lk_J0_335 hs0 rfl rfl ⟨(Nat.le_of_ble_eq_true rfl), (Nat.le_of_ble_eq_true rfl)⟩ ⟨(Nat.le_of_ble_eq_true rfl), (Nat.le_of_ble_eq_true rfl)⟩ (Nat.le_of_ble_eq_true rfl) rfl dJ0_length_8abf5_6 (sv_kI (fun r_2 g_1 h => ?_))
  refine sv_ishr (pc := 9) G dJ0_length_8abf5_9 ?_
  exact sv_ireturn (pc := 10) G T ⟨(Nat.le_of_ble_eq_true rfl), (Nat.le_of_ble_eq_true rfl)⟩ dJ0_length_8abf5_10 ⟨_, rfl, rfl, h⟩
def wp_J1_canEncode_9a6ad (F : sv_Fr) (v0 : Int32) (g : sv_Mg) (Q : Int32 → sv_Mg → Prop) : Prop := ((v0 < 0 → Q 0 g) ∧ (¬ v0 < 0 → ((255 < v0 → Q 0 g) ∧ (¬ 255 < v0 → Q 1 g))))
set_option maxRecDepth 100000 in
set_option maxHeartbeats 4000000 in
theorem c_J1_canEncode_9a6ad {b : Nat} {xt : sv_Xt} {F : sv_Fr} {v0 : Int32} {g : sv_Mg} {Q : Int32 → sv_Mg → Prop} (hL : sv_Lay F) (h : wp_J1_canEncode_9a6ad F v0 g Q) : sv_Cal yJ1_canEncode_9a6ad cJ1_canEncode_9a6ad 1 (some .boolean) 0 0 0 0 b xt [.int v0] F g (sv_qI F Q) := by
  refine sv_intro mw_J1_canEncode_9a6ad [(0, .int v0)] rfl (Nat.le_of_ble_eq_true rfl) (fun x G RR T NM => ?_)
  have G : sv_G x b xt RJ1 cJ1_canEncode_9a6ad 1 := G
  unfold wp_J1_canEncode_9a6ad at h
  refine sv_iload_n (pc := 0) G dJ1_canEncode_9a6ad_0 0 rfl ?_
  refine sv_if_lt (pc := 1) G 15 (by decide) dJ1_canEncode_9a6ad_1 (fun c_1 => ?_) (fun c_1 => ?_)
  · have h := h.1 c_1
    refine sv_iconst (pc := 15) G dJ1_canEncode_9a6ad_15 0 ic_0 ?_
    exact sv_zreturn (pc := 16) G T (Or.inl rfl) ⟨(Nat.le_of_ble_eq_true rfl), (Nat.le_of_ble_eq_true rfl)⟩ dJ1_canEncode_9a6ad_16 ⟨_, rfl, rfl, h⟩
  · have h := h.2 c_1
    refine sv_iload_n (pc := 4) G dJ1_canEncode_9a6ad_4 0 rfl ?_
    refine sv_sipush (pc := 5) G dJ1_canEncode_9a6ad_5 255 sp_255 ?_
    refine sv_ic_gt (pc := 8) G 15 (by decide) dJ1_canEncode_9a6ad_8 (fun c_2 => ?_) (fun c_2 => ?_)
    · have h := h.1 c_2
      refine sv_iconst (pc := 15) G dJ1_canEncode_9a6ad_15 0 ic_0 ?_
      exact sv_zreturn (pc := 16) G T (Or.inl rfl) ⟨(Nat.le_of_ble_eq_true rfl), (Nat.le_of_ble_eq_true rfl)⟩ dJ1_canEncode_9a6ad_16 ⟨_, rfl, rfl, h⟩
    · have h := h.2 c_2
      refine sv_iconst (pc := 11) G dJ1_canEncode_9a6ad_11 1 ic_1 ?_
      refine sv_goto (pc := 12) G dJ1_canEncode_9a6ad_12 16 (by decide) ?_
      exact sv_zreturn (pc := 16) G T (Or.inr rfl) ⟨(Nat.le_of_ble_eq_true rfl), (Nat.le_of_ble_eq_true rfl)⟩ dJ1_canEncode_9a6ad_16 ⟨_, rfl, rfl, h⟩
def wp_J1_indexOfChar_4cfef_7 (F : sv_Fr) (s0 : Nat) (Q : Int32 → sv_Mg → Prop) : Nat → Int32 → Int32 → Int32 → sv_Mg → Prop
  | 0, _, _, _, _ => False
  | n + 1, v3, v4, v5, g => ((v3 ≤ v5 → Q (-1) g) ∧ (¬ v3 ≤ v5 → vp_in v5 (sv_len.getD s0 0) ∧ ((((sv_byt.getD s0 []).getD v5.toNatClampNeg 0) = v4 → Q v5 g) ∧ (¬ ((sv_byt.getD s0 []).getD v5.toNatClampNeg 0) = v4 → ∀ v5_4 : Int32, v5_4 = v5 + 1 → (wp_J1_indexOfChar_4cfef_7 F s0 Q  n) v3 v4 v5_4 g))))
def wp_J1_indexOfChar_4cfef (F : sv_Fr) (s0 : Nat) (v1 : Int32) (v2 : Int32) (v3 : Int32) (g : sv_Mg) (Q : Int32 → sv_Mg → Prop) : Prop := ∀ v4_5 : Int32, v4_5 = v1.toInt8.toInt32 → ∃ n_6, wp_J1_indexOfChar_4cfef_7 F s0 Q  n_6 v3 v4_5 v2 g
set_option maxRecDepth 100000 in
set_option maxHeartbeats 4000000 in
theorem aw_J1_indexOfChar_4cfef_7 {x : sv_X} {b : Nat} {xt : sv_Xt} {F : sv_Fr} {s0 : Nat} {Q : Int32 → sv_Mg → Prop} (G : sv_G x b xt RJ1 cJ1_indexOfChar_4cfef 6) (RR : sv_R x 0 0 0 0) (T : sv_RT x (some .int)) (hL : sv_Lay F) (hs0 : s0 < 14) : ∀ (n : Nat) (v3 : Int32) (v4 : Int32) (v5 : Int32) (g : sv_Mg), wp_J1_indexOfChar_4cfef_7 F s0 Q  n v3 v4 v5 g → sv_AW x (sv_Q x (sv_qI F Q) 0 0) F g 0 0 7 [(0, .ref (xt.2.1 s0)), (3, .int v3), (4, .int v4), (5, .int v5)] [] := by
  intro n
  induction n with
  | zero => intro v3 v4 v5 g h; exact h.elim
  | succ n ih =>
    intro v3 v4 v5 g h
    rw [wp_J1_indexOfChar_4cfef_7] at h
    refine sv_iload (pc := 7) G dJ1_indexOfChar_4cfef_7 3 rfl ?_
    refine sv_iload_n (pc := 9) G dJ1_indexOfChar_4cfef_9 1 rfl ?_
    refine sv_ic_ge (pc := 10) G 31 (by decide) dJ1_indexOfChar_4cfef_10 (fun c_1 => ?_) (fun c_1 => ?_)
    · have h := h.1 c_1
      refine sv_iconst (pc := 31) G dJ1_indexOfChar_4cfef_31 (-1) ic_m1 ?_
      exact sv_ireturn (pc := 32) G T ⟨(Nat.le_of_ble_eq_true rfl), (Nat.le_of_ble_eq_true rfl)⟩ dJ1_indexOfChar_4cfef_32 ⟨_, rfl, rfl, h⟩
    · have h := h.2 c_1
      refine sv_aload_n (pc := 13) G dJ1_indexOfChar_4cfef_13 0 rfl ?_
      refine sv_iload (pc := 14) G dJ1_indexOfChar_4cfef_14 3 rfl ?_
      obtain ⟨s_2, h⟩ := h
      refine sv_sbal (pc := 16) G dJ1_indexOfChar_4cfef_16 hs0 s_2 v5.toNatClampNeg rfl ?_
      refine sv_iload (pc := 17) G dJ1_indexOfChar_4cfef_17 2 rfl ?_
      refine sv_ic_ne (pc := 19) G 25 (by decide) dJ1_indexOfChar_4cfef_19 (fun c_3 => ?_) (fun c_3 => ?_)
      · have h := h.2 c_3
        obtain ⟨v5_4, ev5_4⟩ : ∃ y : Int32, y = v5 + 1 := ⟨_, rfl⟩
        have h := h v5_4 ev5_4
        refine sv_iinc (pc := 25) G dJ1_indexOfChar_4cfef_25 3 v5_4 [(5, .int v5_4), (0, .ref (xt.2.1 s0)), (3, .int v3), (4, .int v4)] (by rw [ev5_4, ic_1]) rfl (by decide) rfl ?_
        refine sv_goto (pc := 28) G dJ1_indexOfChar_4cfef_28 7 (by decide) ?_
        refine sv_locs [1, 2, 3, 0] [(0, .ref (xt.2.1 s0)), (3, .int v3), (4, .int v4), (5, .int v5_4)] rfl ?_
        exact ih v3 v4 v5_4 g  h
      · have h := h.1 c_3
        refine sv_iload (pc := 22) G dJ1_indexOfChar_4cfef_22 3 rfl ?_
        exact sv_ireturn (pc := 24) G T ⟨(Nat.le_of_ble_eq_true rfl), (Nat.le_of_ble_eq_true rfl)⟩ dJ1_indexOfChar_4cfef_24 ⟨_, rfl, rfl, h⟩
set_option maxRecDepth 100000 in
set_option maxHeartbeats 4000000 in
theorem c_J1_indexOfChar_4cfef {b : Nat} {xt : sv_Xt} {F : sv_Fr} {s0 : Nat} {v1 : Int32} {v2 : Int32} {v3 : Int32} {g : sv_Mg} {Q : Int32 → sv_Mg → Prop} (hL : sv_Lay F) (hs0 : s0 < 14) (h : wp_J1_indexOfChar_4cfef F s0 v1 v2 v3 g Q) : sv_Cal yJ1_indexOfChar_4cfef cJ1_indexOfChar_4cfef 6 (some .int) 0 0 0 0 b xt [.ref (xt.2.1 s0), .int v1, .int v2, .int v3] F g (sv_qI F Q) := by
  refine sv_intro mw_J1_indexOfChar_4cfef [(0, .ref (xt.2.1 s0)), (1, .int v1), (2, .int v2), (3, .int v3)] rfl (Nat.le_of_ble_eq_true rfl) (fun x G RR T NM => ?_)
  have G : sv_G x b xt RJ1 cJ1_indexOfChar_4cfef 6 := G
  unfold wp_J1_indexOfChar_4cfef at h
  refine sv_iload_n (pc := 0) G dJ1_indexOfChar_4cfef_0 1 rfl ?_
  refine sv_i2b (pc := 1) G dJ1_indexOfChar_4cfef_1 ?_
  refine sv_topi (fun v4_5 ev4_5 => ?_)
  have h := h v4_5 ev4_5
  refine sv_istore (pc := 2) G dJ1_indexOfChar_4cfef_2 [(4, .int v4_5), (0, .ref (xt.2.1 s0)), (1, .int v1), (2, .int v2), (3, .int v3)] (by decide) rfl ?_
  refine sv_iload_n (pc := 4) G dJ1_indexOfChar_4cfef_4 3 rfl ?_
  refine sv_istore (pc := 5) G dJ1_indexOfChar_4cfef_5 [(5, .int v2), (4, .int v4_5), (0, .ref (xt.2.1 s0)), (1, .int v1), (2, .int v2), (3, .int v3)] (by decide) rfl ?_
  refine sv_locs [2, 5, 1, 0] [(0, .ref (xt.2.1 s0)), (3, .int v3), (4, .int v4_5), (5, .int v2)] rfl ?_
  obtain ⟨n_6, h⟩ := h
  exact aw_J1_indexOfChar_4cfef_7 G RR T hL hs0  n_6 v3 v4_5 v2 g  h
def wp_J1_indexOf_4cfef (F : sv_Fr) (s0 : Nat) (v1 : Int32) (v2 : Int32) (v3 : Int32) (g : sv_Mg) (Q : Int32 → sv_Mg → Prop) : Prop := wp_J1_canEncode_9a6ad F v1 g (fun r_2 g_1 => ((r_2 = 0 → Q (-1) g_1) ∧ (¬ r_2 = 0 → ∀ v2_4 : Int32, v2_4 = (if v2 < 0 then 0 else v2) → ∀ v3_5 : Int32, v3_5 = (if (nI (sv_len.getD s0 0)) < v3 then (nI (sv_len.getD s0 0)) else v3) → ((v2_4 < v3_5 → wp_J1_indexOfChar_4cfef F s0 v1 v2_4 v3_5 g_1 (fun r_8 g_7 => Q r_8 g_7)) ∧ (¬ v2_4 < v3_5 → Q (-1) g_1)))))
set_option maxRecDepth 100000 in
set_option maxHeartbeats 4000000 in
theorem c_J1_indexOf_4cfef {b : Nat} {xt : sv_Xt} {F : sv_Fr} {s0 : Nat} {v1 : Int32} {v2 : Int32} {v3 : Int32} {g : sv_Mg} {Q : Int32 → sv_Mg → Prop} (hL : sv_Lay F) (hs0 : s0 < 14) (h : wp_J1_indexOf_4cfef F s0 v1 v2 v3 g Q) : sv_Cal yJ1_indexOf_4cfef cJ1_indexOf_4cfef 4 (some .int) 1 25 0 0 b xt [.ref (xt.2.1 s0), .int v1, .int v2, .int v3] F g (sv_qI F Q) := by
  refine sv_intro mw_J1_indexOf_4cfef [(0, .ref (xt.2.1 s0)), (1, .int v1), (2, .int v2), (3, .int v3)] rfl (Nat.le_of_ble_eq_true rfl) (fun x G RR T NM => ?_)
  have G : sv_G x b xt RJ1 cJ1_indexOf_4cfef 4 := G
  unfold wp_J1_indexOf_4cfef at h
  refine sv_iload_n (pc := 0) G dJ1_indexOf_4cfef_0 1 rfl ?_
  refine sv_callS (cs := 0) (sl := 0) (st := []) (As := [.int v1]) (pc := 1) G RR (c_J1_canEncode_9a6ad hL  h) mw_J1_canEncode_9a6ad lk_J1_88 rfl ⟨(Nat.le_of_ble_eq_true rfl), (Nat.le_of_ble_eq_true rfl)⟩ ⟨(Nat.le_of_ble_eq_true rfl), (Nat.le_of_ble_eq_true rfl)⟩ (Nat.le_of_ble_eq_true rfl) rfl dJ1_indexOf_4cfef_1 (sv_kI (fun r_2 g_1 h => ?_))
  refine sv_if_ne (pc := 4) G 9 (by decide) dJ1_indexOf_4cfef_4 (fun c_3 => ?_) (fun c_3 => ?_)
  · have h := h.2 c_3
    refine sv_iload_n (pc := 9) G dJ1_indexOf_4cfef_9 2 rfl ?_
    refine sv_iconst (pc := 10) G dJ1_indexOf_4cfef_10 0 ic_0 ?_
    refine sv_max (pc := 11) G RR lk_J1_92 wd_max1 wd_math wd_max2 (Nat.le_of_ble_eq_true rfl) (Nat.le_of_ble_eq_true rfl) (Nat.le_of_ble_eq_true rfl) ⟨(Nat.le_of_ble_eq_true rfl), (Nat.le_of_ble_eq_true rfl)⟩ dJ1_indexOf_4cfef_11 ?_
    refine sv_topi (fun v2_4 ev2_4 => ?_)
    have h := h v2_4 ev2_4
    refine sv_istore_n (pc := 14) G dJ1_indexOf_4cfef_14 [(2, .int v2_4), (0, .ref (xt.2.1 s0)), (1, .int v1), (3, .int v3)] (by decide) rfl ?_
    refine sv_iload_n (pc := 15) G dJ1_indexOf_4cfef_15 3 rfl ?_
    refine sv_aload_n (pc := 16) G dJ1_indexOf_4cfef_16 1 rfl ?_
    refine sv_slen (pc := 17) G dJ1_indexOf_4cfef_17 hs0 ?_
    refine sv_min (pc := 18) G RR lk_J1_38 wd_min1 wd_math wd_min2 (Nat.le_of_ble_eq_true rfl) (Nat.le_of_ble_eq_true rfl) (Nat.le_of_ble_eq_true rfl) ⟨(Nat.le_of_ble_eq_true rfl), (Nat.le_of_ble_eq_true rfl)⟩ dJ1_indexOf_4cfef_18 ?_
    refine sv_topi (fun v3_5 ev3_5 => ?_)
    have h := h v3_5 ev3_5
    refine sv_istore_n (pc := 21) G dJ1_indexOf_4cfef_21 [(3, .int v3_5), (2, .int v2_4), (0, .ref (xt.2.1 s0)), (1, .int v1)] (by decide) rfl ?_
    refine sv_iload_n (pc := 22) G dJ1_indexOf_4cfef_22 1 rfl ?_
    refine sv_iload_n (pc := 23) G dJ1_indexOf_4cfef_23 0 rfl ?_
    refine sv_ic_lt (pc := 24) G 29 (by decide) dJ1_indexOf_4cfef_24 (fun c_6 => ?_) (fun c_6 => ?_)
    · have h := h.1 c_6
      refine sv_aload_n (pc := 29) G dJ1_indexOf_4cfef_29 2 rfl ?_
      refine sv_iload_n (pc := 30) G dJ1_indexOf_4cfef_30 3 rfl ?_
      refine sv_iload_n (pc := 31) G dJ1_indexOf_4cfef_31 1 rfl ?_
      refine sv_iload_n (pc := 32) G dJ1_indexOf_4cfef_32 0 rfl ?_
      refine sv_callS (cs := 0) (sl := 0) (st := []) (As := [.ref (xt.2.1 s0), .int v1, .int v2_4, .int v3_5]) (pc := 33) G RR (c_J1_indexOfChar_4cfef hL hs0 h) mw_J1_indexOfChar_4cfef lk_J1_95 rfl ⟨(Nat.le_of_ble_eq_true rfl), (Nat.le_of_ble_eq_true rfl)⟩ ⟨(Nat.le_of_ble_eq_true rfl), (Nat.le_of_ble_eq_true rfl)⟩ (Nat.le_of_ble_eq_true rfl) rfl dJ1_indexOf_4cfef_33 (sv_kI (fun r_8 g_7 h => ?_))
      exact sv_ireturn (pc := 36) G T ⟨(Nat.le_of_ble_eq_true rfl), (Nat.le_of_ble_eq_true rfl)⟩ dJ1_indexOf_4cfef_36 ⟨_, rfl, rfl, h⟩
    · have h := h.2 c_6
      refine sv_iconst (pc := 27) G dJ1_indexOf_4cfef_27 (-1) ic_m1 ?_
      exact sv_ireturn (pc := 28) G T ⟨(Nat.le_of_ble_eq_true rfl), (Nat.le_of_ble_eq_true rfl)⟩ dJ1_indexOf_4cfef_28 ⟨_, rfl, rfl, h⟩
  · have h := h.1 c_3
    refine sv_iconst (pc := 7) G dJ1_indexOf_4cfef_7 (-1) ic_m1 ?_
    exact sv_ireturn (pc := 8) G T ⟨(Nat.le_of_ble_eq_true rfl), (Nat.le_of_ble_eq_true rfl)⟩ dJ1_indexOf_4cfef_8 ⟨_, rfl, rfl, h⟩
def wp_J0_indexOf_7cf53 (F : sv_Fr) (s0 : Nat) (v1 : Int32) (v2 : Int32) (g : sv_Mg) (Q : Int32 → sv_Mg → Prop) : Prop := wp_J0_isLatin1_aae02 F s0 g (fun r_2 g_1 => ((r_2 = 0 → False) ∧ (¬ r_2 = 0 → wp_J0_length_8abf5 F s0 g_1 (fun r_5 g_4 => wp_J1_indexOf_4cfef F s0 v1 v2 r_5 g_4 (fun r_7 g_6 => Q r_7 g_6)))))
set_option maxRecDepth 100000 in
set_option maxHeartbeats 4000000 in
theorem c_J0_indexOf_7cf53 {b : Nat} {xt : sv_Xt} {F : sv_Fr} {s0 : Nat} {v1 : Int32} {v2 : Int32} {g : sv_Mg} {Q : Int32 → sv_Mg → Prop} (hL : sv_Lay F) (hs0 : s0 < 14) (h : wp_J0_indexOf_7cf53 F s0 v1 v2 g Q) : sv_Cal yJ0_indexOf_7cf53 cJ0_indexOf_7cf53 3 (some .int) 2 48 0 0 b xt [.ref (xt.1 s0), .int v1, .int v2] F g (sv_qI F Q) := by
  refine sv_intro mw_J0_indexOf_7cf53 [(0, .ref (xt.1 s0)), (1, .int v1), (2, .int v2)] rfl (Nat.le_of_ble_eq_true rfl) (fun x G RR T NM => ?_)
  have G : sv_G x b xt RJ0 cJ0_indexOf_7cf53 3 := G
  unfold wp_J0_indexOf_7cf53 at h
  refine sv_aload_n (pc := 0) G dJ0_indexOf_7cf53_0 0 rfl ?_
  refine sv_callVS (cs := 0) (sl := 0) (st := []) (As := []) (q := s0) (pc := 1) G RR (c_J0_isLatin1_aae02 hL hs0 h) mw_J0_isLatin1_aae02 lk_J0_492 hs0 rfl rfl ⟨(Nat.le_of_ble_eq_true rfl), (Nat.le_of_ble_eq_true rfl)⟩ ⟨(Nat.le_of_ble_eq_true rfl), (Nat.le_of_ble_eq_true rfl)⟩ (Nat.le_of_ble_eq_true rfl) rfl dJ0_indexOf_7cf53_1 (sv_kI (fun r_2 g_1 h => ?_))
  refine sv_if_eq (pc := 4) G 23 (by decide) dJ0_indexOf_7cf53_4 (fun c_3 => ?_) (fun c_3 => ?_)
  · have h := h.1 c_3
    exact h.elim
  · have h := h.2 c_3
    refine sv_aload_n (pc := 7) G dJ0_indexOf_7cf53_7 0 rfl ?_
    refine sv_sval (pc := 8) G dJ0_indexOf_7cf53_8 hs0 wf_J0_9 ?_
    refine sv_iload_n (pc := 11) G dJ0_indexOf_7cf53_11 1 rfl ?_
    refine sv_iload_n (pc := 12) G dJ0_indexOf_7cf53_12 2 rfl ?_
    refine sv_aload_n (pc := 13) G dJ0_indexOf_7cf53_13 0 rfl ?_
    refine sv_callVS (cs := 0) (sl := 0) (st := [.int v2, .int v1, .ref (xt.2.1 s0)]) (As := []) (q := s0) (pc := 14) G RR (c_J0_length_8abf5 hL hs0 h) mw_J0_length_8abf5 lk_J0_505 hs0 rfl rfl ⟨(Nat.le_of_ble_eq_true rfl), (Nat.le_of_ble_eq_true rfl)⟩ ⟨(Nat.le_of_ble_eq_true rfl), (Nat.le_of_ble_eq_true rfl)⟩ (Nat.le_of_ble_eq_true rfl) rfl dJ0_indexOf_7cf53_14 (sv_kI (fun r_5 g_4 h => ?_))
    refine sv_callS (cs := 0) (sl := 0) (st := []) (As := [.ref (xt.2.1 s0), .int v1, .int v2, .int r_5]) (pc := 17) G RR (c_J1_indexOf_4cfef hL hs0 h) mw_J1_indexOf_4cfef lk_J0_637 rfl ⟨(Nat.le_of_ble_eq_true rfl), (Nat.le_of_ble_eq_true rfl)⟩ ⟨(Nat.le_of_ble_eq_true rfl), (Nat.le_of_ble_eq_true rfl)⟩ (Nat.le_of_ble_eq_true rfl) rfl dJ0_indexOf_7cf53_17 (sv_kI (fun r_7 g_6 h => ?_))
    refine sv_goto (pc := 20) G dJ0_indexOf_7cf53_20 36 (by decide) ?_
    exact sv_ireturn (pc := 36) G T ⟨(Nat.le_of_ble_eq_true rfl), (Nat.le_of_ble_eq_true rfl)⟩ dJ0_indexOf_7cf53_36 ⟨_, rfl, rfl, h⟩
def wp_J0_indexOf_0f7a4 (F : sv_Fr) (s0 : Nat) (v1 : Int32) (g : sv_Mg) (Q : Int32 → sv_Mg → Prop) : Prop := wp_J0_indexOf_7cf53 F s0 v1 0 g (fun r_2 g_1 => Q r_2 g_1)
set_option maxRecDepth 100000 in
set_option maxHeartbeats 4000000 in
theorem c_J0_indexOf_0f7a4 {b : Nat} {xt : sv_Xt} {F : sv_Fr} {s0 : Nat} {v1 : Int32} {g : sv_Mg} {Q : Int32 → sv_Mg → Prop} (hL : sv_Lay F) (hs0 : s0 < 14) (h : wp_J0_indexOf_0f7a4 F s0 v1 g Q) : sv_Cal yJ0_indexOf_0f7a4 cJ0_indexOf_0f7a4 2 (some .int) 3 70 0 0 b xt [.ref (xt.1 s0), .int v1] F g (sv_qI F Q) := by
  refine sv_intro mw_J0_indexOf_0f7a4 [(0, .ref (xt.1 s0)), (1, .int v1)] rfl (Nat.le_of_ble_eq_true rfl) (fun x G RR T NM => ?_)
  have G : sv_G x b xt RJ0 cJ0_indexOf_0f7a4 2 := G
  unfold wp_J0_indexOf_0f7a4 at h
  refine sv_aload_n (pc := 0) G dJ0_indexOf_0f7a4_0 0 rfl ?_
  refine sv_iload_n (pc := 1) G dJ0_indexOf_0f7a4_1 1 rfl ?_
  refine sv_iconst (pc := 2) G dJ0_indexOf_0f7a4_2 0 ic_0 ?_
  refine sv_callVS (cs := 0) (sl := 0) (st := []) (As := [.int v1, .int 0]) (q := s0) (pc := 3) G RR (c_J0_indexOf_7cf53 hL hs0 h) mw_J0_indexOf_7cf53 lk_J0_633 hs0 rfl rfl ⟨(Nat.le_of_ble_eq_true rfl), (Nat.le_of_ble_eq_true rfl)⟩ ⟨(Nat.le_of_ble_eq_true rfl), (Nat.le_of_ble_eq_true rfl)⟩ (Nat.le_of_ble_eq_true rfl) rfl dJ0_indexOf_0f7a4_3 (sv_kI (fun r_2 g_1 h => ?_))
  exact sv_ireturn (pc := 6) G T ⟨(Nat.le_of_ble_eq_true rfl), (Nat.le_of_ble_eq_true rfl)⟩ dJ0_indexOf_0f7a4_6 ⟨_, rfl, rfl, h⟩
def wp_X3_isOneOf (F : sv_Fr) (s1 : Nat) (g : sv_Mg) (Q : Int32 → sv_Mg → Prop) : Prop := (((g 4 2) = 3 → wp_J0_indexOf_0f7a4 F s1 (((g 4 5).toUInt32 % 65536).toInt32) g (fun r_3 g_2 => ((r_3 < 0 → Q 0 g_2) ∧ (¬ r_3 < 0 → Q 1 g_2)))) ∧ (¬ (g 4 2) = 3 → Q 0 g))
set_option maxRecDepth 100000 in
set_option maxHeartbeats 4000000 in
theorem c_X3_isOneOf {b : Nat} {xt : sv_Xt} {F : sv_Fr} {s1 : Nat} {g : sv_Mg} {Q : Int32 → sv_Mg → Prop} (hL : sv_Lay F) (hs1 : s1 < 14) (h : wp_X3_isOneOf F s1 g Q) : sv_Cal yX3_isOneOf cX3_isOneOf 2 (some .boolean) 4 91 0 0 b xt [.ref (b + 4), .ref (xt.1 s1)] F g (sv_qI F Q) := by
  refine sv_intro mw_X3_isOneOf [(0, .ref (b + 4)), (1, .ref (xt.1 s1))] rfl (Nat.le_of_ble_eq_true rfl) (fun x G RR T NM => ?_)
  have G : sv_G x b xt RX3 cX3_isOneOf 2 := G
  unfold wp_X3_isOneOf at h
  refine sv_aload_n (pc := 0) G dX3_isOneOf_0 0 rfl ?_
  refine sv_getI (pc := 1) G fw_X3_19 (hL.sh rfl) rfl dX3_isOneOf_1 ?_
  refine sv_iconst (pc := 4) G dX3_isOneOf_4 3 ic_3 ?_
  refine sv_ic_ne (pc := 5) G 24 (by decide) dX3_isOneOf_5 (fun c_1 => ?_) (fun c_1 => ?_)
  · have h := h.2 c_1
    refine sv_iconst (pc := 24) G dX3_isOneOf_24 0 ic_0 ?_
    exact sv_zreturn (pc := 25) G T (Or.inl rfl) ⟨(Nat.le_of_ble_eq_true rfl), (Nat.le_of_ble_eq_true rfl)⟩ dX3_isOneOf_25 ⟨_, rfl, rfl, h⟩
  · have h := h.1 c_1
    refine sv_aload_n (pc := 8) G dX3_isOneOf_8 1 rfl ?_
    refine sv_aload_n (pc := 9) G dX3_isOneOf_9 0 rfl ?_
    refine sv_getI (pc := 10) G fw_X3_28 (hL.sh rfl) rfl dX3_isOneOf_10 ?_
    refine sv_i2c (pc := 13) G dX3_isOneOf_13 ?_
    refine sv_callVS (cs := 0) (sl := 0) (st := []) (As := [.int (((g 4 5).toUInt32 % 65536).toInt32)]) (q := s1) (pc := 14) G RR (c_J0_indexOf_0f7a4 hL hs1 h) mw_J0_indexOf_0f7a4 lk_X3_128 hs1 rfl rfl ⟨(Nat.le_of_ble_eq_true rfl), (Nat.le_of_ble_eq_true rfl)⟩ ⟨(Nat.le_of_ble_eq_true rfl), (Nat.le_of_ble_eq_true rfl)⟩ (Nat.le_of_ble_eq_true rfl) rfl dX3_isOneOf_14 (sv_kI (fun r_3 g_2 h => ?_))
    refine sv_if_lt (pc := 17) G 24 (by decide) dX3_isOneOf_17 (fun c_4 => ?_) (fun c_4 => ?_)
    · have h := h.1 c_4
      refine sv_iconst (pc := 24) G dX3_isOneOf_24 0 ic_0 ?_
      exact sv_zreturn (pc := 25) G T (Or.inl rfl) ⟨(Nat.le_of_ble_eq_true rfl), (Nat.le_of_ble_eq_true rfl)⟩ dX3_isOneOf_25 ⟨_, rfl, rfl, h⟩
    · have h := h.2 c_4
      refine sv_iconst (pc := 20) G dX3_isOneOf_20 1 ic_1 ?_
      refine sv_goto (pc := 21) G dX3_isOneOf_21 25 (by decide) ?_
      exact sv_zreturn (pc := 25) G T (Or.inr rfl) ⟨(Nat.le_of_ble_eq_true rfl), (Nat.le_of_ble_eq_true rfl)⟩ dX3_isOneOf_25 ⟨_, rfl, rfl, h⟩
def wp_X3_signsOf (F : sv_Fr) (v0 : Int32) (g : sv_Mg) (Q : Nat → sv_Mg → Prop) : Prop := ((v0 = 0 → Q 9 g) ∧ (¬ v0 = 0 → ((v0 = 1 → Q 10 g) ∧ (¬ v0 = 1 → ((v0 = 2 → Q 11 g) ∧ (¬ v0 = 2 → ((v0 = 3 → Q 12 g) ∧ (¬ v0 = 3 → Q 13 g))))))))
set_option maxRecDepth 100000 in
set_option maxHeartbeats 4000000 in
theorem c_X3_signsOf {b : Nat} {xt : sv_Xt} {F : sv_Fr} {v0 : Int32} {g : sv_Mg} {Q : Nat → sv_Mg → Prop} (hL : sv_Lay F) (h : wp_X3_signsOf F v0 g Q) : sv_Cal yX3_signsOf cX3_signsOf 1 (some (.object "java/lang/String")) 0 0 0 0 b xt [.int v0] F g (sv_qS xt F Q) := by
  refine sv_intro mw_X3_signsOf [(0, .int v0)] rfl (Nat.le_of_ble_eq_true rfl) (fun x G RR T NM => ?_)
  have G : sv_G x b xt RX3 cX3_signsOf 1 := G
  unfold wp_X3_signsOf at h
  refine sv_iload_n (pc := 0) G dX3_signsOf_0 0 rfl ?_
  by_cases c_1 : v0 = 0
  · have h := h.1 c_1
    refine sv_tsw (pc := 1) G dX3_signsOf_1 0 (by rw [c_1]; decide) 32 (by decide) (by decide) rfl (by decide) ?_
    refine sv_ldcS (q := 9) (tx := "|") (pc := 32) G dX3_signsOf_32 ⟨rfl, List.mem_of_getElem? (i := 9) rfl⟩ ?_
    exact sv_areturn (pc := 34) G T rfl ⟨(Nat.le_of_ble_eq_true rfl), (Nat.le_of_ble_eq_true rfl)⟩ dX3_signsOf_34 ⟨_, (by decide), rfl, rfl, h⟩
  · have h := h.2 c_1
    by_cases c_2 : v0 = 1
    · have h := h.1 c_2
      refine sv_tsw (pc := 1) G dX3_signsOf_1 1 (by rw [c_2]; decide) 35 (by decide) (by decide) rfl (by decide) ?_
      refine sv_ldcS (q := 10) (tx := "&") (pc := 35) G dX3_signsOf_35 ⟨rfl, List.mem_of_getElem? (i := 10) rfl⟩ ?_
      exact sv_areturn (pc := 37) G T rfl ⟨(Nat.le_of_ble_eq_true rfl), (Nat.le_of_ble_eq_true rfl)⟩ dX3_signsOf_37 ⟨_, (by decide), rfl, rfl, h⟩
    · have h := h.2 c_2
      by_cases c_3 : v0 = 2
      · have h := h.1 c_3
        refine sv_tsw (pc := 1) G dX3_signsOf_1 2 (by rw [c_3]; decide) 38 (by decide) (by decide) rfl (by decide) ?_
        refine sv_ldcS (q := 11) (tx := "<=>") (pc := 38) G dX3_signsOf_38 ⟨rfl, List.mem_of_getElem? (i := 11) rfl⟩ ?_
        exact sv_areturn (pc := 40) G T rfl ⟨(Nat.le_of_ble_eq_true rfl), (Nat.le_of_ble_eq_true rfl)⟩ dX3_signsOf_40 ⟨_, (by decide), rfl, rfl, h⟩
      · have h := h.2 c_3
        by_cases c_4 : v0 = 3
        · have h := h.1 c_4
          refine sv_tsw (pc := 1) G dX3_signsOf_1 3 (by rw [c_4]; decide) 41 (by decide) (by decide) rfl (by decide) ?_
          refine sv_ldcS (q := 12) (tx := "+-") (pc := 41) G dX3_signsOf_41 ⟨rfl, List.mem_of_getElem? (i := 12) rfl⟩ ?_
          exact sv_areturn (pc := 43) G T rfl ⟨(Nat.le_of_ble_eq_true rfl), (Nat.le_of_ble_eq_true rfl)⟩ dX3_signsOf_43 ⟨_, (by decide), rfl, rfl, h⟩
        · have h := h.2 c_4
          refine sv_tswD (pc := 1) G dX3_signsOf_1 (by have qc_1 := lv_neT (a := 0) c_1 (by decide); have qc_2 := lv_neT (a := 1) c_2 (by decide); have qc_3 := lv_neT (a := 2) c_3 (by decide); have qc_4 := lv_neT (a := 3) c_4 (by decide); omega) 44 (by decide) ?_
          refine sv_ldcS (q := 13) (tx := "*/") (pc := 44) G dX3_signsOf_44 ⟨rfl, List.mem_of_getElem? (i := 13) rfl⟩ ?_
          exact sv_areturn (pc := 46) G T rfl ⟨(Nat.le_of_ble_eq_true rfl), (Nat.le_of_ble_eq_true rfl)⟩ dX3_signsOf_46 ⟨_, (by decide), rfl, rfl, h⟩
def wp_X3_addLeaf (F : sv_Fr) (v1 : Int32) (g : sv_Mg) (Q : Int32 → sv_Mg → Prop) : Prop := ∀ g_1, g_1 = sv_st g 4 7 ((g 4 7) + 1) → wp_X3_next F  g_1 (fun g_2 => wp_X3_add F v1 g_2 (fun r_4 g_3 => (r_4 = 0 ∨ r_4 = 1) ∧ Q r_4 g_3))
set_option maxRecDepth 100000 in
set_option maxHeartbeats 4000000 in
theorem c_X3_addLeaf {b : Nat} {xt : sv_Xt} {F : sv_Fr} {v1 : Int32} {g : sv_Mg} {Q : Int32 → sv_Mg → Prop} (hL : sv_Lay F) (h : wp_X3_addLeaf F v1 g Q) : sv_Cal yX3_addLeaf cX3_addLeaf 2 (some .boolean) 3 63 0 0 b xt [.ref (b + 4), .int v1] F g (sv_qI F Q) := by
  refine sv_intro mw_X3_addLeaf [(0, .ref (b + 4)), (1, .int v1)] rfl (Nat.le_of_ble_eq_true rfl) (fun x G RR T NM => ?_)
  have G : sv_G x b xt RX3 cX3_addLeaf 2 := G
  unfold wp_X3_addLeaf at h
  refine sv_aload_n (pc := 0) G dX3_addLeaf_0 0 rfl ?_
  refine sv_dup (pc := 1) G dX3_addLeaf_1 rfl ?_
  refine sv_getI (pc := 2) G fw_X3_34 (hL.sh rfl) rfl dX3_addLeaf_2 ?_
  refine sv_iconst (pc := 5) G dX3_addLeaf_5 1 ic_1 ?_
  refine sv_iadd (pc := 6) G dX3_addLeaf_6 ?_
  refine sv_putI (pc := 7) G fw_X3_34 (hL.sh rfl) rfl dX3_addLeaf_7 (fun g_1 eg_1 => ?_)
  have h := h g_1 eg_1
  refine sv_aload_n (pc := 10) G dX3_addLeaf_10 0 rfl ?_
  refine sv_callV (cs := 0) (sl := 0) (st := []) (As := []) (a := 4) (pc := 11) G RR (c_X3_next hL  h) mw_X3_next lk_X3_43 (hL.sh rfl) (by decide) rfl rfl ⟨(Nat.le_of_ble_eq_true rfl), (Nat.le_of_ble_eq_true rfl)⟩ ⟨(Nat.le_of_ble_eq_true rfl), (Nat.le_of_ble_eq_true rfl)⟩ (Nat.le_of_ble_eq_true rfl) rfl dX3_addLeaf_11 (sv_kV (fun g_2 h => ?_))
  refine sv_aload_n (pc := 14) G dX3_addLeaf_14 0 rfl ?_
  refine sv_iload_n (pc := 15) G dX3_addLeaf_15 1 rfl ?_
  refine sv_callV (cs := 0) (sl := 0) (st := []) (As := [.int v1]) (a := 4) (pc := 16) G RR (c_X3_add hL  h) mw_X3_add lk_X3_124 (hL.sh rfl) (by decide) rfl rfl ⟨(Nat.le_of_ble_eq_true rfl), (Nat.le_of_ble_eq_true rfl)⟩ ⟨(Nat.le_of_ble_eq_true rfl), (Nat.le_of_ble_eq_true rfl)⟩ (Nat.le_of_ble_eq_true rfl) rfl dX3_addLeaf_16 (sv_kI (fun r_4 g_3 h => ?_))
  obtain ⟨s_5, h⟩ := h
  exact sv_zreturn (pc := 19) G T s_5 ⟨(Nat.le_of_ble_eq_true rfl), (Nat.le_of_ble_eq_true rfl)⟩ dX3_addLeaf_19 ⟨_, rfl, rfl, h⟩
def wp_X3_namesOfKey (F : sv_Fr) (v0 : Int32) (g : sv_Mg) (Q : Nat → sv_Mg → Prop) : Prop := ((v0 = 0 → Q 3 g) ∧ (¬ v0 = 0 → ((v0 = 1 → Q 4 g) ∧ (¬ v0 = 1 → Q 5 g))))
set_option maxRecDepth 100000 in
set_option maxHeartbeats 4000000 in
theorem c_X3_namesOfKey {b : Nat} {xt : sv_Xt} {F : sv_Fr} {v0 : Int32} {g : sv_Mg} {Q : Nat → sv_Mg → Prop} (hL : sv_Lay F) (h : wp_X3_namesOfKey F v0 g Q) : sv_Cal yX3_namesOfKey cX3_namesOfKey 1 (some (.object "java/lang/String")) 0 0 0 0 b xt [.int v0] F g (sv_qS xt F Q) := by
  refine sv_intro mw_X3_namesOfKey [(0, .int v0)] rfl (Nat.le_of_ble_eq_true rfl) (fun x G RR T NM => ?_)
  have G : sv_G x b xt RX3 cX3_namesOfKey 1 := G
  unfold wp_X3_namesOfKey at h
  refine sv_iload_n (pc := 0) G dX3_namesOfKey_0 0 rfl ?_
  by_cases c_1 : v0 = 0
  · have h := h.1 c_1
    refine sv_lsw (off := 27) (pc := 1) G dX3_namesOfKey_1 28 (by decide) (by rw [c_1]; decide) (by decide) ?_
    refine sv_ldcS (q := 3) (tx := "frp") (pc := 28) G dX3_namesOfKey_28 ⟨rfl, List.mem_of_getElem? (i := 3) rfl⟩ ?_
    exact sv_areturn (pc := 30) G T rfl ⟨(Nat.le_of_ble_eq_true rfl), (Nat.le_of_ble_eq_true rfl)⟩ dX3_namesOfKey_30 ⟨_, (by decide), rfl, rfl, h⟩
  · have h := h.2 c_1
    by_cases c_2 : v0 = 1
    · have h := h.1 c_2
      refine sv_lsw (off := 30) (pc := 1) G dX3_namesOfKey_1 31 (by decide) (by rw [c_2]; decide) (by decide) ?_
      refine sv_ldcS (q := 4) (tx := "rw") (pc := 31) G dX3_namesOfKey_31 ⟨rfl, List.mem_of_getElem? (i := 4) rfl⟩ ?_
      exact sv_areturn (pc := 33) G T rfl ⟨(Nat.le_of_ble_eq_true rfl), (Nat.le_of_ble_eq_true rfl)⟩ dX3_namesOfKey_33 ⟨_, (by decide), rfl, rfl, h⟩
    · have h := h.2 c_2
      refine sv_lsw (off := 33) (pc := 1) G dX3_namesOfKey_1 34 (by decide) (by show Op.lookupswitch.offset [(0, 27), (1, 30)] _ _ = _; rw [lv_osw c_1 (by decide), lv_osw c_2 (by decide)]; rfl) (by decide) ?_
      refine sv_ldcS (q := 5) (tx := "fw") (pc := 34) G dX3_namesOfKey_34 ⟨rfl, List.mem_of_getElem? (i := 5) rfl⟩ ?_
      exact sv_areturn (pc := 36) G T rfl ⟨(Nat.le_of_ble_eq_true rfl), (Nat.le_of_ble_eq_true rfl)⟩ dX3_namesOfKey_36 ⟨_, (by decide), rfl, rfl, h⟩
def wp_X3_readClosing (F : sv_Fr) (g : sv_Mg) (Q : Int32 → sv_Mg → Prop) : Prop := wp_X3_isOneOf F 8 g (fun r_2 g_1 => ((r_2 = 0 → Q 0 g_1) ∧ (¬ r_2 = 0 → wp_X3_next F  g_1 (fun g_4 => Q 1 g_4))))
set_option maxRecDepth 100000 in
set_option maxHeartbeats 4000000 in
theorem c_X3_readClosing {b : Nat} {xt : sv_Xt} {F : sv_Fr} {g : sv_Mg} {Q : Int32 → sv_Mg → Prop} (hL : sv_Lay F) (h : wp_X3_readClosing F g Q) : sv_Cal yX3_readClosing cX3_readClosing 1 (some .boolean) 5 112 0 0 b xt [.ref (b + 4)] F g (sv_qI F Q) := by
  refine sv_intro mw_X3_readClosing [(0, .ref (b + 4))] rfl (Nat.le_of_ble_eq_true rfl) (fun x G RR T NM => ?_)
  have G : sv_G x b xt RX3 cX3_readClosing 1 := G
  unfold wp_X3_readClosing at h
  refine sv_aload_n (pc := 0) G dX3_readClosing_0 0 rfl ?_
  refine sv_ldcS (q := 8) (tx := ")") (pc := 1) G dX3_readClosing_1 ⟨rfl, List.mem_of_getElem? (i := 8) rfl⟩ ?_
  refine sv_callV (cs := 0) (sl := 0) (st := []) (As := [.ref (xt.1 8)]) (a := 4) (pc := 3) G RR (c_X3_isOneOf hL (by decide) h) mw_X3_isOneOf lk_X3_121 (hL.sh rfl) (by decide) rfl rfl ⟨(Nat.le_of_ble_eq_true rfl), (Nat.le_of_ble_eq_true rfl)⟩ ⟨(Nat.le_of_ble_eq_true rfl), (Nat.le_of_ble_eq_true rfl)⟩ (Nat.le_of_ble_eq_true rfl) rfl dX3_readClosing_3 (sv_kI (fun r_2 g_1 h => ?_))
  refine sv_if_ne (pc := 6) G 11 (by decide) dX3_readClosing_6 (fun c_3 => ?_) (fun c_3 => ?_)
  · have h := h.2 c_3
    refine sv_aload_n (pc := 11) G dX3_readClosing_11 0 rfl ?_
    refine sv_callV (cs := 0) (sl := 0) (st := []) (As := []) (a := 4) (pc := 12) G RR (c_X3_next hL  h) mw_X3_next lk_X3_43 (hL.sh rfl) (by decide) rfl rfl ⟨(Nat.le_of_ble_eq_true rfl), (Nat.le_of_ble_eq_true rfl)⟩ ⟨(Nat.le_of_ble_eq_true rfl), (Nat.le_of_ble_eq_true rfl)⟩ (Nat.le_of_ble_eq_true rfl) rfl dX3_readClosing_12 (sv_kV (fun g_4 h => ?_))
    refine sv_iconst (pc := 15) G dX3_readClosing_15 1 ic_1 ?_
    exact sv_zreturn (pc := 16) G T (Or.inr rfl) ⟨(Nat.le_of_ble_eq_true rfl), (Nat.le_of_ble_eq_true rfl)⟩ dX3_readClosing_16 ⟨_, rfl, rfl, h⟩
  · have h := h.1 c_3
    refine sv_iconst (pc := 9) G dX3_readClosing_9 0 ic_0 ?_
    exact sv_zreturn (pc := 10) G T (Or.inl rfl) ⟨(Nat.le_of_ble_eq_true rfl), (Nat.le_of_ble_eq_true rfl)⟩ dX3_readClosing_10 ⟨_, rfl, rfl, h⟩
def wp_X3_readChain_42 (F : sv_Fr) (RC : Bool → Int32 → Int32 → Int32 → sv_Mg → (Int32 → sv_Mg → Prop) → Prop) (Q : Int32 → sv_Mg → Prop) : Nat → Int32 → Int32 → Int32 → Int32 → Int32 → sv_Mg → Prop
  | 0, _, _, _, _, _, _ => False
  | n + 1, v1, v2, v3, v4, v5, g => ((v4 ≤ v5 → Q 1 g) ∧ (¬ v4 ≤ v5 → wp_X3_signsOf F v1 g (fun k_3 g_2 => wp_X3_isOneOf F k_3 g_2 (fun r_5 g_4 => ((r_5 = 0 → Q 1 g_4) ∧ (¬ r_5 = 0 → ∀ v6_7 : Int32, v6_7 = (g_4 4 5) → wp_X3_next F  g_4 (fun g_8 => RC true (v1 + 1) v2 v3 g_8 (fun r_10 g_9 => ((r_10 = 0 → Q 0 g_9) ∧ (¬ r_10 = 0 → wp_X3_add F (20000 + v6_7) g_9 (fun r_13 g_12 => ∀ v5_14 : Int32, v5_14 = v5 + 1 → (wp_X3_readChain_42 F RC Q  n) v1 v2 v3 v4 v5_14 g_12)))))))))))
def wp_X3_readChain_37 (F : sv_Fr) (RC : Bool → Int32 → Int32 → Int32 → sv_Mg → (Int32 → sv_Mg → Prop) → Prop) (Q : Int32 → sv_Mg → Prop) (v1 : Int32) (v2 : Int32) (v3 : Int32) (s0 : Int32) (g : sv_Mg) : Prop := ∃ n_15, wp_X3_readChain_42 F  RC Q  n_15 v1 v2 v3 s0 0 g
def wp_X3_readChain (F : sv_Fr) (RC : Bool → Int32 → Int32 → Int32 → sv_Mg → (Int32 → sv_Mg → Prop) → Prop) (v1 : Int32) (v2 : Int32) (v3 : Int32) (g : sv_Mg) (Q : Int32 → sv_Mg → Prop) : Prop := ((v1 ≤ 4 → RC true (v1 + 1) v2 v3 g (fun r_18 g_17 => ((r_18 = 0 → Q 0 g_17) ∧ (¬ r_18 = 0 → ((v1 = 2 → wp_X3_readChain_37 F  RC Q  v1 v2 v3 1 g_17) ∧ (¬ v1 = 2 → wp_X3_readChain_37 F  RC Q  v1 v2 v3 96 g_17)))))) ∧ (¬ v1 ≤ 4 → RC false v2 v3 0 g (fun r_22 g_21 => (r_22 = 0 ∨ r_22 = 1) ∧ Q r_22 g_21)))
set_option maxRecDepth 100000 in
set_option maxHeartbeats 4000000 in
theorem aw_X3_readChain_42 {x : sv_X} {b : Nat} {xt : sv_Xt} {F : sv_Fr} {RC : Bool → Int32 → Int32 → Int32 → sv_Mg → (Int32 → sv_Mg → Prop) → Prop} {Q : Int32 → sv_Mg → Prop} {fr lo fr1 lo1 : Nat} (hF1 : 5 ≤ fr1) (hF2 : 112 ≤ lo1) (hF3 : fr + 1 ≤ fr1) (hF4 : 8 + (20 + 11) + lo ≤ lo1) (hRC0 : ∀ (v1 v2 v3 : Int32) (g : sv_Mg) (Q : Int32 → sv_Mg → Prop), RC true v1 v2 v3 g Q → sv_Cal yX3_readChain cX3_readChain 7 (some .boolean) fr lo 0 0 b xt [.ref (b + 4), .int v1, .int v2, .int v3] F g (sv_qI F Q)) (hRC1 : ∀ (v1 v2 v3 : Int32) (g : sv_Mg) (Q : Int32 → sv_Mg → Prop), RC false v1 v2 v3 g Q → sv_Cal yX3_readPiece cX3_readPiece 4 (some .boolean) fr lo 0 0 b xt [.ref (b + 4), .int v1, .int v2] F g (sv_qI F Q)) (G : sv_G x b xt RX3 cX3_readChain 7) (RR : sv_R x fr1 lo1 0 0) (T : sv_RT x (some .boolean)) (hL : sv_Lay F) : ∀ (n : Nat) (v1 : Int32) (v2 : Int32) (v3 : Int32) (v4 : Int32) (v5 : Int32) (g : sv_Mg), wp_X3_readChain_42 F RC Q  n v1 v2 v3 v4 v5 g → sv_AW x (sv_Q x (sv_qI F Q) 0 0) F g 0 0 42 [(0, .ref (b + 4)), (1, .int v1), (2, .int v2), (3, .int v3), (4, .int v4), (5, .int v5)] [] := by
  intro n
  induction n with
  | zero => intro v1 v2 v3 v4 v5 g h; exact h.elim
  | succ n ih =>
    intro v1 v2 v3 v4 v5 g h
    rw [wp_X3_readChain_42] at h
    refine sv_iload (pc := 42) G dX3_readChain_42 5 rfl ?_
    refine sv_iload (pc := 44) G dX3_readChain_44 4 rfl ?_
    refine sv_ic_ge (pc := 46) G 101 (by decide) dX3_readChain_46 (fun c_1 => ?_) (fun c_1 => ?_)
    · have h := h.1 c_1
      refine sv_iconst (pc := 101) G dX3_readChain_101 1 ic_1 ?_
      exact sv_zreturn (pc := 102) G T (Or.inr rfl) ⟨(Nat.le_of_ble_eq_true rfl), (Nat.le_of_ble_eq_true rfl)⟩ dX3_readChain_102 ⟨_, rfl, rfl, h⟩
    · have h := h.2 c_1
      refine sv_aload_n (pc := 49) G dX3_readChain_49 0 rfl ?_
      refine sv_iload_n (pc := 50) G dX3_readChain_50 1 rfl ?_
      refine sv_callS (cs := 0) (sl := 0) (st := [.ref (b + 4)]) (As := [.int v1]) (pc := 51) G RR (c_X3_signsOf hL  h) mw_X3_signsOf lk_X3_118 rfl ⟨Nat.le_trans (Nat.le_of_ble_eq_true rfl) hF1, Nat.le_trans (Nat.le_of_ble_eq_true rfl) hF2⟩ ⟨(Nat.le_of_ble_eq_true rfl), (Nat.le_of_ble_eq_true rfl)⟩ (Nat.le_of_ble_eq_true rfl) rfl dX3_readChain_51 (sv_kS (fun k_3 g_2 hk_3 h => ?_))
      refine sv_callV (cs := 0) (sl := 0) (st := []) (As := [.ref (xt.1 k_3)]) (a := 4) (pc := 54) G RR (c_X3_isOneOf hL hk_3 h) mw_X3_isOneOf lk_X3_121 (hL.sh rfl) (by decide) rfl rfl ⟨Nat.le_trans (Nat.le_of_ble_eq_true rfl) hF1, Nat.le_trans (Nat.le_of_ble_eq_true rfl) hF2⟩ ⟨(Nat.le_of_ble_eq_true rfl), (Nat.le_of_ble_eq_true rfl)⟩ (Nat.le_of_ble_eq_true rfl) rfl dX3_readChain_54 (sv_kI (fun r_5 g_4 h => ?_))
      refine sv_if_eq (pc := 57) G 101 (by decide) dX3_readChain_57 (fun c_6 => ?_) (fun c_6 => ?_)
      · have h := h.1 c_6
        refine sv_iconst (pc := 101) G dX3_readChain_101 1 ic_1 ?_
        exact sv_zreturn (pc := 102) G T (Or.inr rfl) ⟨(Nat.le_of_ble_eq_true rfl), (Nat.le_of_ble_eq_true rfl)⟩ dX3_readChain_102 ⟨_, rfl, rfl, h⟩
      · have h := h.2 c_6
        refine sv_aload_n (pc := 60) G dX3_readChain_60 0 rfl ?_
        refine sv_getI (pc := 61) G fw_X3_28 (hL.sh rfl) rfl dX3_readChain_61 ?_
        refine sv_topi (fun v6_7 ev6_7 => ?_)
        have h := h v6_7 ev6_7
        refine sv_istore (pc := 64) G dX3_readChain_64 [(6, .int v6_7), (0, .ref (b + 4)), (1, .int v1), (2, .int v2), (3, .int v3), (4, .int v4), (5, .int v5)] (by decide) rfl ?_
        refine sv_aload_n (pc := 66) G dX3_readChain_66 1 rfl ?_
        refine sv_callV (cs := 0) (sl := 0) (st := []) (As := []) (a := 4) (pc := 67) G RR (c_X3_next hL  h) mw_X3_next lk_X3_43 (hL.sh rfl) (by decide) rfl rfl ⟨Nat.le_trans (Nat.le_of_ble_eq_true rfl) hF1, Nat.le_trans (Nat.le_of_ble_eq_true rfl) hF2⟩ ⟨(Nat.le_of_ble_eq_true rfl), (Nat.le_of_ble_eq_true rfl)⟩ (Nat.le_of_ble_eq_true rfl) rfl dX3_readChain_67 (sv_kV (fun g_8 h => ?_))
        refine sv_aload_n (pc := 70) G dX3_readChain_70 1 rfl ?_
        refine sv_iload_n (pc := 71) G dX3_readChain_71 2 rfl ?_
        refine sv_iconst (pc := 72) G dX3_readChain_72 1 ic_1 ?_
        refine sv_iadd (pc := 73) G dX3_readChain_73 ?_
        refine sv_iload_n (pc := 74) G dX3_readChain_74 3 rfl ?_
        refine sv_iload_n (pc := 75) G dX3_readChain_75 4 rfl ?_
        refine sv_callV (cs := 0) (sl := 0) (st := []) (As := [.int (v1 + 1), .int v2, .int v3]) (a := 4) (pc := 76) G RR (hRC0 (v1 + 1) v2 v3 _ _ h) mw_X3_readChain lk_X3_50 (hL.sh rfl) (by decide) rfl rfl ⟨hF3, (by omega)⟩ ⟨(Nat.le_of_ble_eq_true rfl), (Nat.le_of_ble_eq_true rfl)⟩ (Nat.le_of_ble_eq_true rfl) rfl dX3_readChain_76 (sv_kI (fun r_10 g_9 h => ?_))
        refine sv_if_ne (pc := 79) G 84 (by decide) dX3_readChain_79 (fun c_11 => ?_) (fun c_11 => ?_)
        · have h := h.2 c_11
          refine sv_aload_n (pc := 84) G dX3_readChain_84 1 rfl ?_
          refine sv_sipush (pc := 85) G dX3_readChain_85 20000 sp_20000 ?_
          refine sv_iload (pc := 88) G dX3_readChain_88 0 rfl ?_
          refine sv_iadd (pc := 90) G dX3_readChain_90 ?_
          refine sv_callV (cs := 0) (sl := 0) (st := []) (As := [.int (20000 + v6_7)]) (a := 4) (pc := 91) G RR (c_X3_add hL  h) mw_X3_add lk_X3_124 (hL.sh rfl) (by decide) rfl rfl ⟨Nat.le_trans (Nat.le_of_ble_eq_true rfl) hF1, Nat.le_trans (Nat.le_of_ble_eq_true rfl) hF2⟩ ⟨(Nat.le_of_ble_eq_true rfl), (Nat.le_of_ble_eq_true rfl)⟩ (Nat.le_of_ble_eq_true rfl) rfl dX3_readChain_91 (sv_kI (fun r_13 g_12 h => ?_))
          refine sv_pop (pc := 94) G dX3_readChain_94 rfl ?_
          obtain ⟨v5_14, ev5_14⟩ : ∃ y : Int32, y = v5 + 1 := ⟨_, rfl⟩
          have h := h v5_14 ev5_14
          refine sv_iinc (pc := 95) G dX3_readChain_95 6 v5_14 [(5, .int v5_14), (6, .int v6_7), (0, .ref (b + 4)), (1, .int v1), (2, .int v2), (3, .int v3), (4, .int v4)] (by rw [ev5_14, ic_1]) rfl (by decide) rfl ?_
          refine sv_goto (pc := 98) G dX3_readChain_98 42 (by decide) ?_
          refine sv_locs [2, 3, 4, 5, 6, 0] [(0, .ref (b + 4)), (1, .int v1), (2, .int v2), (3, .int v3), (4, .int v4), (5, .int v5_14)] rfl ?_
          exact ih v1 v2 v3 v4 v5_14 g_12  h
        · have h := h.1 c_11
          refine sv_iconst (pc := 82) G dX3_readChain_82 0 ic_0 ?_
          exact sv_zreturn (pc := 83) G T (Or.inl rfl) ⟨(Nat.le_of_ble_eq_true rfl), (Nat.le_of_ble_eq_true rfl)⟩ dX3_readChain_83 ⟨_, rfl, rfl, h⟩
set_option maxRecDepth 100000 in
set_option maxHeartbeats 4000000 in
theorem aw_X3_readChain_37 {x : sv_X} {b : Nat} {xt : sv_Xt} {F : sv_Fr} {RC : Bool → Int32 → Int32 → Int32 → sv_Mg → (Int32 → sv_Mg → Prop) → Prop} {Q : Int32 → sv_Mg → Prop} {fr lo fr1 lo1 : Nat} (hF1 : 5 ≤ fr1) (hF2 : 112 ≤ lo1) (hF3 : fr + 1 ≤ fr1) (hF4 : 8 + (20 + 11) + lo ≤ lo1) (hRC0 : ∀ (v1 v2 v3 : Int32) (g : sv_Mg) (Q : Int32 → sv_Mg → Prop), RC true v1 v2 v3 g Q → sv_Cal yX3_readChain cX3_readChain 7 (some .boolean) fr lo 0 0 b xt [.ref (b + 4), .int v1, .int v2, .int v3] F g (sv_qI F Q)) (hRC1 : ∀ (v1 v2 v3 : Int32) (g : sv_Mg) (Q : Int32 → sv_Mg → Prop), RC false v1 v2 v3 g Q → sv_Cal yX3_readPiece cX3_readPiece 4 (some .boolean) fr lo 0 0 b xt [.ref (b + 4), .int v1, .int v2] F g (sv_qI F Q)) (G : sv_G x b xt RX3 cX3_readChain 7) (RR : sv_R x fr1 lo1 0 0) (T : sv_RT x (some .boolean)) (hL : sv_Lay F) : ∀ (v1 : Int32) (v2 : Int32) (v3 : Int32) (s0 : Int32) (g : sv_Mg), wp_X3_readChain_37 F RC Q  v1 v2 v3 s0 g → sv_AW x (sv_Q x (sv_qI F Q) 0 0) F g 0 0 37 [(0, .ref (b + 4)), (1, .int v1), (2, .int v2), (3, .int v3)] [.int s0] := by
  intro v1 v2 v3 s0 g h
  unfold wp_X3_readChain_37 at h
  refine sv_istore (pc := 37) G dX3_readChain_37 [(4, .int s0), (0, .ref (b + 4)), (1, .int v1), (2, .int v2), (3, .int v3)] (by decide) rfl ?_
  refine sv_iconst (pc := 39) G dX3_readChain_39 0 ic_0 ?_
  refine sv_istore (pc := 40) G dX3_readChain_40 [(5, .int 0), (4, .int s0), (0, .ref (b + 4)), (1, .int v1), (2, .int v2), (3, .int v3)] (by decide) rfl ?_
  refine sv_locs [2, 3, 4, 5, 1, 0] [(0, .ref (b + 4)), (1, .int v1), (2, .int v2), (3, .int v3), (4, .int s0), (5, .int 0)] rfl ?_
  obtain ⟨n_15, h⟩ := h
  exact aw_X3_readChain_42 hF1 hF2 hF3 hF4 hRC0 hRC1 G RR T hL   n_15 v1 v2 v3 s0 0 g  h
set_option maxRecDepth 100000 in
set_option maxHeartbeats 4000000 in
theorem c_X3_readChain {b : Nat} {xt : sv_Xt} {F : sv_Fr} {RC : Bool → Int32 → Int32 → Int32 → sv_Mg → (Int32 → sv_Mg → Prop) → Prop} {v1 : Int32} {v2 : Int32} {v3 : Int32} {g : sv_Mg} {Q : Int32 → sv_Mg → Prop} {fr lo fr1 lo1 : Nat} (hF1 : 5 ≤ fr1) (hF2 : 112 ≤ lo1) (hF3 : fr + 1 ≤ fr1) (hF4 : 8 + (20 + 11) + lo ≤ lo1) (hRC0 : ∀ (v1 v2 v3 : Int32) (g : sv_Mg) (Q : Int32 → sv_Mg → Prop), RC true v1 v2 v3 g Q → sv_Cal yX3_readChain cX3_readChain 7 (some .boolean) fr lo 0 0 b xt [.ref (b + 4), .int v1, .int v2, .int v3] F g (sv_qI F Q)) (hRC1 : ∀ (v1 v2 v3 : Int32) (g : sv_Mg) (Q : Int32 → sv_Mg → Prop), RC false v1 v2 v3 g Q → sv_Cal yX3_readPiece cX3_readPiece 4 (some .boolean) fr lo 0 0 b xt [.ref (b + 4), .int v1, .int v2] F g (sv_qI F Q)) (hL : sv_Lay F) (h : wp_X3_readChain F RC v1 v2 v3 g Q) : sv_Cal yX3_readChain cX3_readChain 7 (some .boolean) fr1 lo1 0 0 b xt [.ref (b + 4), .int v1, .int v2, .int v3] F g (sv_qI F Q) := by
  refine sv_intro mw_X3_readChain [(0, .ref (b + 4)), (1, .int v1), (2, .int v2), (3, .int v3)] rfl (Nat.le_of_ble_eq_true rfl) (fun x G RR T NM => ?_)
  have G : sv_G x b xt RX3 cX3_readChain 7 := G
  unfold wp_X3_readChain at h
  refine sv_iload_n (pc := 0) G dX3_readChain_0 1 rfl ?_
  refine sv_iconst (pc := 1) G dX3_readChain_1 4 ic_4 ?_
  refine sv_ic_le (pc := 2) G 12 (by decide) dX3_readChain_2 (fun c_16 => ?_) (fun c_16 => ?_)
  · have h := h.1 c_16
    refine sv_aload_n (pc := 12) G dX3_readChain_12 0 rfl ?_
    refine sv_iload_n (pc := 13) G dX3_readChain_13 1 rfl ?_
    refine sv_iconst (pc := 14) G dX3_readChain_14 1 ic_1 ?_
    refine sv_iadd (pc := 15) G dX3_readChain_15 ?_
    refine sv_iload_n (pc := 16) G dX3_readChain_16 2 rfl ?_
    refine sv_iload_n (pc := 17) G dX3_readChain_17 3 rfl ?_
    refine sv_callV (cs := 0) (sl := 0) (st := []) (As := [.int (v1 + 1), .int v2, .int v3]) (a := 4) (pc := 18) G RR (hRC0 (v1 + 1) v2 v3 _ _ h) mw_X3_readChain lk_X3_50 (hL.sh rfl) (by decide) rfl rfl ⟨hF3, (by omega)⟩ ⟨(Nat.le_of_ble_eq_true rfl), (Nat.le_of_ble_eq_true rfl)⟩ (Nat.le_of_ble_eq_true rfl) rfl dX3_readChain_18 (sv_kI (fun r_18 g_17 h => ?_))
    refine sv_if_ne (pc := 21) G 26 (by decide) dX3_readChain_21 (fun c_19 => ?_) (fun c_19 => ?_)
    · have h := h.2 c_19
      refine sv_iload_n (pc := 26) G dX3_readChain_26 1 rfl ?_
      refine sv_iconst (pc := 27) G dX3_readChain_27 2 ic_2 ?_
      refine sv_ic_ne (pc := 28) G 35 (by decide) dX3_readChain_28 (fun c_20 => ?_) (fun c_20 => ?_)
      · have h := h.2 c_20
        refine sv_bipush (pc := 35) G dX3_readChain_35 96 bp_96 ?_
        refine sv_locs [0, 1, 2, 3] [(0, .ref (b + 4)), (1, .int v1), (2, .int v2), (3, .int v3)] rfl ?_
        exact aw_X3_readChain_37 hF1 hF2 hF3 hF4 hRC0 hRC1 G RR T hL   v1 v2 v3 96 g_17  h
      · have h := h.1 c_20
        refine sv_iconst (pc := 31) G dX3_readChain_31 1 ic_1 ?_
        refine sv_goto (pc := 32) G dX3_readChain_32 37 (by decide) ?_
        refine sv_locs [0, 1, 2, 3] [(0, .ref (b + 4)), (1, .int v1), (2, .int v2), (3, .int v3)] rfl ?_
        exact aw_X3_readChain_37 hF1 hF2 hF3 hF4 hRC0 hRC1 G RR T hL   v1 v2 v3 1 g_17  h
    · have h := h.1 c_19
      refine sv_iconst (pc := 24) G dX3_readChain_24 0 ic_0 ?_
      exact sv_zreturn (pc := 25) G T (Or.inl rfl) ⟨(Nat.le_of_ble_eq_true rfl), (Nat.le_of_ble_eq_true rfl)⟩ dX3_readChain_25 ⟨_, rfl, rfl, h⟩
  · have h := h.2 c_16
    refine sv_aload_n (pc := 5) G dX3_readChain_5 0 rfl ?_
    refine sv_iload_n (pc := 6) G dX3_readChain_6 2 rfl ?_
    refine sv_iload_n (pc := 7) G dX3_readChain_7 3 rfl ?_
    refine sv_callV (cs := 0) (sl := 0) (st := []) (As := [.int v2, .int v3]) (a := 4) (pc := 8) G RR (hRC1 v2 v3 0 _ _ h) mw_X3_readPiece lk_X3_114 (hL.sh rfl) (by decide) rfl rfl ⟨hF3, (by omega)⟩ ⟨(Nat.le_of_ble_eq_true rfl), (Nat.le_of_ble_eq_true rfl)⟩ (Nat.le_of_ble_eq_true rfl) rfl dX3_readChain_8 (sv_kI (fun r_22 g_21 h => ?_))
    obtain ⟨s_23, h⟩ := h
    exact sv_zreturn (pc := 11) G T s_23 ⟨(Nat.le_of_ble_eq_true rfl), (Nat.le_of_ble_eq_true rfl)⟩ dX3_readChain_11 ⟨_, rfl, rfl, h⟩
def wp_X3_readPiece_122 (F : sv_Fr) (RC : Bool → Int32 → Int32 → Int32 → sv_Mg → (Int32 → sv_Mg → Prop) → Prop) (Q : Int32 → sv_Mg → Prop) (v1 : Int32) (v2 : Int32) (g : sv_Mg) : Prop := wp_X3_isOneOf F 7 g (fun r_2 g_1 => ((r_2 = 0 → Q 0 g_1) ∧ (¬ r_2 = 0 → ((8 ≤ v1 → Q 0 g_1) ∧ (¬ 8 ≤ v1 → wp_X3_next F  g_1 (fun g_5 => RC true 0 (v1 + 1) v2 g_5 (fun r_7 g_6 => ((r_7 = 0 → Q 0 g_6) ∧ (¬ r_7 = 0 → wp_X3_readClosing F  g_6 (fun r_10 g_9 => ((r_10 = 0 → Q 0 g_9) ∧ (¬ r_10 = 0 → Q 1 g_9))))))))))))
def wp_X3_readPiece (F : sv_Fr) (RC : Bool → Int32 → Int32 → Int32 → sv_Mg → (Int32 → sv_Mg → Prop) → Prop) (v1 : Int32) (v2 : Int32) (g : sv_Mg) (Q : Int32 → sv_Mg → Prop) : Prop := (((g 4 2) = 2 → wp_X3_addLeaf F (g 4 5) g (fun r_35 g_34 => (r_35 = 0 ∨ r_35 = 1) ∧ Q r_35 g_34)) ∧ (¬ (g 4 2) = 2 → (((g 4 2) = 1 → wp_X3_namesOfKey F (g 4 6) g (fun k_26 g_25 => wp_J0_indexOf_0f7a4 F k_26 (((g_25 4 5).toUInt32 % 65536).toInt32) g_25 (fun r_28 g_27 => ((((g_27 4 4) - (g_27 4 3)) = 1 → ((r_28 < 0 → Q 0 g_27) ∧ (¬ r_28 < 0 → wp_X3_addLeaf F (10000 + r_28) g_27 (fun r_32 g_31 => ((r_32 = 0 → Q 0 g_31) ∧ (¬ r_32 = 0 → Q 1 g_31)))))) ∧ (¬ ((g_27 4 4) - (g_27 4 3)) = 1 → Q 0 g_27))))) ∧ (¬ (g 4 2) = 1 → wp_X3_isOneOf F 6 g (fun r_15 g_14 => ((r_15 = 0 → wp_X3_readPiece_122 F  RC Q  v1 v2 g_14) ∧ (¬ r_15 = 0 → ((8 ≤ v2 → wp_X3_readPiece_122 F  RC Q  v1 v2 g_14) ∧ (¬ 8 ≤ v2 → wp_X3_next F  g_14 (fun g_18 => RC false v1 (v2 + 1) 0 g_18 (fun r_20 g_19 => ((r_20 = 0 → Q 0 g_19) ∧ (¬ r_20 = 0 → wp_X3_add F 20033 g_19 (fun r_23 g_22 => ((r_23 = 0 → Q 0 g_22) ∧ (¬ r_23 = 0 → Q 1 g_22))))))))))))))))
set_option maxRecDepth 100000 in
set_option maxHeartbeats 4000000 in
theorem aw_X3_readPiece_122 {x : sv_X} {b : Nat} {xt : sv_Xt} {F : sv_Fr} {RC : Bool → Int32 → Int32 → Int32 → sv_Mg → (Int32 → sv_Mg → Prop) → Prop} {Q : Int32 → sv_Mg → Prop} {fr lo fr1 lo1 : Nat} (hF1 : 6 ≤ fr1) (hF2 : 132 ≤ lo1) (hF3 : fr + 1 ≤ fr1) (hF4 : 8 + (20 + 11) + lo ≤ lo1) (hRC0 : ∀ (v1 v2 v3 : Int32) (g : sv_Mg) (Q : Int32 → sv_Mg → Prop), RC true v1 v2 v3 g Q → sv_Cal yX3_readChain cX3_readChain 7 (some .boolean) fr lo 0 0 b xt [.ref (b + 4), .int v1, .int v2, .int v3] F g (sv_qI F Q)) (hRC1 : ∀ (v1 v2 v3 : Int32) (g : sv_Mg) (Q : Int32 → sv_Mg → Prop), RC false v1 v2 v3 g Q → sv_Cal yX3_readPiece cX3_readPiece 4 (some .boolean) fr lo 0 0 b xt [.ref (b + 4), .int v1, .int v2] F g (sv_qI F Q)) (G : sv_G x b xt RX3 cX3_readPiece 4) (RR : sv_R x fr1 lo1 0 0) (T : sv_RT x (some .boolean)) (hL : sv_Lay F) : ∀ (v1 : Int32) (v2 : Int32) (g : sv_Mg), wp_X3_readPiece_122 F RC Q  v1 v2 g → sv_AW x (sv_Q x (sv_qI F Q) 0 0) F g 0 0 122 [(0, .ref (b + 4)), (1, .int v1), (2, .int v2)] [] := by
  intro v1 v2 g h
  unfold wp_X3_readPiece_122 at h
  refine sv_aload_n (pc := 122) G dX3_readPiece_122 0 rfl ?_
  refine sv_ldcS (q := 7) (tx := "(") (pc := 123) G dX3_readPiece_123 ⟨rfl, List.mem_of_getElem? (i := 7) rfl⟩ ?_
  refine sv_callV (cs := 0) (sl := 0) (st := []) (As := [.ref (xt.1 7)]) (a := 4) (pc := 125) G RR (c_X3_isOneOf hL (by decide) h) mw_X3_isOneOf lk_X3_121 (hL.sh rfl) (by decide) rfl rfl ⟨Nat.le_trans (Nat.le_of_ble_eq_true rfl) hF1, Nat.le_trans (Nat.le_of_ble_eq_true rfl) hF2⟩ ⟨(Nat.le_of_ble_eq_true rfl), (Nat.le_of_ble_eq_true rfl)⟩ (Nat.le_of_ble_eq_true rfl) rfl dX3_readPiece_125 (sv_kI (fun r_2 g_1 h => ?_))
  refine sv_if_eq (pc := 128) G 166 (by decide) dX3_readPiece_128 (fun c_3 => ?_) (fun c_3 => ?_)
  · have h := h.1 c_3
    refine sv_iconst (pc := 166) G dX3_readPiece_166 0 ic_0 ?_
    exact sv_zreturn (pc := 167) G T (Or.inl rfl) ⟨(Nat.le_of_ble_eq_true rfl), (Nat.le_of_ble_eq_true rfl)⟩ dX3_readPiece_167 ⟨_, rfl, rfl, h⟩
  · have h := h.2 c_3
    refine sv_iload_n (pc := 131) G dX3_readPiece_131 1 rfl ?_
    refine sv_bipush (pc := 132) G dX3_readPiece_132 8 bp_8 ?_
    refine sv_ic_ge (pc := 134) G 166 (by decide) dX3_readPiece_134 (fun c_4 => ?_) (fun c_4 => ?_)
    · have h := h.1 c_4
      refine sv_iconst (pc := 166) G dX3_readPiece_166 0 ic_0 ?_
      exact sv_zreturn (pc := 167) G T (Or.inl rfl) ⟨(Nat.le_of_ble_eq_true rfl), (Nat.le_of_ble_eq_true rfl)⟩ dX3_readPiece_167 ⟨_, rfl, rfl, h⟩
    · have h := h.2 c_4
      refine sv_aload_n (pc := 137) G dX3_readPiece_137 0 rfl ?_
      refine sv_callV (cs := 0) (sl := 0) (st := []) (As := []) (a := 4) (pc := 138) G RR (c_X3_next hL  h) mw_X3_next lk_X3_43 (hL.sh rfl) (by decide) rfl rfl ⟨Nat.le_trans (Nat.le_of_ble_eq_true rfl) hF1, Nat.le_trans (Nat.le_of_ble_eq_true rfl) hF2⟩ ⟨(Nat.le_of_ble_eq_true rfl), (Nat.le_of_ble_eq_true rfl)⟩ (Nat.le_of_ble_eq_true rfl) rfl dX3_readPiece_138 (sv_kV (fun g_5 h => ?_))
      refine sv_aload_n (pc := 141) G dX3_readPiece_141 0 rfl ?_
      refine sv_iconst (pc := 142) G dX3_readPiece_142 0 ic_0 ?_
      refine sv_iload_n (pc := 143) G dX3_readPiece_143 1 rfl ?_
      refine sv_iconst (pc := 144) G dX3_readPiece_144 1 ic_1 ?_
      refine sv_iadd (pc := 145) G dX3_readPiece_145 ?_
      refine sv_iload_n (pc := 146) G dX3_readPiece_146 2 rfl ?_
      refine sv_callV (cs := 0) (sl := 0) (st := []) (As := [.int 0, .int (v1 + 1), .int v2]) (a := 4) (pc := 147) G RR (hRC0 0 (v1 + 1) v2 _ _ h) mw_X3_readChain lk_X3_50 (hL.sh rfl) (by decide) rfl rfl ⟨hF3, (by omega)⟩ ⟨(Nat.le_of_ble_eq_true rfl), (Nat.le_of_ble_eq_true rfl)⟩ (Nat.le_of_ble_eq_true rfl) rfl dX3_readPiece_147 (sv_kI (fun r_7 g_6 h => ?_))
      refine sv_if_eq (pc := 150) G 164 (by decide) dX3_readPiece_150 (fun c_8 => ?_) (fun c_8 => ?_)
      · have h := h.1 c_8
        refine sv_iconst (pc := 164) G dX3_readPiece_164 0 ic_0 ?_
        exact sv_zreturn (pc := 165) G T (Or.inl rfl) ⟨(Nat.le_of_ble_eq_true rfl), (Nat.le_of_ble_eq_true rfl)⟩ dX3_readPiece_165 ⟨_, rfl, rfl, h⟩
      · have h := h.2 c_8
        refine sv_aload_n (pc := 153) G dX3_readPiece_153 0 rfl ?_
        refine sv_callV (cs := 0) (sl := 0) (st := []) (As := []) (a := 4) (pc := 154) G RR (c_X3_readClosing hL  h) mw_X3_readClosing lk_X3_141 (hL.sh rfl) (by decide) rfl rfl ⟨Nat.le_trans (Nat.le_of_ble_eq_true rfl) hF1, Nat.le_trans (Nat.le_of_ble_eq_true rfl) hF2⟩ ⟨(Nat.le_of_ble_eq_true rfl), (Nat.le_of_ble_eq_true rfl)⟩ (Nat.le_of_ble_eq_true rfl) rfl dX3_readPiece_154 (sv_kI (fun r_10 g_9 h => ?_))
        refine sv_if_eq (pc := 157) G 164 (by decide) dX3_readPiece_157 (fun c_11 => ?_) (fun c_11 => ?_)
        · have h := h.1 c_11
          refine sv_iconst (pc := 164) G dX3_readPiece_164 0 ic_0 ?_
          exact sv_zreturn (pc := 165) G T (Or.inl rfl) ⟨(Nat.le_of_ble_eq_true rfl), (Nat.le_of_ble_eq_true rfl)⟩ dX3_readPiece_165 ⟨_, rfl, rfl, h⟩
        · have h := h.2 c_11
          refine sv_iconst (pc := 160) G dX3_readPiece_160 1 ic_1 ?_
          refine sv_goto (pc := 161) G dX3_readPiece_161 165 (by decide) ?_
          exact sv_zreturn (pc := 165) G T (Or.inr rfl) ⟨(Nat.le_of_ble_eq_true rfl), (Nat.le_of_ble_eq_true rfl)⟩ dX3_readPiece_165 ⟨_, rfl, rfl, h⟩
set_option maxRecDepth 100000 in
set_option maxHeartbeats 4000000 in
theorem c_X3_readPiece {b : Nat} {xt : sv_Xt} {F : sv_Fr} {RC : Bool → Int32 → Int32 → Int32 → sv_Mg → (Int32 → sv_Mg → Prop) → Prop} {v1 : Int32} {v2 : Int32} {g : sv_Mg} {Q : Int32 → sv_Mg → Prop} {fr lo fr1 lo1 : Nat} (hF1 : 6 ≤ fr1) (hF2 : 132 ≤ lo1) (hF3 : fr + 1 ≤ fr1) (hF4 : 8 + (20 + 11) + lo ≤ lo1) (hRC0 : ∀ (v1 v2 v3 : Int32) (g : sv_Mg) (Q : Int32 → sv_Mg → Prop), RC true v1 v2 v3 g Q → sv_Cal yX3_readChain cX3_readChain 7 (some .boolean) fr lo 0 0 b xt [.ref (b + 4), .int v1, .int v2, .int v3] F g (sv_qI F Q)) (hRC1 : ∀ (v1 v2 v3 : Int32) (g : sv_Mg) (Q : Int32 → sv_Mg → Prop), RC false v1 v2 v3 g Q → sv_Cal yX3_readPiece cX3_readPiece 4 (some .boolean) fr lo 0 0 b xt [.ref (b + 4), .int v1, .int v2] F g (sv_qI F Q)) (hL : sv_Lay F) (h : wp_X3_readPiece F RC v1 v2 g Q) : sv_Cal yX3_readPiece cX3_readPiece 4 (some .boolean) fr1 lo1 0 0 b xt [.ref (b + 4), .int v1, .int v2] F g (sv_qI F Q) := by
  refine sv_intro mw_X3_readPiece [(0, .ref (b + 4)), (1, .int v1), (2, .int v2)] rfl (Nat.le_of_ble_eq_true rfl) (fun x G RR T NM => ?_)
  have G : sv_G x b xt RX3 cX3_readPiece 4 := G
  unfold wp_X3_readPiece at h
  refine sv_aload_n (pc := 0) G dX3_readPiece_0 0 rfl ?_
  refine sv_getI (pc := 1) G fw_X3_19 (hL.sh rfl) rfl dX3_readPiece_1 ?_
  refine sv_iconst (pc := 4) G dX3_readPiece_4 2 ic_2 ?_
  refine sv_ic_ne (pc := 5) G 17 (by decide) dX3_readPiece_5 (fun c_12 => ?_) (fun c_12 => ?_)
  · have h := h.2 c_12
    refine sv_aload_n (pc := 17) G dX3_readPiece_17 0 rfl ?_
    refine sv_getI (pc := 18) G fw_X3_19 (hL.sh rfl) rfl dX3_readPiece_18 ?_
    refine sv_iconst (pc := 21) G dX3_readPiece_21 1 ic_1 ?_
    refine sv_ic_ne (pc := 22) G 76 (by decide) dX3_readPiece_22 (fun c_13 => ?_) (fun c_13 => ?_)
    · have h := h.2 c_13
      refine sv_aload_n (pc := 76) G dX3_readPiece_76 0 rfl ?_
      refine sv_ldcS (q := 6) (tx := "!") (pc := 77) G dX3_readPiece_77 ⟨rfl, List.mem_of_getElem? (i := 6) rfl⟩ ?_
      refine sv_callV (cs := 0) (sl := 0) (st := []) (As := [.ref (xt.1 6)]) (a := 4) (pc := 79) G RR (c_X3_isOneOf hL (by decide) h) mw_X3_isOneOf lk_X3_121 (hL.sh rfl) (by decide) rfl rfl ⟨Nat.le_trans (Nat.le_of_ble_eq_true rfl) hF1, Nat.le_trans (Nat.le_of_ble_eq_true rfl) hF2⟩ ⟨(Nat.le_of_ble_eq_true rfl), (Nat.le_of_ble_eq_true rfl)⟩ (Nat.le_of_ble_eq_true rfl) rfl dX3_readPiece_79 (sv_kI (fun r_15 g_14 h => ?_))
      refine sv_if_eq (pc := 82) G 122 (by decide) dX3_readPiece_82 (fun c_16 => ?_) (fun c_16 => ?_)
      · have h := h.1 c_16
        refine sv_locs [0, 1, 2] [(0, .ref (b + 4)), (1, .int v1), (2, .int v2)] rfl ?_
        exact aw_X3_readPiece_122 hF1 hF2 hF3 hF4 hRC0 hRC1 G RR T hL   v1 v2 g_14  h
      · have h := h.2 c_16
        refine sv_iload_n (pc := 85) G dX3_readPiece_85 2 rfl ?_
        refine sv_bipush (pc := 86) G dX3_readPiece_86 8 bp_8 ?_
        refine sv_ic_ge (pc := 88) G 122 (by decide) dX3_readPiece_88 (fun c_17 => ?_) (fun c_17 => ?_)
        · have h := h.1 c_17
          refine sv_locs [0, 1, 2] [(0, .ref (b + 4)), (1, .int v1), (2, .int v2)] rfl ?_
          exact aw_X3_readPiece_122 hF1 hF2 hF3 hF4 hRC0 hRC1 G RR T hL   v1 v2 g_14  h
        · have h := h.2 c_17
          refine sv_aload_n (pc := 91) G dX3_readPiece_91 0 rfl ?_
          refine sv_callV (cs := 0) (sl := 0) (st := []) (As := []) (a := 4) (pc := 92) G RR (c_X3_next hL  h) mw_X3_next lk_X3_43 (hL.sh rfl) (by decide) rfl rfl ⟨Nat.le_trans (Nat.le_of_ble_eq_true rfl) hF1, Nat.le_trans (Nat.le_of_ble_eq_true rfl) hF2⟩ ⟨(Nat.le_of_ble_eq_true rfl), (Nat.le_of_ble_eq_true rfl)⟩ (Nat.le_of_ble_eq_true rfl) rfl dX3_readPiece_92 (sv_kV (fun g_18 h => ?_))
          refine sv_aload_n (pc := 95) G dX3_readPiece_95 0 rfl ?_
          refine sv_iload_n (pc := 96) G dX3_readPiece_96 1 rfl ?_
          refine sv_iload_n (pc := 97) G dX3_readPiece_97 2 rfl ?_
          refine sv_iconst (pc := 98) G dX3_readPiece_98 1 ic_1 ?_
          refine sv_iadd (pc := 99) G dX3_readPiece_99 ?_
          refine sv_callV (cs := 0) (sl := 0) (st := []) (As := [.int v1, .int (v2 + 1)]) (a := 4) (pc := 100) G RR (hRC1 v1 (v2 + 1) 0 _ _ h) mw_X3_readPiece lk_X3_114 (hL.sh rfl) (by decide) rfl rfl ⟨hF3, (by omega)⟩ ⟨(Nat.le_of_ble_eq_true rfl), (Nat.le_of_ble_eq_true rfl)⟩ (Nat.le_of_ble_eq_true rfl) rfl dX3_readPiece_100 (sv_kI (fun r_20 g_19 h => ?_))
          refine sv_if_eq (pc := 103) G 120 (by decide) dX3_readPiece_103 (fun c_21 => ?_) (fun c_21 => ?_)
          · have h := h.1 c_21
            refine sv_iconst (pc := 120) G dX3_readPiece_120 0 ic_0 ?_
            exact sv_zreturn (pc := 121) G T (Or.inl rfl) ⟨(Nat.le_of_ble_eq_true rfl), (Nat.le_of_ble_eq_true rfl)⟩ dX3_readPiece_121 ⟨_, rfl, rfl, h⟩
          · have h := h.2 c_21
            refine sv_aload_n (pc := 106) G dX3_readPiece_106 0 rfl ?_
            refine sv_sipush (pc := 107) G dX3_readPiece_107 20033 sp_20033 ?_
            refine sv_callV (cs := 0) (sl := 0) (st := []) (As := [.int 20033]) (a := 4) (pc := 110) G RR (c_X3_add hL  h) mw_X3_add lk_X3_124 (hL.sh rfl) (by decide) rfl rfl ⟨Nat.le_trans (Nat.le_of_ble_eq_true rfl) hF1, Nat.le_trans (Nat.le_of_ble_eq_true rfl) hF2⟩ ⟨(Nat.le_of_ble_eq_true rfl), (Nat.le_of_ble_eq_true rfl)⟩ (Nat.le_of_ble_eq_true rfl) rfl dX3_readPiece_110 (sv_kI (fun r_23 g_22 h => ?_))
            refine sv_if_eq (pc := 113) G 120 (by decide) dX3_readPiece_113 (fun c_24 => ?_) (fun c_24 => ?_)
            · have h := h.1 c_24
              refine sv_iconst (pc := 120) G dX3_readPiece_120 0 ic_0 ?_
              exact sv_zreturn (pc := 121) G T (Or.inl rfl) ⟨(Nat.le_of_ble_eq_true rfl), (Nat.le_of_ble_eq_true rfl)⟩ dX3_readPiece_121 ⟨_, rfl, rfl, h⟩
            · have h := h.2 c_24
              refine sv_iconst (pc := 116) G dX3_readPiece_116 1 ic_1 ?_
              refine sv_goto (pc := 117) G dX3_readPiece_117 121 (by decide) ?_
              exact sv_zreturn (pc := 121) G T (Or.inr rfl) ⟨(Nat.le_of_ble_eq_true rfl), (Nat.le_of_ble_eq_true rfl)⟩ dX3_readPiece_121 ⟨_, rfl, rfl, h⟩
    · have h := h.1 c_13
      refine sv_aload_n (pc := 25) G dX3_readPiece_25 0 rfl ?_
      refine sv_getI (pc := 26) G fw_X3_31 (hL.sh rfl) rfl dX3_readPiece_26 ?_
      refine sv_callS (cs := 0) (sl := 0) (st := []) (As := [.int (g 4 6)]) (pc := 29) G RR (c_X3_namesOfKey hL  h) mw_X3_namesOfKey lk_X3_134 rfl ⟨Nat.le_trans (Nat.le_of_ble_eq_true rfl) hF1, Nat.le_trans (Nat.le_of_ble_eq_true rfl) hF2⟩ ⟨(Nat.le_of_ble_eq_true rfl), (Nat.le_of_ble_eq_true rfl)⟩ (Nat.le_of_ble_eq_true rfl) rfl dX3_readPiece_29 (sv_kS (fun k_26 g_25 hk_26 h => ?_))
      refine sv_aload_n (pc := 32) G dX3_readPiece_32 0 rfl ?_
      refine sv_getI (pc := 33) G fw_X3_28 (hL.sh rfl) rfl dX3_readPiece_33 ?_
      refine sv_i2c (pc := 36) G dX3_readPiece_36 ?_
      refine sv_callVS (cs := 0) (sl := 0) (st := []) (As := [.int (((g_25 4 5).toUInt32 % 65536).toInt32)]) (q := k_26) (pc := 37) G RR (c_J0_indexOf_0f7a4 hL hk_26 h) mw_J0_indexOf_0f7a4 lk_X3_128 hk_26 rfl rfl ⟨Nat.le_trans (Nat.le_of_ble_eq_true rfl) hF1, Nat.le_trans (Nat.le_of_ble_eq_true rfl) hF2⟩ ⟨(Nat.le_of_ble_eq_true rfl), (Nat.le_of_ble_eq_true rfl)⟩ (Nat.le_of_ble_eq_true rfl) rfl dX3_readPiece_37 (sv_kI (fun r_28 g_27 h => ?_))
      refine sv_istore_n (pc := 40) G dX3_readPiece_40 [(3, .int r_28), (0, .ref (b + 4)), (1, .int v1), (2, .int v2)] (by decide) rfl ?_
      refine sv_aload_n (pc := 41) G dX3_readPiece_41 1 rfl ?_
      refine sv_getI (pc := 42) G fw_X3_25 (hL.sh rfl) rfl dX3_readPiece_42 ?_
      refine sv_aload_n (pc := 45) G dX3_readPiece_45 1 rfl ?_
      refine sv_getI (pc := 46) G fw_X3_22 (hL.sh rfl) rfl dX3_readPiece_46 ?_
      refine sv_isub (pc := 49) G dX3_readPiece_49 ?_
      refine sv_iconst (pc := 50) G dX3_readPiece_50 1 ic_1 ?_
      refine sv_ic_ne (pc := 51) G 74 (by decide) dX3_readPiece_51 (fun c_29 => ?_) (fun c_29 => ?_)
      · have h := h.2 c_29
        refine sv_iconst (pc := 74) G dX3_readPiece_74 0 ic_0 ?_
        exact sv_zreturn (pc := 75) G T (Or.inl rfl) ⟨(Nat.le_of_ble_eq_true rfl), (Nat.le_of_ble_eq_true rfl)⟩ dX3_readPiece_75 ⟨_, rfl, rfl, h⟩
      · have h := h.1 c_29
        refine sv_iload_n (pc := 54) G dX3_readPiece_54 0 rfl ?_
        refine sv_if_lt (pc := 55) G 74 (by decide) dX3_readPiece_55 (fun c_30 => ?_) (fun c_30 => ?_)
        · have h := h.1 c_30
          refine sv_iconst (pc := 74) G dX3_readPiece_74 0 ic_0 ?_
          exact sv_zreturn (pc := 75) G T (Or.inl rfl) ⟨(Nat.le_of_ble_eq_true rfl), (Nat.le_of_ble_eq_true rfl)⟩ dX3_readPiece_75 ⟨_, rfl, rfl, h⟩
        · have h := h.2 c_30
          refine sv_aload_n (pc := 58) G dX3_readPiece_58 1 rfl ?_
          refine sv_sipush (pc := 59) G dX3_readPiece_59 10000 sp_10000 ?_
          refine sv_iload_n (pc := 62) G dX3_readPiece_62 0 rfl ?_
          refine sv_iadd (pc := 63) G dX3_readPiece_63 ?_
          refine sv_callV (cs := 0) (sl := 0) (st := []) (As := [.int (10000 + r_28)]) (a := 4) (pc := 64) G RR (c_X3_addLeaf hL  h) mw_X3_addLeaf lk_X3_131 (hL.sh rfl) (by decide) rfl rfl ⟨Nat.le_trans (Nat.le_of_ble_eq_true rfl) hF1, Nat.le_trans (Nat.le_of_ble_eq_true rfl) hF2⟩ ⟨(Nat.le_of_ble_eq_true rfl), (Nat.le_of_ble_eq_true rfl)⟩ (Nat.le_of_ble_eq_true rfl) rfl dX3_readPiece_64 (sv_kI (fun r_32 g_31 h => ?_))
          refine sv_if_eq (pc := 67) G 74 (by decide) dX3_readPiece_67 (fun c_33 => ?_) (fun c_33 => ?_)
          · have h := h.1 c_33
            refine sv_iconst (pc := 74) G dX3_readPiece_74 0 ic_0 ?_
            exact sv_zreturn (pc := 75) G T (Or.inl rfl) ⟨(Nat.le_of_ble_eq_true rfl), (Nat.le_of_ble_eq_true rfl)⟩ dX3_readPiece_75 ⟨_, rfl, rfl, h⟩
          · have h := h.2 c_33
            refine sv_iconst (pc := 70) G dX3_readPiece_70 1 ic_1 ?_
            refine sv_goto (pc := 71) G dX3_readPiece_71 75 (by decide) ?_
            exact sv_zreturn (pc := 75) G T (Or.inr rfl) ⟨(Nat.le_of_ble_eq_true rfl), (Nat.le_of_ble_eq_true rfl)⟩ dX3_readPiece_75 ⟨_, rfl, rfl, h⟩
  · have h := h.1 c_12
    refine sv_aload_n (pc := 8) G dX3_readPiece_8 0 rfl ?_
    refine sv_aload_n (pc := 9) G dX3_readPiece_9 0 rfl ?_
    refine sv_getI (pc := 10) G fw_X3_28 (hL.sh rfl) rfl dX3_readPiece_10 ?_
    refine sv_callV (cs := 0) (sl := 0) (st := []) (As := [.int (g 4 5)]) (a := 4) (pc := 13) G RR (c_X3_addLeaf hL  h) mw_X3_addLeaf lk_X3_131 (hL.sh rfl) (by decide) rfl rfl ⟨Nat.le_trans (Nat.le_of_ble_eq_true rfl) hF1, Nat.le_trans (Nat.le_of_ble_eq_true rfl) hF2⟩ ⟨(Nat.le_of_ble_eq_true rfl), (Nat.le_of_ble_eq_true rfl)⟩ (Nat.le_of_ble_eq_true rfl) rfl dX3_readPiece_13 (sv_kI (fun r_35 g_34 h => ?_))
    obtain ⟨s_36, h⟩ := h
    exact sv_zreturn (pc := 16) G T s_36 ⟨(Nat.le_of_ble_eq_true rfl), (Nat.le_of_ble_eq_true rfl)⟩ dX3_readPiece_16 ⟨_, rfl, rfl, h⟩
def wp_X3_rc (F : sv_Fr) : Nat → Bool → Int32 → Int32 → Int32 → sv_Mg → (Int32 → sv_Mg → Prop) → Prop
  | 0, _, _, _, _, _, _ => False
  | n + 1, c, v1, v2, v3, g, Q => if c = true then wp_X3_readChain F (wp_X3_rc F n) v1 v2 v3 g Q else wp_X3_readPiece F (wp_X3_rc F n) v1 v2 g Q
theorem c_X3_rc {b : Nat} {xt : sv_Xt} {F : sv_Fr} (hL : sv_Lay F) : ∀ n, (∀ (v1 v2 v3 : Int32) (g : sv_Mg) (Q : Int32 → sv_Mg → Prop), wp_X3_rc F n true v1 v2 v3 g Q → sv_Cal yX3_readChain cX3_readChain 7 (some .boolean) (n + 6) (60 * n + 132) 0 0 b xt [.ref (b + 4), .int v1, .int v2, .int v3] F g (sv_qI F Q)) ∧ (∀ (v1 v2 v3 : Int32) (g : sv_Mg) (Q : Int32 → sv_Mg → Prop), wp_X3_rc F n false v1 v2 v3 g Q → sv_Cal yX3_readPiece cX3_readPiece 4 (some .boolean) (n + 6) (60 * n + 132) 0 0 b xt [.ref (b + 4), .int v1, .int v2] F g (sv_qI F Q)) := by
  intro n
  induction n with
  | zero => exact ⟨fun v1 v2 v3 g Q h => h.elim, fun v1 v2 v3 g Q h => h.elim⟩
  | succ n ih =>
    refine ⟨fun v1 v2 v3 g Q h => ?_, fun v1 v2 v3 g Q h => ?_⟩
    · rw [wp_X3_rc, if_pos rfl] at h
      exact c_X3_readChain (by omega) (by omega) (by omega) (by omega) ih.1 ih.2 hL h
    · rw [wp_X3_rc, if_neg (by decide)] at h
      exact c_X3_readPiece (by omega) (by omega) (by omega) (by omega) ih.1 ih.2 hL h
def wp_X3_chainT (F : sv_Fr) (v1 v2 v3 : Int32) (g : sv_Mg) (Q : Int32 → sv_Mg → Prop) : Prop := wp_X3_rc F 100 true v1 v2 v3 g Q
theorem c_X3_chainT {b : Nat} {xt : sv_Xt} {F : sv_Fr} {v1 v2 v3 : Int32} {g : sv_Mg} {Q : Int32 → sv_Mg → Prop} (hL : sv_Lay F) (h : wp_X3_chainT F v1 v2 v3 g Q) : sv_Cal yX3_readChain cX3_readChain 7 (some .boolean) 106 6132 0 0 b xt [.ref (b + 4), .int v1, .int v2, .int v3] F g (sv_qI F Q) := (c_X3_rc hL 100).1 v1 v2 v3 g Q h
def wp_J3_checkIndex_8e157 (F : sv_Fr) (o2 : Option Nat) (v0 : Int32) (v1 : Int32) (g : sv_Mg) (Q : Int32 → sv_Mg → Prop) : Prop := ((v0 < 0 → False) ∧ (¬ v0 < 0 → ((v0 < v1 → Q v0 g) ∧ (¬ v0 < v1 → False))))
set_option maxRecDepth 100000 in
set_option maxHeartbeats 4000000 in
theorem c_J3_checkIndex_8e157 {b : Nat} {xt : sv_Xt} {F : sv_Fr} {o2 : Option Nat} {v0 : Int32} {v1 : Int32} {g : sv_Mg} {Q : Int32 → sv_Mg → Prop} (hL : sv_Lay F) (h : wp_J3_checkIndex_8e157 F o2 v0 v1 g Q) : sv_Cal yJ3_checkIndex_8e157 cJ3_checkIndex_8e157 3 (some .int) 0 0 0 0 b xt [.int v0, .int v1, va_rf o2] F g (sv_qI F Q) := by
  rcases o2 with _ | o2
  · refine sv_intro mw_J3_checkIndex_8e157 _ rfl (Nat.le_of_ble_eq_true rfl) (fun x G RR T NM => ?_)
    have G : sv_G x b xt RJ3 cJ3_checkIndex_8e157 3 := G
    unfold wp_J3_checkIndex_8e157 at h
    refine sv_iload_n (pc := 0) G dJ3_checkIndex_8e157_0 0 rfl ?_
    refine sv_if_lt (pc := 1) G 9 (by decide) dJ3_checkIndex_8e157_1 (fun c_1 => ?_) (fun c_1 => ?_)
    · have h := h.1 c_1
      exact h.elim
    · have h := h.2 c_1
      refine sv_iload_n (pc := 4) G dJ3_checkIndex_8e157_4 0 rfl ?_
      refine sv_iload_n (pc := 5) G dJ3_checkIndex_8e157_5 1 rfl ?_
      refine sv_ic_lt (pc := 6) G 16 (by decide) dJ3_checkIndex_8e157_6 (fun c_2 => ?_) (fun c_2 => ?_)
      · have h := h.1 c_2
        refine sv_iload_n (pc := 16) G dJ3_checkIndex_8e157_16 0 rfl ?_
        exact sv_ireturn (pc := 17) G T ⟨(Nat.le_of_ble_eq_true rfl), (Nat.le_of_ble_eq_true rfl)⟩ dJ3_checkIndex_8e157_17 ⟨_, rfl, rfl, h⟩
      · have h := h.2 c_2
        exact h.elim
  · refine sv_intro mw_J3_checkIndex_8e157 _ rfl (Nat.le_of_ble_eq_true rfl) (fun x G RR T NM => ?_)
    have G : sv_G x b xt RJ3 cJ3_checkIndex_8e157 3 := G
    unfold wp_J3_checkIndex_8e157 at h
    refine sv_iload_n (pc := 0) G dJ3_checkIndex_8e157_0 0 rfl ?_
    refine sv_if_lt (pc := 1) G 9 (by decide) dJ3_checkIndex_8e157_1 (fun c_1 => ?_) (fun c_1 => ?_)
    · have h := h.1 c_1
      exact h.elim
    · have h := h.2 c_1
      refine sv_iload_n (pc := 4) G dJ3_checkIndex_8e157_4 0 rfl ?_
      refine sv_iload_n (pc := 5) G dJ3_checkIndex_8e157_5 1 rfl ?_
      refine sv_ic_lt (pc := 6) G 16 (by decide) dJ3_checkIndex_8e157_6 (fun c_2 => ?_) (fun c_2 => ?_)
      · have h := h.1 c_2
        refine sv_iload_n (pc := 16) G dJ3_checkIndex_8e157_16 0 rfl ?_
        exact sv_ireturn (pc := 17) G T ⟨(Nat.le_of_ble_eq_true rfl), (Nat.le_of_ble_eq_true rfl)⟩ dJ3_checkIndex_8e157_17 ⟨_, rfl, rfl, h⟩
      · have h := h.2 c_2
        exact h.elim
def wp_J0_checkIndex_df160 (F : sv_Fr) (v0 : Int32) (v1 : Int32) (g : sv_Mg) (Q : sv_Mg → Prop) : Prop := ∀ o_1 : Option Nat, wp_J3_checkIndex_8e157 F o_1 v0 v1 g (fun r_3 g_2 => Q g_2)
set_option maxRecDepth 100000 in
set_option maxHeartbeats 4000000 in
theorem c_J0_checkIndex_df160 {b : Nat} {xt : sv_Xt} {F : sv_Fr} {v0 : Int32} {v1 : Int32} {g : sv_Mg} {Q : sv_Mg → Prop} (hL : sv_Lay F) (h : wp_J0_checkIndex_df160 F v0 v1 g Q) : sv_Cal yJ0_checkIndex_df160 cJ0_checkIndex_df160 2 none 1 22 0 0 b xt [.int v0, .int v1] F g (sv_qV F Q) := by
  refine sv_intro mw_J0_checkIndex_df160 [(0, .int v0), (1, .int v1)] rfl (Nat.le_of_ble_eq_true rfl) (fun x G RR T NM => ?_)
  have G : sv_G x b xt RJ0 cJ0_checkIndex_df160 2 := G
  unfold wp_J0_checkIndex_df160 at h
  refine sv_iload_n (pc := 0) G dJ0_checkIndex_df160_0 0 rfl ?_
  refine sv_iload_n (pc := 1) G dJ0_checkIndex_df160_1 1 rfl ?_
  refine sv_getsF (pc := 2) G dJ0_checkIndex_df160_2 wf_J0_1053 (fun o_1 => ?_)
  have h := h o_1
  refine sv_callS (cs := 0) (sl := 0) (st := []) (As := [.int v0, .int v1, va_rf o_1]) (pc := 5) G RR (c_J3_checkIndex_8e157 hL  h) mw_J3_checkIndex_8e157 lk_J0_1059 rfl ⟨(Nat.le_of_ble_eq_true rfl), (Nat.le_of_ble_eq_true rfl)⟩ ⟨(Nat.le_of_ble_eq_true rfl), (Nat.le_of_ble_eq_true rfl)⟩ (Nat.le_of_ble_eq_true rfl) rfl dJ0_checkIndex_df160_5 (sv_kI (fun r_3 g_2 h => ?_))
  refine sv_pop (pc := 8) G dJ0_checkIndex_df160_8 rfl ?_
  exact sv_vreturn (pc := 9) G T ⟨(Nat.le_of_ble_eq_true rfl), (Nat.le_of_ble_eq_true rfl)⟩ dJ0_checkIndex_df160_9 ⟨rfl, rfl, h⟩
def wp_J1_charAt_3b067 (F : sv_Fr) (s0 : Nat) (v1 : Int32) (g : sv_Mg) (Q : Int32 → sv_Mg → Prop) : Prop := wp_J0_checkIndex_df160 F v1 (nI (sv_len.getD s0 0)) g (fun g_1 => vp_in v1 (sv_len.getD s0 0) ∧ narrow .char (.int (((((sv_byt.getD s0 []).getD v1.toNatClampNeg 0) &&& 255).toUInt32 % 65536).toInt32)) = .int (((((sv_byt.getD s0 []).getD v1.toNatClampNeg 0) &&& 255).toUInt32 % 65536).toInt32) ∧ Q (((((sv_byt.getD s0 []).getD v1.toNatClampNeg 0) &&& 255).toUInt32 % 65536).toInt32) g_1)
set_option maxRecDepth 100000 in
set_option maxHeartbeats 4000000 in
theorem c_J1_charAt_3b067 {b : Nat} {xt : sv_Xt} {F : sv_Fr} {s0 : Nat} {v1 : Int32} {g : sv_Mg} {Q : Int32 → sv_Mg → Prop} (hL : sv_Lay F) (hs0 : s0 < 14) (h : wp_J1_charAt_3b067 F s0 v1 g Q) : sv_Cal yJ1_charAt_3b067 cJ1_charAt_3b067 2 (some .char) 2 43 0 0 b xt [.ref (xt.2.1 s0), .int v1] F g (sv_qI F Q) := by
  refine sv_intro mw_J1_charAt_3b067 [(0, .ref (xt.2.1 s0)), (1, .int v1)] rfl (Nat.le_of_ble_eq_true rfl) (fun x G RR T NM => ?_)
  have G : sv_G x b xt RJ1 cJ1_charAt_3b067 2 := G
  unfold wp_J1_charAt_3b067 at h
  refine sv_iload_n (pc := 0) G dJ1_charAt_3b067_0 1 rfl ?_
  refine sv_aload_n (pc := 1) G dJ1_charAt_3b067_1 0 rfl ?_
  refine sv_slen (pc := 2) G dJ1_charAt_3b067_2 hs0 ?_
  refine sv_callS (cs := 0) (sl := 0) (st := []) (As := [.int v1, .int (nI (sv_len.getD s0 0))]) (pc := 3) G RR (c_J0_checkIndex_df160 hL  h) mw_J0_checkIndex_df160 lk_J1_9 rfl ⟨(Nat.le_of_ble_eq_true rfl), (Nat.le_of_ble_eq_true rfl)⟩ ⟨(Nat.le_of_ble_eq_true rfl), (Nat.le_of_ble_eq_true rfl)⟩ (Nat.le_of_ble_eq_true rfl) rfl dJ1_charAt_3b067_3 (sv_kV (fun g_1 h => ?_))
  refine sv_aload_n (pc := 6) G dJ1_charAt_3b067_6 0 rfl ?_
  refine sv_iload_n (pc := 7) G dJ1_charAt_3b067_7 1 rfl ?_
  obtain ⟨s_2, h⟩ := h
  refine sv_sbal (pc := 8) G dJ1_charAt_3b067_8 hs0 s_2 v1.toNatClampNeg rfl ?_
  refine sv_sipush (pc := 9) G dJ1_charAt_3b067_9 255 sp_255 ?_
  refine sv_iand (pc := 12) G dJ1_charAt_3b067_12 ?_
  refine sv_i2c (pc := 13) G dJ1_charAt_3b067_13 ?_
  obtain ⟨s_3, h⟩ := h
  exact sv_creturn (pc := 14) G T s_3 ⟨(Nat.le_of_ble_eq_true rfl), (Nat.le_of_ble_eq_true rfl)⟩ dJ1_charAt_3b067_14 ⟨_, rfl, rfl, h⟩
def wp_J0_charAt_5068e (F : sv_Fr) (s0 : Nat) (v1 : Int32) (g : sv_Mg) (Q : Int32 → sv_Mg → Prop) : Prop := wp_J0_isLatin1_aae02 F s0 g (fun r_2 g_1 => ((r_2 = 0 → False) ∧ (¬ r_2 = 0 → wp_J1_charAt_3b067 F s0 v1 g_1 (fun r_5 g_4 => narrow .char (.int r_5) = .int r_5 ∧ Q r_5 g_4))))
set_option maxRecDepth 100000 in
set_option maxHeartbeats 4000000 in
theorem c_J0_charAt_5068e {b : Nat} {xt : sv_Xt} {F : sv_Fr} {s0 : Nat} {v1 : Int32} {g : sv_Mg} {Q : Int32 → sv_Mg → Prop} (hL : sv_Lay F) (hs0 : s0 < 14) (h : wp_J0_charAt_5068e F s0 v1 g Q) : sv_Cal yJ0_charAt_5068e cJ0_charAt_5068e 2 (some .char) 3 64 0 0 b xt [.ref (xt.1 s0), .int v1] F g (sv_qI F Q) := by
  refine sv_intro mw_J0_charAt_5068e [(0, .ref (xt.1 s0)), (1, .int v1)] rfl (Nat.le_of_ble_eq_true rfl) (fun x G RR T NM => ?_)
  have G : sv_G x b xt RJ0 cJ0_charAt_5068e 2 := G
  unfold wp_J0_charAt_5068e at h
  refine sv_aload_n (pc := 0) G dJ0_charAt_5068e_0 0 rfl ?_
  refine sv_callVS (cs := 0) (sl := 0) (st := []) (As := []) (q := s0) (pc := 1) G RR (c_J0_isLatin1_aae02 hL hs0 h) mw_J0_isLatin1_aae02 lk_J0_492 hs0 rfl rfl ⟨(Nat.le_of_ble_eq_true rfl), (Nat.le_of_ble_eq_true rfl)⟩ ⟨(Nat.le_of_ble_eq_true rfl), (Nat.le_of_ble_eq_true rfl)⟩ (Nat.le_of_ble_eq_true rfl) rfl dJ0_charAt_5068e_1 (sv_kI (fun r_2 g_1 h => ?_))
  refine sv_if_eq (pc := 4) G 16 (by decide) dJ0_charAt_5068e_4 (fun c_3 => ?_) (fun c_3 => ?_)
  · have h := h.1 c_3
    exact h.elim
  · have h := h.2 c_3
    refine sv_aload_n (pc := 7) G dJ0_charAt_5068e_7 0 rfl ?_
    refine sv_sval (pc := 8) G dJ0_charAt_5068e_8 hs0 wf_J0_9 ?_
    refine sv_iload_n (pc := 11) G dJ0_charAt_5068e_11 1 rfl ?_
    refine sv_callS (cs := 0) (sl := 0) (st := []) (As := [.ref (xt.2.1 s0), .int v1]) (pc := 12) G RR (c_J1_charAt_3b067 hL hs0 h) mw_J1_charAt_3b067 lk_J0_495 rfl ⟨(Nat.le_of_ble_eq_true rfl), (Nat.le_of_ble_eq_true rfl)⟩ ⟨(Nat.le_of_ble_eq_true rfl), (Nat.le_of_ble_eq_true rfl)⟩ (Nat.le_of_ble_eq_true rfl) rfl dJ0_charAt_5068e_12 (sv_kI (fun r_5 g_4 h => ?_))
    obtain ⟨s_6, h⟩ := h
    exact sv_creturn (pc := 15) G T s_6 ⟨(Nat.le_of_ble_eq_true rfl), (Nat.le_of_ble_eq_true rfl)⟩ dJ0_charAt_5068e_15 ⟨_, rfl, rfl, h⟩
def wp_X3_isWord_28 (F : sv_Fr) (s1 : Nat) (Q : Int32 → sv_Mg → Prop) : Nat → Int32 → sv_Mg → Prop
  | 0, _, _ => False
  | n + 1, v2, g => wp_J0_length_8abf5 F s1 g (fun r_2 g_1 => ((r_2 ≤ v2 → Q 1 g_1) ∧ (¬ r_2 ≤ v2 → vp_in ((g_1 4 3) + v2) 96 ∧ wp_J0_charAt_5068e F s1 v2 g_1 (fun r_6 g_5 => (((g_1 5 ((g_1 4 3) + v2).toNatClampNeg) = r_6 → ∀ v2_8 : Int32, v2_8 = v2 + 1 → (wp_X3_isWord_28 F s1 Q  n) v2_8 g_5) ∧ (¬ (g_1 5 ((g_1 4 3) + v2).toNatClampNeg) = r_6 → Q 0 g_5))))))
def wp_X3_isWord (F : sv_Fr) (s1 : Nat) (g : sv_Mg) (Q : Int32 → sv_Mg → Prop) : Prop := (((g 4 2) = 1 → wp_J0_length_8abf5 F s1 g (fun r_11 g_10 => ((((g 4 4) - (g 4 3)) = r_11 → ∃ n_13, wp_X3_isWord_28 F s1 Q  n_13 0 g_10) ∧ (¬ ((g 4 4) - (g 4 3)) = r_11 → Q 0 g_10)))) ∧ (¬ (g 4 2) = 1 → Q 0 g))
set_option maxRecDepth 100000 in
set_option maxHeartbeats 4000000 in
theorem aw_X3_isWord_28 {x : sv_X} {b : Nat} {xt : sv_Xt} {F : sv_Fr} {s1 : Nat} {Q : Int32 → sv_Mg → Prop} (G : sv_G x b xt RX3 cX3_isWord 3) (RR : sv_R x 4 85 0 0) (T : sv_RT x (some .boolean)) (hL : sv_Lay F) (hs1 : s1 < 14) : ∀ (n : Nat) (v2 : Int32) (g : sv_Mg), wp_X3_isWord_28 F s1 Q  n v2 g → sv_AW x (sv_Q x (sv_qI F Q) 0 0) F g 0 0 28 [(0, .ref (b + 4)), (1, .ref (xt.1 s1)), (2, .int v2)] [] := by
  intro n
  induction n with
  | zero => intro v2 g h; exact h.elim
  | succ n ih =>
    intro v2 g h
    rw [wp_X3_isWord_28] at h
    refine sv_iload_n (pc := 28) G dX3_isWord_28 2 rfl ?_
    refine sv_aload_n (pc := 29) G dX3_isWord_29 1 rfl ?_
    refine sv_callVS (cs := 0) (sl := 0) (st := [.int v2]) (As := []) (q := s1) (pc := 30) G RR (c_J0_length_8abf5 hL hs1 h) mw_J0_length_8abf5 lk_X3_84 hs1 rfl rfl ⟨(Nat.le_of_ble_eq_true rfl), (Nat.le_of_ble_eq_true rfl)⟩ ⟨(Nat.le_of_ble_eq_true rfl), (Nat.le_of_ble_eq_true rfl)⟩ (Nat.le_of_ble_eq_true rfl) rfl dX3_isWord_30 (sv_kI (fun r_2 g_1 h => ?_))
    refine sv_ic_ge (pc := 33) G 63 (by decide) dX3_isWord_33 (fun c_3 => ?_) (fun c_3 => ?_)
    · have h := h.1 c_3
      refine sv_iconst (pc := 63) G dX3_isWord_63 1 ic_1 ?_
      exact sv_zreturn (pc := 64) G T (Or.inr rfl) ⟨(Nat.le_of_ble_eq_true rfl), (Nat.le_of_ble_eq_true rfl)⟩ dX3_isWord_64 ⟨_, rfl, rfl, h⟩
    · have h := h.2 c_3
      refine sv_aload_n (pc := 36) G dX3_isWord_36 0 rfl ?_
      refine sv_getR (pc := 37) G fw_X3_9 (hL.sh rfl) rfl (hL.rf 11 rfl) dX3_isWord_37 ?_
      refine sv_aload_n (pc := 40) G dX3_isWord_40 0 rfl ?_
      refine sv_getI (pc := 41) G fw_X3_22 (hL.sh rfl) rfl dX3_isWord_41 ?_
      refine sv_iload_n (pc := 44) G dX3_isWord_44 2 rfl ?_
      refine sv_iadd (pc := 45) G dX3_isWord_45 ?_
      obtain ⟨s_4, h⟩ := h
      refine sv_ialdK (pc := 46) G (hL.sh rfl) s_4 ((g_1 4 3) + v2).toNatClampNeg rfl dX3_isWord_46 ?_
      refine sv_aload_n (pc := 47) G dX3_isWord_47 1 rfl ?_
      refine sv_iload_n (pc := 48) G dX3_isWord_48 2 rfl ?_
      refine sv_callVS (cs := 0) (sl := 0) (st := [.int (g_1 5 ((g_1 4 3) + v2).toNatClampNeg)]) (As := [.int v2]) (q := s1) (pc := 49) G RR (c_J0_charAt_5068e hL hs1 h) mw_J0_charAt_5068e lk_X3_88 hs1 rfl rfl ⟨(Nat.le_of_ble_eq_true rfl), (Nat.le_of_ble_eq_true rfl)⟩ ⟨(Nat.le_of_ble_eq_true rfl), (Nat.le_of_ble_eq_true rfl)⟩ (Nat.le_of_ble_eq_true rfl) rfl dX3_isWord_49 (sv_kI (fun r_6 g_5 h => ?_))
      refine sv_ic_eq (pc := 52) G 57 (by decide) dX3_isWord_52 (fun c_7 => ?_) (fun c_7 => ?_)
      · have h := h.1 c_7
        obtain ⟨v2_8, ev2_8⟩ : ∃ y : Int32, y = v2 + 1 := ⟨_, rfl⟩
        have h := h v2_8 ev2_8
        refine sv_iinc (pc := 57) G dX3_isWord_57 2 v2_8 [(2, .int v2_8), (0, .ref (b + 4)), (1, .ref (xt.1 s1))] (by rw [ev2_8, ic_1]) rfl (by decide) rfl ?_
        refine sv_goto (pc := 60) G dX3_isWord_60 28 (by decide) ?_
        refine sv_locs [1, 2, 0] [(0, .ref (b + 4)), (1, .ref (xt.1 s1)), (2, .int v2_8)] rfl ?_
        exact ih v2_8 g_5  h
      · have h := h.2 c_7
        refine sv_iconst (pc := 55) G dX3_isWord_55 0 ic_0 ?_
        exact sv_zreturn (pc := 56) G T (Or.inl rfl) ⟨(Nat.le_of_ble_eq_true rfl), (Nat.le_of_ble_eq_true rfl)⟩ dX3_isWord_56 ⟨_, rfl, rfl, h⟩
set_option maxRecDepth 100000 in
set_option maxHeartbeats 4000000 in
theorem c_X3_isWord {b : Nat} {xt : sv_Xt} {F : sv_Fr} {s1 : Nat} {g : sv_Mg} {Q : Int32 → sv_Mg → Prop} (hL : sv_Lay F) (hs1 : s1 < 14) (h : wp_X3_isWord F s1 g Q) : sv_Cal yX3_isWord cX3_isWord 3 (some .boolean) 4 85 0 0 b xt [.ref (b + 4), .ref (xt.1 s1)] F g (sv_qI F Q) := by
  refine sv_intro mw_X3_isWord [(0, .ref (b + 4)), (1, .ref (xt.1 s1))] rfl (Nat.le_of_ble_eq_true rfl) (fun x G RR T NM => ?_)
  have G : sv_G x b xt RX3 cX3_isWord 3 := G
  unfold wp_X3_isWord at h
  refine sv_aload_n (pc := 0) G dX3_isWord_0 0 rfl ?_
  refine sv_getI (pc := 1) G fw_X3_19 (hL.sh rfl) rfl dX3_isWord_1 ?_
  refine sv_iconst (pc := 4) G dX3_isWord_4 1 ic_1 ?_
  refine sv_ic_ne (pc := 5) G 24 (by decide) dX3_isWord_5 (fun c_9 => ?_) (fun c_9 => ?_)
  · have h := h.2 c_9
    refine sv_iconst (pc := 24) G dX3_isWord_24 0 ic_0 ?_
    exact sv_zreturn (pc := 25) G T (Or.inl rfl) ⟨(Nat.le_of_ble_eq_true rfl), (Nat.le_of_ble_eq_true rfl)⟩ dX3_isWord_25 ⟨_, rfl, rfl, h⟩
  · have h := h.1 c_9
    refine sv_aload_n (pc := 8) G dX3_isWord_8 0 rfl ?_
    refine sv_getI (pc := 9) G fw_X3_25 (hL.sh rfl) rfl dX3_isWord_9 ?_
    refine sv_aload_n (pc := 12) G dX3_isWord_12 0 rfl ?_
    refine sv_getI (pc := 13) G fw_X3_22 (hL.sh rfl) rfl dX3_isWord_13 ?_
    refine sv_isub (pc := 16) G dX3_isWord_16 ?_
    refine sv_aload_n (pc := 17) G dX3_isWord_17 1 rfl ?_
    refine sv_callVS (cs := 0) (sl := 0) (st := [.int ((g 4 4) - (g 4 3))]) (As := []) (q := s1) (pc := 18) G RR (c_J0_length_8abf5 hL hs1 h) mw_J0_length_8abf5 lk_X3_84 hs1 rfl rfl ⟨(Nat.le_of_ble_eq_true rfl), (Nat.le_of_ble_eq_true rfl)⟩ ⟨(Nat.le_of_ble_eq_true rfl), (Nat.le_of_ble_eq_true rfl)⟩ (Nat.le_of_ble_eq_true rfl) rfl dX3_isWord_18 (sv_kI (fun r_11 g_10 h => ?_))
    refine sv_ic_eq (pc := 21) G 26 (by decide) dX3_isWord_21 (fun c_12 => ?_) (fun c_12 => ?_)
    · have h := h.1 c_12
      refine sv_iconst (pc := 26) G dX3_isWord_26 0 ic_0 ?_
      refine sv_istore_n (pc := 27) G dX3_isWord_27 [(2, .int 0), (0, .ref (b + 4)), (1, .ref (xt.1 s1))] (by decide) rfl ?_
      refine sv_locs [1, 2, 0] [(0, .ref (b + 4)), (1, .ref (xt.1 s1)), (2, .int 0)] rfl ?_
      obtain ⟨n_13, h⟩ := h
      exact aw_X3_isWord_28 G RR T hL hs1  n_13 0 g_10  h
    · have h := h.2 c_12
      refine sv_iconst (pc := 24) G dX3_isWord_24 0 ic_0 ?_
      exact sv_zreturn (pc := 25) G T (Or.inl rfl) ⟨(Nat.le_of_ble_eq_true rfl), (Nat.le_of_ble_eq_true rfl)⟩ dX3_isWord_25 ⟨_, rfl, rfl, h⟩
def wp_X3_nameOfKey (F : sv_Fr) (v0 : Int32) (g : sv_Mg) (Q : Nat → sv_Mg → Prop) : Prop := ((v0 = 0 → Q 0 g) ∧ (¬ v0 = 0 → ((v0 = 1 → Q 1 g) ∧ (¬ v0 = 1 → Q 2 g))))
set_option maxRecDepth 100000 in
set_option maxHeartbeats 4000000 in
theorem c_X3_nameOfKey {b : Nat} {xt : sv_Xt} {F : sv_Fr} {v0 : Int32} {g : sv_Mg} {Q : Nat → sv_Mg → Prop} (hL : sv_Lay F) (h : wp_X3_nameOfKey F v0 g Q) : sv_Cal yX3_nameOfKey cX3_nameOfKey 1 (some (.object "java/lang/String")) 0 0 0 0 b xt [.int v0] F g (sv_qS xt F Q) := by
  refine sv_intro mw_X3_nameOfKey [(0, .int v0)] rfl (Nat.le_of_ble_eq_true rfl) (fun x G RR T NM => ?_)
  have G : sv_G x b xt RX3 cX3_nameOfKey 1 := G
  unfold wp_X3_nameOfKey at h
  refine sv_iload_n (pc := 0) G dX3_nameOfKey_0 0 rfl ?_
  by_cases c_1 : v0 = 0
  · have h := h.1 c_1
    refine sv_lsw (off := 27) (pc := 1) G dX3_nameOfKey_1 28 (by decide) (by rw [c_1]; decide) (by decide) ?_
    refine sv_ldcS (q := 0) (tx := "sway") (pc := 28) G dX3_nameOfKey_28 ⟨rfl, List.mem_of_getElem? (i := 0) rfl⟩ ?_
    exact sv_areturn (pc := 30) G T rfl ⟨(Nat.le_of_ble_eq_true rfl), (Nat.le_of_ble_eq_true rfl)⟩ dX3_nameOfKey_30 ⟨_, (by decide), rfl, rfl, h⟩
  · have h := h.2 c_1
    by_cases c_2 : v0 = 1
    · have h := h.1 c_2
      refine sv_lsw (off := 30) (pc := 1) G dX3_nameOfKey_1 31 (by decide) (by rw [c_2]; decide) (by decide) ?_
      refine sv_ldcS (q := 1) (tx := "fee") (pc := 31) G dX3_nameOfKey_31 ⟨rfl, List.mem_of_getElem? (i := 1) rfl⟩ ?_
      exact sv_areturn (pc := 33) G T rfl ⟨(Nat.le_of_ble_eq_true rfl), (Nat.le_of_ble_eq_true rfl)⟩ dX3_nameOfKey_33 ⟨_, (by decide), rfl, rfl, h⟩
    · have h := h.2 c_2
      refine sv_lsw (off := 33) (pc := 1) G dX3_nameOfKey_1 34 (by decide) (by show Op.lookupswitch.offset [(0, 27), (1, 30)] _ _ = _; rw [lv_osw c_1 (by decide), lv_osw c_2 (by decide)]; rfl) (by decide) ?_
      refine sv_ldcS (q := 2) (tx := "fine") (pc := 34) G dX3_nameOfKey_34 ⟨rfl, List.mem_of_getElem? (i := 2) rfl⟩ ?_
      exact sv_areturn (pc := 36) G T rfl ⟨(Nat.le_of_ble_eq_true rfl), (Nat.le_of_ble_eq_true rfl)⟩ dX3_nameOfKey_36 ⟨_, (by decide), rfl, rfl, h⟩
def wp_X3_readKey_2 (F : sv_Fr) (Q : Int32 → sv_Mg → Prop) : Nat → Int32 → sv_Mg → Prop
  | 0, _, _ => False
  | n + 1, v1, g => ((3 ≤ v1 → Q 0 g) ∧ (¬ 3 ≤ v1 → wp_X3_nameOfKey F v1 g (fun k_3 g_2 => wp_X3_isWord F k_3 g_2 (fun r_5 g_4 => ((r_5 = 0 → ∀ v1_7 : Int32, v1_7 = v1 + 1 → (wp_X3_readKey_2 F Q  n) v1_7 g_4) ∧ (¬ r_5 = 0 → ∀ g_8, g_8 = sv_st g_4 4 6 v1 → wp_X3_next F  g_8 (fun g_9 => Q 1 g_9)))))))
def wp_X3_readKey (F : sv_Fr) (g : sv_Mg) (Q : Int32 → sv_Mg → Prop) : Prop := ∃ n_10, wp_X3_readKey_2 F  Q  n_10 0 g
set_option maxRecDepth 100000 in
set_option maxHeartbeats 4000000 in
theorem aw_X3_readKey_2 {x : sv_X} {b : Nat} {xt : sv_Xt} {F : sv_Fr} {Q : Int32 → sv_Mg → Prop} (G : sv_G x b xt RX3 cX3_readKey 2) (RR : sv_R x 5 107 0 0) (T : sv_RT x (some .boolean)) (hL : sv_Lay F) : ∀ (n : Nat) (v1 : Int32) (g : sv_Mg), wp_X3_readKey_2 F Q  n v1 g → sv_AW x (sv_Q x (sv_qI F Q) 0 0) F g 0 0 2 [(0, .ref (b + 4)), (1, .int v1)] [] := by
  intro n
  induction n with
  | zero => intro v1 g h; exact h.elim
  | succ n ih =>
    intro v1 g h
    rw [wp_X3_readKey_2] at h
    refine sv_iload_n (pc := 2) G dX3_readKey_2 1 rfl ?_
    refine sv_iconst (pc := 3) G dX3_readKey_3 3 ic_3 ?_
    refine sv_ic_ge (pc := 4) G 35 (by decide) dX3_readKey_4 (fun c_1 => ?_) (fun c_1 => ?_)
    · have h := h.1 c_1
      refine sv_iconst (pc := 35) G dX3_readKey_35 0 ic_0 ?_
      exact sv_zreturn (pc := 36) G T (Or.inl rfl) ⟨(Nat.le_of_ble_eq_true rfl), (Nat.le_of_ble_eq_true rfl)⟩ dX3_readKey_36 ⟨_, rfl, rfl, h⟩
    · have h := h.2 c_1
      refine sv_aload_n (pc := 7) G dX3_readKey_7 0 rfl ?_
      refine sv_iload_n (pc := 8) G dX3_readKey_8 1 rfl ?_
      refine sv_callS (cs := 0) (sl := 0) (st := [.ref (b + 4)]) (As := [.int v1]) (pc := 9) G RR (c_X3_nameOfKey hL  h) mw_X3_nameOfKey lk_X3_76 rfl ⟨(Nat.le_of_ble_eq_true rfl), (Nat.le_of_ble_eq_true rfl)⟩ ⟨(Nat.le_of_ble_eq_true rfl), (Nat.le_of_ble_eq_true rfl)⟩ (Nat.le_of_ble_eq_true rfl) rfl dX3_readKey_9 (sv_kS (fun k_3 g_2 hk_3 h => ?_))
      refine sv_callV (cs := 0) (sl := 0) (st := []) (As := [.ref (xt.1 k_3)]) (a := 4) (pc := 12) G RR (c_X3_isWord hL hk_3 h) mw_X3_isWord lk_X3_80 (hL.sh rfl) (by decide) rfl rfl ⟨(Nat.le_of_ble_eq_true rfl), (Nat.le_of_ble_eq_true rfl)⟩ ⟨(Nat.le_of_ble_eq_true rfl), (Nat.le_of_ble_eq_true rfl)⟩ (Nat.le_of_ble_eq_true rfl) rfl dX3_readKey_12 (sv_kI (fun r_5 g_4 h => ?_))
      refine sv_if_eq (pc := 15) G 29 (by decide) dX3_readKey_15 (fun c_6 => ?_) (fun c_6 => ?_)
      · have h := h.1 c_6
        obtain ⟨v1_7, ev1_7⟩ : ∃ y : Int32, y = v1 + 1 := ⟨_, rfl⟩
        have h := h v1_7 ev1_7
        refine sv_iinc (pc := 29) G dX3_readKey_29 1 v1_7 [(1, .int v1_7), (0, .ref (b + 4))] (by rw [ev1_7, ic_1]) rfl (by decide) rfl ?_
        refine sv_goto (pc := 32) G dX3_readKey_32 2 (by decide) ?_
        refine sv_locs [1, 0] [(0, .ref (b + 4)), (1, .int v1_7)] rfl ?_
        exact ih v1_7 g_4  h
      · have h := h.2 c_6
        refine sv_aload_n (pc := 18) G dX3_readKey_18 0 rfl ?_
        refine sv_iload_n (pc := 19) G dX3_readKey_19 1 rfl ?_
        refine sv_putI (pc := 20) G fw_X3_31 (hL.sh rfl) rfl dX3_readKey_20 (fun g_8 eg_8 => ?_)
        have h := h g_8 eg_8
        refine sv_aload_n (pc := 23) G dX3_readKey_23 0 rfl ?_
        refine sv_callV (cs := 0) (sl := 0) (st := []) (As := []) (a := 4) (pc := 24) G RR (c_X3_next hL  h) mw_X3_next lk_X3_43 (hL.sh rfl) (by decide) rfl rfl ⟨(Nat.le_of_ble_eq_true rfl), (Nat.le_of_ble_eq_true rfl)⟩ ⟨(Nat.le_of_ble_eq_true rfl), (Nat.le_of_ble_eq_true rfl)⟩ (Nat.le_of_ble_eq_true rfl) rfl dX3_readKey_24 (sv_kV (fun g_9 h => ?_))
        refine sv_iconst (pc := 27) G dX3_readKey_27 1 ic_1 ?_
        exact sv_zreturn (pc := 28) G T (Or.inr rfl) ⟨(Nat.le_of_ble_eq_true rfl), (Nat.le_of_ble_eq_true rfl)⟩ dX3_readKey_28 ⟨_, rfl, rfl, h⟩
set_option maxRecDepth 100000 in
set_option maxHeartbeats 4000000 in
theorem c_X3_readKey {b : Nat} {xt : sv_Xt} {F : sv_Fr} {g : sv_Mg} {Q : Int32 → sv_Mg → Prop} (hL : sv_Lay F) (h : wp_X3_readKey F g Q) : sv_Cal yX3_readKey cX3_readKey 2 (some .boolean) 5 107 0 0 b xt [.ref (b + 4)] F g (sv_qI F Q) := by
  refine sv_intro mw_X3_readKey [(0, .ref (b + 4))] rfl (Nat.le_of_ble_eq_true rfl) (fun x G RR T NM => ?_)
  have G : sv_G x b xt RX3 cX3_readKey 2 := G
  unfold wp_X3_readKey at h
  refine sv_iconst (pc := 0) G dX3_readKey_0 0 ic_0 ?_
  refine sv_istore_n (pc := 1) G dX3_readKey_1 [(1, .int 0), (0, .ref (b + 4))] (by decide) rfl ?_
  refine sv_locs [1, 0] [(0, .ref (b + 4)), (1, .int 0)] rfl ?_
  obtain ⟨n_10, h⟩ := h
  exact aw_X3_readKey_2 G RR T hL   n_10 0 g  h
def wp_X3_read_53 (F : sv_Fr) (Q : Int32 → sv_Mg → Prop) (s0 : Int32) (g : sv_Mg) : Prop := ((s0 = 0 → Q (g 4 3) g) ∧ (¬ s0 = 0 → Q (-1) g))
def wp_X3_read_52 (F : sv_Fr) (Q : Int32 → sv_Mg → Prop) (g : sv_Mg) : Prop := wp_X3_read_53 F  Q  0 g
def wp_X3_read (F : sv_Fr) (g : sv_Mg) (Q : Int32 → sv_Mg → Prop) : Prop := ∀ g_2, g_2 = sv_st g 4 2 0 → ∀ g_3, g_3 = sv_st g_2 4 4 0 → ∀ g_4, g_4 = sv_st g_3 4 7 0 → ∀ g_5, g_5 = sv_st g_4 4 9 0 → wp_X3_next F  g_5 (fun g_6 => wp_X3_readKey F  g_6 (fun r_8 g_7 => ((r_8 = 0 → wp_X3_read_52 F  Q   g_7) ∧ (¬ r_8 = 0 → wp_X3_chainT F 0 0 0 g_7 (fun r_11 g_10 => ((r_11 = 0 → wp_X3_read_52 F  Q   g_10) ∧ (¬ r_11 = 0 → (((g_10 4 2) = 0 → wp_X3_read_53 F  Q  1 g_10) ∧ (¬ (g_10 4 2) = 0 → wp_X3_read_52 F  Q   g_10)))))))))
set_option maxRecDepth 100000 in
set_option maxHeartbeats 4000000 in
theorem aw_X3_read_53 {x : sv_X} {b : Nat} {xt : sv_Xt} {F : sv_Fr} {Q : Int32 → sv_Mg → Prop} (G : sv_G x b xt RX3 cX3_read 2) (RR : sv_R x 107 6158 0 0) (T : sv_RT x (some .int)) (hL : sv_Lay F) : ∀ (s0 : Int32) (g : sv_Mg), wp_X3_read_53 F Q  s0 g → sv_AW x (sv_Q x (sv_qI F Q) 0 0) F g 0 0 53 [(0, .ref (b + 4))] [.int s0] := by
  intro s0 g h
  unfold wp_X3_read_53 at h
  refine sv_istore_n (pc := 53) G dX3_read_53 [(1, .int s0), (0, .ref (b + 4))] (by decide) rfl ?_
  refine sv_iload_n (pc := 54) G dX3_read_54 0 rfl ?_
  refine sv_if_eq (pc := 55) G 62 (by decide) dX3_read_55 (fun c_1 => ?_) (fun c_1 => ?_)
  · have h := h.1 c_1
    refine sv_aload_n (pc := 62) G dX3_read_62 1 rfl ?_
    refine sv_getI (pc := 63) G fw_X3_22 (hL.sh rfl) rfl dX3_read_63 ?_
    exact sv_ireturn (pc := 66) G T ⟨(Nat.le_of_ble_eq_true rfl), (Nat.le_of_ble_eq_true rfl)⟩ dX3_read_66 ⟨_, rfl, rfl, h⟩
  · have h := h.2 c_1
    refine sv_iconst (pc := 58) G dX3_read_58 (-1) ic_m1 ?_
    refine sv_goto (pc := 59) G dX3_read_59 66 (by decide) ?_
    exact sv_ireturn (pc := 66) G T ⟨(Nat.le_of_ble_eq_true rfl), (Nat.le_of_ble_eq_true rfl)⟩ dX3_read_66 ⟨_, rfl, rfl, h⟩
set_option maxRecDepth 100000 in
set_option maxHeartbeats 4000000 in
theorem aw_X3_read_52 {x : sv_X} {b : Nat} {xt : sv_Xt} {F : sv_Fr} {Q : Int32 → sv_Mg → Prop} (G : sv_G x b xt RX3 cX3_read 2) (RR : sv_R x 107 6158 0 0) (T : sv_RT x (some .int)) (hL : sv_Lay F) : ∀  (g : sv_Mg), wp_X3_read_52 F Q   g → sv_AW x (sv_Q x (sv_qI F Q) 0 0) F g 0 0 52 [(0, .ref (b + 4))] [] := by
  intro g h
  unfold wp_X3_read_52 at h
  refine sv_iconst (pc := 52) G dX3_read_52 0 ic_0 ?_
  refine sv_locs [0] [(0, .ref (b + 4))] rfl ?_
  exact aw_X3_read_53 G RR T hL   0 g  h
set_option maxRecDepth 100000 in
set_option maxHeartbeats 4000000 in
theorem c_X3_read {b : Nat} {xt : sv_Xt} {F : sv_Fr} {g : sv_Mg} {Q : Int32 → sv_Mg → Prop} (hL : sv_Lay F) (h : wp_X3_read F g Q) : sv_Cal yX3_read cX3_read 2 (some .int) 107 6158 0 0 b xt [.ref (b + 4)] F g (sv_qI F Q) := by
  refine sv_intro mw_X3_read [(0, .ref (b + 4))] rfl (Nat.le_of_ble_eq_true rfl) (fun x G RR T NM => ?_)
  have G : sv_G x b xt RX3 cX3_read 2 := G
  unfold wp_X3_read at h
  refine sv_aload_n (pc := 0) G dX3_read_0 0 rfl ?_
  refine sv_iconst (pc := 1) G dX3_read_1 0 ic_0 ?_
  refine sv_putI (pc := 2) G fw_X3_19 (hL.sh rfl) rfl dX3_read_2 (fun g_2 eg_2 => ?_)
  have h := h g_2 eg_2
  refine sv_aload_n (pc := 5) G dX3_read_5 0 rfl ?_
  refine sv_iconst (pc := 6) G dX3_read_6 0 ic_0 ?_
  refine sv_putI (pc := 7) G fw_X3_25 (hL.sh rfl) rfl dX3_read_7 (fun g_3 eg_3 => ?_)
  have h := h g_3 eg_3
  refine sv_aload_n (pc := 10) G dX3_read_10 0 rfl ?_
  refine sv_iconst (pc := 11) G dX3_read_11 0 ic_0 ?_
  refine sv_putI (pc := 12) G fw_X3_34 (hL.sh rfl) rfl dX3_read_12 (fun g_4 eg_4 => ?_)
  have h := h g_4 eg_4
  refine sv_aload_n (pc := 15) G dX3_read_15 0 rfl ?_
  refine sv_iconst (pc := 16) G dX3_read_16 0 ic_0 ?_
  refine sv_putI (pc := 17) G fw_X3_40 (hL.sh rfl) rfl dX3_read_17 (fun g_5 eg_5 => ?_)
  have h := h g_5 eg_5
  refine sv_aload_n (pc := 20) G dX3_read_20 0 rfl ?_
  refine sv_callV (cs := 0) (sl := 0) (st := []) (As := []) (a := 4) (pc := 21) G RR (c_X3_next hL  h) mw_X3_next lk_X3_43 (hL.sh rfl) (by decide) rfl rfl ⟨(Nat.le_of_ble_eq_true rfl), (Nat.le_of_ble_eq_true rfl)⟩ ⟨(Nat.le_of_ble_eq_true rfl), (Nat.le_of_ble_eq_true rfl)⟩ (Nat.le_of_ble_eq_true rfl) rfl dX3_read_21 (sv_kV (fun g_6 h => ?_))
  refine sv_aload_n (pc := 24) G dX3_read_24 0 rfl ?_
  refine sv_callV (cs := 0) (sl := 0) (st := []) (As := []) (a := 4) (pc := 25) G RR (c_X3_readKey hL  h) mw_X3_readKey lk_X3_46 (hL.sh rfl) (by decide) rfl rfl ⟨(Nat.le_of_ble_eq_true rfl), (Nat.le_of_ble_eq_true rfl)⟩ ⟨(Nat.le_of_ble_eq_true rfl), (Nat.le_of_ble_eq_true rfl)⟩ (Nat.le_of_ble_eq_true rfl) rfl dX3_read_25 (sv_kI (fun r_8 g_7 h => ?_))
  refine sv_if_eq (pc := 28) G 52 (by decide) dX3_read_28 (fun c_9 => ?_) (fun c_9 => ?_)
  · have h := h.1 c_9
    refine sv_locs [0] [(0, .ref (b + 4))] rfl ?_
    exact aw_X3_read_52 G RR T hL    g_7  h
  · have h := h.2 c_9
    refine sv_aload_n (pc := 31) G dX3_read_31 0 rfl ?_
    refine sv_iconst (pc := 32) G dX3_read_32 0 ic_0 ?_
    refine sv_iconst (pc := 33) G dX3_read_33 0 ic_0 ?_
    refine sv_iconst (pc := 34) G dX3_read_34 0 ic_0 ?_
    refine sv_callV (cs := 0) (sl := 0) (st := []) (As := [.int 0, .int 0, .int 0]) (a := 4) (pc := 35) G RR (c_X3_chainT hL  h) mw_X3_readChain lk_X3_50 (hL.sh rfl) (by decide) rfl rfl ⟨(Nat.le_of_ble_eq_true rfl), (Nat.le_of_ble_eq_true rfl)⟩ ⟨(Nat.le_of_ble_eq_true rfl), (Nat.le_of_ble_eq_true rfl)⟩ (Nat.le_of_ble_eq_true rfl) rfl dX3_read_35 (sv_kI (fun r_11 g_10 h => ?_))
    refine sv_if_eq (pc := 38) G 52 (by decide) dX3_read_38 (fun c_12 => ?_) (fun c_12 => ?_)
    · have h := h.1 c_12
      refine sv_locs [0] [(0, .ref (b + 4))] rfl ?_
      exact aw_X3_read_52 G RR T hL    g_10  h
    · have h := h.2 c_12
      refine sv_aload_n (pc := 41) G dX3_read_41 0 rfl ?_
      refine sv_getI (pc := 42) G fw_X3_19 (hL.sh rfl) rfl dX3_read_42 ?_
      refine sv_if_ne (pc := 45) G 52 (by decide) dX3_read_45 (fun c_13 => ?_) (fun c_13 => ?_)
      · have h := h.2 c_13
        refine sv_locs [0] [(0, .ref (b + 4))] rfl ?_
        exact aw_X3_read_52 G RR T hL    g_10  h
      · have h := h.1 c_13
        refine sv_iconst (pc := 48) G dX3_read_48 1 ic_1 ?_
        refine sv_goto (pc := 49) G dX3_read_49 53 (by decide) ?_
        refine sv_locs [0] [(0, .ref (b + 4))] rfl ?_
        exact aw_X3_read_53 G RR T hL   1 g_10  h
def wp_X4_isMissing (F : sv_Fr) (a : Nat) (g : sv_Mg) (Q : Int32 → sv_Mg → Prop) : Prop := (((g a 1) = (-1) → Q 1 g) ∧ (¬ (g a 1) = (-1) → Q 0 g))
set_option maxRecDepth 100000 in
set_option maxHeartbeats 4000000 in
theorem c_X4_isMissing {b : Nat} {xt : sv_Xt} {F : sv_Fr} {a : Nat} {g : sv_Mg} {Q : Int32 → sv_Mg → Prop} (hL : sv_Lay F) (ha : sv_isS a) (h : wp_X4_isMissing F a g Q) : sv_Cal yX4_isMissing cX4_isMissing 1 (some .boolean) 0 0 0 0 b xt [.ref (b + a)] F g (sv_qI F Q) := by
  refine sv_intro mw_X4_isMissing [(0, .ref (b + a))] rfl (Nat.le_of_ble_eq_true rfl) (fun x G RR T NM => ?_)
  have G : sv_G x b xt RX4 cX4_isMissing 1 := G
  unfold wp_X4_isMissing at h
  refine sv_aload_n (pc := 0) G dX4_isMissing_0 0 rfl ?_
  refine sv_getI (pc := 1) G fw_X4_15 (hL.sS ha) rfl dX4_isMissing_1 ?_
  refine sv_iconst (pc := 4) G dX4_isMissing_4 (-1) ic_m1 ?_
  refine sv_ic_ne (pc := 5) G 12 (by decide) dX4_isMissing_5 (fun c_1 => ?_) (fun c_1 => ?_)
  · have h := h.2 c_1
    refine sv_iconst (pc := 12) G dX4_isMissing_12 0 ic_0 ?_
    exact sv_zreturn (pc := 13) G T (Or.inl rfl) ⟨(Nat.le_of_ble_eq_true rfl), (Nat.le_of_ble_eq_true rfl)⟩ dX4_isMissing_13 ⟨_, rfl, rfl, h⟩
  · have h := h.1 c_1
    refine sv_iconst (pc := 8) G dX4_isMissing_8 1 ic_1 ?_
    refine sv_goto (pc := 9) G dX4_isMissing_9 13 (by decide) ?_
    exact sv_zreturn (pc := 13) G T (Or.inr rfl) ⟨(Nat.le_of_ble_eq_true rfl), (Nat.le_of_ble_eq_true rfl)⟩ dX4_isMissing_13 ⟨_, rfl, rfl, h⟩
def wp_X4_hasPlace (F : sv_Fr) (a : Nat) (v1 : Int32) (g : sv_Mg) (Q : Int32 → sv_Mg → Prop) : Prop := ((v1 < 0 → Q 0 g) ∧ (¬ v1 < 0 → (((g a 2) ≤ v1 → Q 0 g) ∧ (¬ (g a 2) ≤ v1 → Q 1 g))))
set_option maxRecDepth 100000 in
set_option maxHeartbeats 4000000 in
theorem c_X4_hasPlace {b : Nat} {xt : sv_Xt} {F : sv_Fr} {a : Nat} {v1 : Int32} {g : sv_Mg} {Q : Int32 → sv_Mg → Prop} (hL : sv_Lay F) (ha : sv_isS a) (h : wp_X4_hasPlace F a v1 g Q) : sv_Cal yX4_hasPlace cX4_hasPlace 2 (some .boolean) 0 0 0 0 b xt [.ref (b + a), .int v1] F g (sv_qI F Q) := by
  refine sv_intro mw_X4_hasPlace [(0, .ref (b + a)), (1, .int v1)] rfl (Nat.le_of_ble_eq_true rfl) (fun x G RR T NM => ?_)
  have G : sv_G x b xt RX4 cX4_hasPlace 2 := G
  unfold wp_X4_hasPlace at h
  refine sv_iload_n (pc := 0) G dX4_hasPlace_0 1 rfl ?_
  refine sv_if_lt (pc := 1) G 16 (by decide) dX4_hasPlace_1 (fun c_1 => ?_) (fun c_1 => ?_)
  · have h := h.1 c_1
    refine sv_iconst (pc := 16) G dX4_hasPlace_16 0 ic_0 ?_
    exact sv_zreturn (pc := 17) G T (Or.inl rfl) ⟨(Nat.le_of_ble_eq_true rfl), (Nat.le_of_ble_eq_true rfl)⟩ dX4_hasPlace_17 ⟨_, rfl, rfl, h⟩
  · have h := h.2 c_1
    refine sv_iload_n (pc := 4) G dX4_hasPlace_4 1 rfl ?_
    refine sv_aload_n (pc := 5) G dX4_hasPlace_5 0 rfl ?_
    refine sv_getI (pc := 6) G fw_X4_19 (hL.sS ha) rfl dX4_hasPlace_6 ?_
    refine sv_ic_ge (pc := 9) G 16 (by decide) dX4_hasPlace_9 (fun c_2 => ?_) (fun c_2 => ?_)
    · have h := h.1 c_2
      refine sv_iconst (pc := 16) G dX4_hasPlace_16 0 ic_0 ?_
      exact sv_zreturn (pc := 17) G T (Or.inl rfl) ⟨(Nat.le_of_ble_eq_true rfl), (Nat.le_of_ble_eq_true rfl)⟩ dX4_hasPlace_17 ⟨_, rfl, rfl, h⟩
    · have h := h.2 c_2
      refine sv_iconst (pc := 12) G dX4_hasPlace_12 1 ic_1 ?_
      refine sv_goto (pc := 13) G dX4_hasPlace_13 17 (by decide) ?_
      exact sv_zreturn (pc := 17) G T (Or.inr rfl) ⟨(Nat.le_of_ble_eq_true rfl), (Nat.le_of_ble_eq_true rfl)⟩ dX4_hasPlace_17 ⟨_, rfl, rfl, h⟩
def wp_X4_hasStretch (F : sv_Fr) (a : Nat) (v1 : Int32) (v2 : Int32) (g : sv_Mg) (Q : Int32 → sv_Mg → Prop) : Prop := ((v1 < 0 → Q 0 g) ∧ (¬ v1 < 0 → ((v2 < 0 → Q 0 g) ∧ (¬ v2 < 0 → (((g a 2) < v1 → Q 0 g) ∧ (¬ (g a 2) < v1 → ((((g a 2) - v1) < v2 → Q 0 g) ∧ (¬ ((g a 2) - v1) < v2 → Q 1 g))))))))
set_option maxRecDepth 100000 in
set_option maxHeartbeats 4000000 in
theorem c_X4_hasStretch {b : Nat} {xt : sv_Xt} {F : sv_Fr} {a : Nat} {v1 : Int32} {v2 : Int32} {g : sv_Mg} {Q : Int32 → sv_Mg → Prop} (hL : sv_Lay F) (ha : sv_isS a) (h : wp_X4_hasStretch F a v1 v2 g Q) : sv_Cal yX4_hasStretch cX4_hasStretch 3 (some .boolean) 0 0 0 0 b xt [.ref (b + a), .int v1, .int v2] F g (sv_qI F Q) := by
  refine sv_intro mw_X4_hasStretch [(0, .ref (b + a)), (1, .int v1), (2, .int v2)] rfl (Nat.le_of_ble_eq_true rfl) (fun x G RR T NM => ?_)
  have G : sv_G x b xt RX4 cX4_hasStretch 3 := G
  unfold wp_X4_hasStretch at h
  refine sv_iload_n (pc := 0) G dX4_hasStretch_0 1 rfl ?_
  refine sv_if_lt (pc := 1) G 30 (by decide) dX4_hasStretch_1 (fun c_1 => ?_) (fun c_1 => ?_)
  · have h := h.1 c_1
    refine sv_iconst (pc := 30) G dX4_hasStretch_30 0 ic_0 ?_
    exact sv_zreturn (pc := 31) G T (Or.inl rfl) ⟨(Nat.le_of_ble_eq_true rfl), (Nat.le_of_ble_eq_true rfl)⟩ dX4_hasStretch_31 ⟨_, rfl, rfl, h⟩
  · have h := h.2 c_1
    refine sv_iload_n (pc := 4) G dX4_hasStretch_4 2 rfl ?_
    refine sv_if_lt (pc := 5) G 30 (by decide) dX4_hasStretch_5 (fun c_2 => ?_) (fun c_2 => ?_)
    · have h := h.1 c_2
      refine sv_iconst (pc := 30) G dX4_hasStretch_30 0 ic_0 ?_
      exact sv_zreturn (pc := 31) G T (Or.inl rfl) ⟨(Nat.le_of_ble_eq_true rfl), (Nat.le_of_ble_eq_true rfl)⟩ dX4_hasStretch_31 ⟨_, rfl, rfl, h⟩
    · have h := h.2 c_2
      refine sv_iload_n (pc := 8) G dX4_hasStretch_8 1 rfl ?_
      refine sv_aload_n (pc := 9) G dX4_hasStretch_9 0 rfl ?_
      refine sv_getI (pc := 10) G fw_X4_19 (hL.sS ha) rfl dX4_hasStretch_10 ?_
      refine sv_ic_gt (pc := 13) G 30 (by decide) dX4_hasStretch_13 (fun c_3 => ?_) (fun c_3 => ?_)
      · have h := h.1 c_3
        refine sv_iconst (pc := 30) G dX4_hasStretch_30 0 ic_0 ?_
        exact sv_zreturn (pc := 31) G T (Or.inl rfl) ⟨(Nat.le_of_ble_eq_true rfl), (Nat.le_of_ble_eq_true rfl)⟩ dX4_hasStretch_31 ⟨_, rfl, rfl, h⟩
      · have h := h.2 c_3
        refine sv_iload_n (pc := 16) G dX4_hasStretch_16 2 rfl ?_
        refine sv_aload_n (pc := 17) G dX4_hasStretch_17 0 rfl ?_
        refine sv_getI (pc := 18) G fw_X4_19 (hL.sS ha) rfl dX4_hasStretch_18 ?_
        refine sv_iload_n (pc := 21) G dX4_hasStretch_21 1 rfl ?_
        refine sv_isub (pc := 22) G dX4_hasStretch_22 ?_
        refine sv_ic_gt (pc := 23) G 30 (by decide) dX4_hasStretch_23 (fun c_4 => ?_) (fun c_4 => ?_)
        · have h := h.1 c_4
          refine sv_iconst (pc := 30) G dX4_hasStretch_30 0 ic_0 ?_
          exact sv_zreturn (pc := 31) G T (Or.inl rfl) ⟨(Nat.le_of_ble_eq_true rfl), (Nat.le_of_ble_eq_true rfl)⟩ dX4_hasStretch_31 ⟨_, rfl, rfl, h⟩
        · have h := h.2 c_4
          refine sv_iconst (pc := 26) G dX4_hasStretch_26 1 ic_1 ?_
          refine sv_goto (pc := 27) G dX4_hasStretch_27 31 (by decide) ?_
          exact sv_zreturn (pc := 31) G T (Or.inr rfl) ⟨(Nat.le_of_ble_eq_true rfl), (Nat.le_of_ble_eq_true rfl)⟩ dX4_hasStretch_31 ⟨_, rfl, rfl, h⟩
def wp_X4_isNumber (F : sv_Fr) (a : Nat) (v1 : Int32) (g : sv_Mg) (Q : Int32 → sv_Mg → Prop) : Prop := wp_X4_hasPlace F a v1 g (fun r_2 g_1 => ((r_2 = 0 → Q 0 g_1) ∧ (¬ r_2 = 0 → vp_in v1 24 ∧ (((g_1 (a + 1) v1.toNatClampNeg) = (-1000000005) → Q 0 g_1) ∧ (¬ (g_1 (a + 1) v1.toNatClampNeg) = (-1000000005) → Q 1 g_1)))))
set_option maxRecDepth 100000 in
set_option maxHeartbeats 4000000 in
theorem c_X4_isNumber {b : Nat} {xt : sv_Xt} {F : sv_Fr} {a : Nat} {v1 : Int32} {g : sv_Mg} {Q : Int32 → sv_Mg → Prop} (hL : sv_Lay F) (ha : sv_isS a) (h : wp_X4_isNumber F a v1 g Q) : sv_Cal yX4_isNumber cX4_isNumber 2 (some .boolean) 1 21 0 0 b xt [.ref (b + a), .int v1] F g (sv_qI F Q) := by
  refine sv_intro mw_X4_isNumber [(0, .ref (b + a)), (1, .int v1)] rfl (Nat.le_of_ble_eq_true rfl) (fun x G RR T NM => ?_)
  have G : sv_G x b xt RX4 cX4_isNumber 2 := G
  unfold wp_X4_isNumber at h
  refine sv_aload_n (pc := 0) G dX4_isNumber_0 0 rfl ?_
  refine sv_iload_n (pc := 1) G dX4_isNumber_1 1 rfl ?_
  refine sv_callV (cs := 0) (sl := 0) (st := []) (As := [.int v1]) (a := a) (pc := 2) G RR (c_X4_hasPlace hL ha h) mw_X4_hasPlace lk_X4_22 (hL.sS ha) (by decide) rfl rfl ⟨(Nat.le_of_ble_eq_true rfl), (Nat.le_of_ble_eq_true rfl)⟩ ⟨(Nat.le_of_ble_eq_true rfl), (Nat.le_of_ble_eq_true rfl)⟩ (Nat.le_of_ble_eq_true rfl) rfl dX4_isNumber_2 (sv_kI (fun r_2 g_1 h => ?_))
  refine sv_if_eq (pc := 5) G 23 (by decide) dX4_isNumber_5 (fun c_3 => ?_) (fun c_3 => ?_)
  · have h := h.1 c_3
    refine sv_iconst (pc := 23) G dX4_isNumber_23 0 ic_0 ?_
    exact sv_zreturn (pc := 24) G T (Or.inl rfl) ⟨(Nat.le_of_ble_eq_true rfl), (Nat.le_of_ble_eq_true rfl)⟩ dX4_isNumber_24 ⟨_, rfl, rfl, h⟩
  · have h := h.2 c_3
    refine sv_aload_n (pc := 8) G dX4_isNumber_8 0 rfl ?_
    refine sv_getR (pc := 9) G fw_X4_9 (hL.sS ha) rfl (hL.sR ha) dX4_isNumber_9 ?_
    refine sv_iload_n (pc := 12) G dX4_isNumber_12 1 rfl ?_
    obtain ⟨s_4, h⟩ := h
    refine sv_ialdK (pc := 13) G (hL.sA ha) s_4 v1.toNatClampNeg rfl dX4_isNumber_13 ?_
    refine sv_ldc (pc := 14) G dX4_isNumber_14 cn_X4_26 ?_
    refine sv_ic_eq (pc := 16) G 23 (by decide) dX4_isNumber_16 (fun c_5 => ?_) (fun c_5 => ?_)
    · have h := h.1 c_5
      refine sv_iconst (pc := 23) G dX4_isNumber_23 0 ic_0 ?_
      exact sv_zreturn (pc := 24) G T (Or.inl rfl) ⟨(Nat.le_of_ble_eq_true rfl), (Nat.le_of_ble_eq_true rfl)⟩ dX4_isNumber_24 ⟨_, rfl, rfl, h⟩
    · have h := h.2 c_5
      refine sv_iconst (pc := 19) G dX4_isNumber_19 1 ic_1 ?_
      refine sv_goto (pc := 20) G dX4_isNumber_20 24 (by decide) ?_
      exact sv_zreturn (pc := 24) G T (Or.inr rfl) ⟨(Nat.le_of_ble_eq_true rfl), (Nat.le_of_ble_eq_true rfl)⟩ dX4_isNumber_24 ⟨_, rfl, rfl, h⟩
def wp_X4_clear (F : sv_Fr) (a : Nat) (v1 : Int32) (v2 : Int32) (g : sv_Mg) (Q : sv_Mg → Prop) : Prop := ∀ g_1, g_1 = sv_st g a 1 v1 → ∀ g_2, g_2 = sv_st g_1 a 2 v2 → wp_J7_fill_53178 F (a + 1) 24 0 g_2 (fun g_3 => Q g_3)
set_option maxRecDepth 100000 in
set_option maxHeartbeats 4000000 in
theorem c_X4_clear {b : Nat} {xt : sv_Xt} {F : sv_Fr} {a : Nat} {v1 : Int32} {v2 : Int32} {g : sv_Mg} {Q : sv_Mg → Prop} (hL : sv_Lay F) (ha : sv_isS a) (h : wp_X4_clear F a v1 v2 g Q) : sv_Cal yX4_clear cX4_clear 3 none 1 23 0 0 b xt [.ref (b + a), .int v1, .int v2] F g (sv_qV F Q) := by
  refine sv_intro mw_X4_clear [(0, .ref (b + a)), (1, .int v1), (2, .int v2)] rfl (Nat.le_of_ble_eq_true rfl) (fun x G RR T NM => ?_)
  have G : sv_G x b xt RX4 cX4_clear 3 := G
  unfold wp_X4_clear at h
  refine sv_aload_n (pc := 0) G dX4_clear_0 0 rfl ?_
  refine sv_iload_n (pc := 1) G dX4_clear_1 1 rfl ?_
  refine sv_putI (pc := 2) G fw_X4_15 (hL.sS ha) rfl dX4_clear_2 (fun g_1 eg_1 => ?_)
  have h := h g_1 eg_1
  refine sv_aload_n (pc := 5) G dX4_clear_5 0 rfl ?_
  refine sv_iload_n (pc := 6) G dX4_clear_6 2 rfl ?_
  refine sv_putI (pc := 7) G fw_X4_19 (hL.sS ha) rfl dX4_clear_7 (fun g_2 eg_2 => ?_)
  have h := h g_2 eg_2
  refine sv_aload_n (pc := 10) G dX4_clear_10 0 rfl ?_
  refine sv_getR (pc := 11) G fw_X4_9 (hL.sS ha) rfl (hL.sR ha) dX4_clear_11 ?_
  refine sv_iconst (pc := 14) G dX4_clear_14 0 ic_0 ?_
  refine sv_callS (cs := 0) (sl := 0) (st := []) (As := [.ref (b + (a + 1)), .int 0]) (pc := 15) G RR (c_J7_fill_53178 hL (hL.sA ha) h) mw_J7_fill_53178 lk_X4_27 rfl ⟨(Nat.le_of_ble_eq_true rfl), (Nat.le_of_ble_eq_true rfl)⟩ ⟨(Nat.le_of_ble_eq_true rfl), (Nat.le_of_ble_eq_true rfl)⟩ (Nat.le_of_ble_eq_true rfl) rfl dX4_clear_15 (sv_kV (fun g_3 h => ?_))
  exact sv_vreturn (pc := 18) G T ⟨(Nat.le_of_ble_eq_true rfl), (Nat.le_of_ble_eq_true rfl)⟩ dX4_clear_18 ⟨rfl, rfl, h⟩
def wp_X4_become (F : sv_Fr) (a : Nat) (a1 : Nat) (g : sv_Mg) (Q : sv_Mg → Prop) : Prop := ∀ g_1, g_1 = sv_st g a 1 (g a1 1) → ∀ g_2, g_2 = sv_st g_1 a 2 (g_1 a1 2) → ∀ g_3, g_3 = sv_sa g_2 (a + 1) (va_cpy (g_2 (a1 + 1)) (g_2 (a + 1)) 0 0 24) → Q g_3
set_option maxRecDepth 100000 in
set_option maxHeartbeats 4000000 in
theorem c_X4_become {b : Nat} {xt : sv_Xt} {F : sv_Fr} {a : Nat} {a1 : Nat} {g : sv_Mg} {Q : sv_Mg → Prop} (hL : sv_Lay F) (ha : sv_isS a) (ha1 : sv_isS a1) (h : wp_X4_become F a a1 g Q) : sv_Cal yX4_become cX4_become 2 none 1 100 0 0 b xt [.ref (b + a), .ref (b + a1)] F g (sv_qV F Q) := by
  refine sv_intro mw_X4_become [(0, .ref (b + a)), (1, .ref (b + a1))] rfl (Nat.le_of_ble_eq_true rfl) (fun x G RR T NM => ?_)
  have G : sv_G x b xt RX4 cX4_become 2 := G
  unfold wp_X4_become at h
  refine sv_aload_n (pc := 0) G dX4_become_0 0 rfl ?_
  refine sv_aload_n (pc := 1) G dX4_become_1 1 rfl ?_
  refine sv_getI (pc := 2) G fw_X4_15 (hL.sS ha1) rfl dX4_become_2 ?_
  refine sv_putI (pc := 5) G fw_X4_15 (hL.sS ha) rfl dX4_become_5 (fun g_1 eg_1 => ?_)
  have h := h g_1 eg_1
  refine sv_aload_n (pc := 8) G dX4_become_8 0 rfl ?_
  refine sv_aload_n (pc := 9) G dX4_become_9 1 rfl ?_
  refine sv_getI (pc := 10) G fw_X4_19 (hL.sS ha1) rfl dX4_become_10 ?_
  refine sv_putI (pc := 13) G fw_X4_19 (hL.sS ha) rfl dX4_become_13 (fun g_2 eg_2 => ?_)
  have h := h g_2 eg_2
  refine sv_aload_n (pc := 16) G dX4_become_16 1 rfl ?_
  refine sv_getR (pc := 17) G fw_X4_9 (hL.sS ha1) rfl (hL.sR ha1) dX4_become_17 ?_
  refine sv_iconst (pc := 20) G dX4_become_20 0 ic_0 ?_
  refine sv_aload_n (pc := 21) G dX4_become_21 0 rfl ?_
  refine sv_getR (pc := 22) G fw_X4_9 (hL.sS ha) rfl (hL.sR ha) dX4_become_22 ?_
  refine sv_iconst (pc := 25) G dX4_become_25 0 ic_0 ?_
  refine sv_bipush (pc := 26) G dX4_become_26 24 bp_24 ?_
  refine sv_copyK (pc := 28) G RR lk_X4_33 wd_ac1 wd_ac2 wd_sys (hL.sA ha1) (hL.sA ha) (by decide) (by decide) (by decide) tn_0 tn_0 tn_24 (by decide) (by decide) (Nat.le_of_ble_eq_true rfl) (Nat.le_of_ble_eq_true rfl) dX4_become_28 (fun g_3 eg_3 => ?_)
  have h := h g_3 eg_3
  exact sv_vreturn (pc := 31) G T ⟨(Nat.le_of_ble_eq_true rfl), (Nat.le_of_ble_eq_true rfl)⟩ dX4_become_31 ⟨rfl, rfl, h⟩
def wp_X6_voter_44 (F : sv_Fr) (Q : Int32 → sv_Mg → Prop) (v1 : Int32) (v2 : Int32) (v3 : Int32) (v4 : Int32) (s0 : Int32) (g : sv_Mg) : Prop := ((s0 = 0 → Q (-1000000001) g) ∧ (¬ s0 = 0 → (((g 7 8) < 10 → wp_X0_enter F 7 v1 v2 v3 v4 g (fun g_3 => Q ((g_3 7 8) - 1) g_3)) ∧ (¬ (g 7 8) < 10 → Q (-1000000003) g))))
def wp_X6_voter_43 (F : sv_Fr) (Q : Int32 → sv_Mg → Prop) (v1 : Int32) (v2 : Int32) (v3 : Int32) (v4 : Int32) (g : sv_Mg) : Prop := wp_X6_voter_44 F  Q  v1 v2 v3 v4 0 g
def wp_X6_voter (F : sv_Fr) (v1 : Int32) (v2 : Int32) (v3 : Int32) (v4 : Int32) (g : sv_Mg) (Q : Int32 → sv_Mg → Prop) : Prop := wp_X6_isWithin F v1 0 5 g (fun r_5 g_4 => ((r_5 = 0 → wp_X6_voter_43 F  Q  v1 v2 v3 v4 g_4) ∧ (¬ r_5 = 0 → wp_X6_isWithin F v2 0 9 g_4 (fun r_8 g_7 => ((r_8 = 0 → wp_X6_voter_43 F  Q  v1 v2 v3 v4 g_7) ∧ (¬ r_8 = 0 → wp_X6_isWithin F v3 0 3 g_7 (fun r_11 g_10 => ((r_11 = 0 → wp_X6_voter_43 F  Q  v1 v2 v3 v4 g_10) ∧ (¬ r_11 = 0 → wp_X6_isWithin F v4 0 99 g_10 (fun r_14 g_13 => ((r_14 = 0 → wp_X6_voter_43 F  Q  v1 v2 v3 v4 g_13) ∧ (¬ r_14 = 0 → wp_X6_voter_44 F  Q  v1 v2 v3 v4 1 g_13))))))))))))
set_option maxRecDepth 100000 in
set_option maxHeartbeats 4000000 in
theorem aw_X6_voter_44 {x : sv_X} {b : Nat} {xt : sv_Xt} {F : sv_Fr} {Q : Int32 → sv_Mg → Prop} (G : sv_G x b xt RX6 cX6_voter 6) (RR : sv_R x 1 24 0 0) (T : sv_RT x (some .int)) (hL : sv_Lay F) : ∀ (v1 : Int32) (v2 : Int32) (v3 : Int32) (v4 : Int32) (s0 : Int32) (g : sv_Mg), wp_X6_voter_44 F Q  v1 v2 v3 v4 s0 g → sv_AW x (sv_Q x (sv_qI F Q) 0 0) F g 0 0 44 [(0, .ref (b + 0)), (1, .int v1), (2, .int v2), (3, .int v3), (4, .int v4)] [.int s0] := by
  intro v1 v2 v3 v4 s0 g h
  unfold wp_X6_voter_44 at h
  refine sv_istore (pc := 44) G dX6_voter_44 [(5, .int s0), (0, .ref (b + 0)), (1, .int v1), (2, .int v2), (3, .int v3), (4, .int v4)] (by decide) rfl ?_
  refine sv_iload (pc := 46) G dX6_voter_46 0 rfl ?_
  refine sv_if_ne (pc := 48) G 54 (by decide) dX6_voter_48 (fun c_1 => ?_) (fun c_1 => ?_)
  · have h := h.2 c_1
    refine sv_aload_n (pc := 54) G dX6_voter_54 1 rfl ?_
    refine sv_getR (pc := 55) G fw_X6_28 (hL.sh rfl) rfl (hL.rf 2 rfl) dX6_voter_55 ?_
    refine sv_getI (pc := 58) G fw_X6_72 (hL.sh rfl) rfl dX6_voter_58 ?_
    refine sv_bipush (pc := 61) G dX6_voter_61 10 bp_10 ?_
    refine sv_ic_lt (pc := 63) G 69 (by decide) dX6_voter_63 (fun c_2 => ?_) (fun c_2 => ?_)
    · have h := h.1 c_2
      refine sv_aload_n (pc := 69) G dX6_voter_69 1 rfl ?_
      refine sv_getR (pc := 70) G fw_X6_28 (hL.sh rfl) rfl (hL.rf 2 rfl) dX6_voter_70 ?_
      refine sv_iload_n (pc := 73) G dX6_voter_73 2 rfl ?_
      refine sv_iload_n (pc := 74) G dX6_voter_74 3 rfl ?_
      refine sv_iload_n (pc := 75) G dX6_voter_75 4 rfl ?_
      refine sv_iload (pc := 76) G dX6_voter_76 5 rfl ?_
      refine sv_callV (cs := 0) (sl := 0) (st := []) (As := [.int v1, .int v2, .int v3, .int v4]) (a := 7) (pc := 78) G RR (c_X0_enter hL sv_C7 h) mw_X0_enter lk_X6_76 (hL.sh rfl) (by decide) rfl rfl ⟨(Nat.le_of_ble_eq_true rfl), (Nat.le_of_ble_eq_true rfl)⟩ ⟨(Nat.le_of_ble_eq_true rfl), (Nat.le_of_ble_eq_true rfl)⟩ (Nat.le_of_ble_eq_true rfl) rfl dX6_voter_78 (sv_kV (fun g_3 h => ?_))
      refine sv_aload_n (pc := 81) G dX6_voter_81 1 rfl ?_
      refine sv_getR (pc := 82) G fw_X6_28 (hL.sh rfl) rfl (hL.rf 2 rfl) dX6_voter_82 ?_
      refine sv_getI (pc := 85) G fw_X6_72 (hL.sh rfl) rfl dX6_voter_85 ?_
      refine sv_iconst (pc := 88) G dX6_voter_88 1 ic_1 ?_
      refine sv_isub (pc := 89) G dX6_voter_89 ?_
      exact sv_ireturn (pc := 90) G T ⟨(Nat.le_of_ble_eq_true rfl), (Nat.le_of_ble_eq_true rfl)⟩ dX6_voter_90 ⟨_, rfl, rfl, h⟩
    · have h := h.2 c_2
      refine sv_ldc (pc := 66) G dX6_voter_66 cn_X6_75 ?_
      exact sv_ireturn (pc := 68) G T ⟨(Nat.le_of_ble_eq_true rfl), (Nat.le_of_ble_eq_true rfl)⟩ dX6_voter_68 ⟨_, rfl, rfl, h⟩
  · have h := h.1 c_1
    refine sv_ldc (pc := 51) G dX6_voter_51 cn_X6_71 ?_
    exact sv_ireturn (pc := 53) G T ⟨(Nat.le_of_ble_eq_true rfl), (Nat.le_of_ble_eq_true rfl)⟩ dX6_voter_53 ⟨_, rfl, rfl, h⟩
set_option maxRecDepth 100000 in
set_option maxHeartbeats 4000000 in
theorem aw_X6_voter_43 {x : sv_X} {b : Nat} {xt : sv_Xt} {F : sv_Fr} {Q : Int32 → sv_Mg → Prop} (G : sv_G x b xt RX6 cX6_voter 6) (RR : sv_R x 1 24 0 0) (T : sv_RT x (some .int)) (hL : sv_Lay F) : ∀ (v1 : Int32) (v2 : Int32) (v3 : Int32) (v4 : Int32) (g : sv_Mg), wp_X6_voter_43 F Q  v1 v2 v3 v4 g → sv_AW x (sv_Q x (sv_qI F Q) 0 0) F g 0 0 43 [(0, .ref (b + 0)), (1, .int v1), (2, .int v2), (3, .int v3), (4, .int v4)] [] := by
  intro v1 v2 v3 v4 g h
  unfold wp_X6_voter_43 at h
  refine sv_iconst (pc := 43) G dX6_voter_43 0 ic_0 ?_
  refine sv_locs [0, 1, 2, 3, 4] [(0, .ref (b + 0)), (1, .int v1), (2, .int v2), (3, .int v3), (4, .int v4)] rfl ?_
  exact aw_X6_voter_44 G RR T hL   v1 v2 v3 v4 0 g  h
set_option maxRecDepth 100000 in
set_option maxHeartbeats 4000000 in
theorem c_X6_voter {b : Nat} {xt : sv_Xt} {F : sv_Fr} {v1 : Int32} {v2 : Int32} {v3 : Int32} {v4 : Int32} {g : sv_Mg} {Q : Int32 → sv_Mg → Prop} (hL : sv_Lay F) (h : wp_X6_voter F v1 v2 v3 v4 g Q) : sv_Cal yX6_voter cX6_voter 6 (some .int) 1 24 0 0 b xt [.ref (b + 0), .int v1, .int v2, .int v3, .int v4] F g (sv_qI F Q) := by
  refine sv_intro mw_X6_voter [(0, .ref (b + 0)), (1, .int v1), (2, .int v2), (3, .int v3), (4, .int v4)] rfl (Nat.le_of_ble_eq_true rfl) (fun x G RR T NM => ?_)
  have G : sv_G x b xt RX6 cX6_voter 6 := G
  unfold wp_X6_voter at h
  refine sv_iload_n (pc := 0) G dX6_voter_0 1 rfl ?_
  refine sv_iconst (pc := 1) G dX6_voter_1 0 ic_0 ?_
  refine sv_iconst (pc := 2) G dX6_voter_2 5 ic_5 ?_
  refine sv_callS (cs := 0) (sl := 0) (st := []) (As := [.int v1, .int 0, .int 5]) (pc := 3) G RR (c_X6_isWithin hL  h) mw_X6_isWithin lk_X6_67 rfl ⟨(Nat.le_of_ble_eq_true rfl), (Nat.le_of_ble_eq_true rfl)⟩ ⟨(Nat.le_of_ble_eq_true rfl), (Nat.le_of_ble_eq_true rfl)⟩ (Nat.le_of_ble_eq_true rfl) rfl dX6_voter_3 (sv_kI (fun r_5 g_4 h => ?_))
  refine sv_if_eq (pc := 6) G 43 (by decide) dX6_voter_6 (fun c_6 => ?_) (fun c_6 => ?_)
  · have h := h.1 c_6
    refine sv_locs [0, 1, 2, 3, 4] [(0, .ref (b + 0)), (1, .int v1), (2, .int v2), (3, .int v3), (4, .int v4)] rfl ?_
    exact aw_X6_voter_43 G RR T hL   v1 v2 v3 v4 g_4  h
  · have h := h.2 c_6
    refine sv_iload_n (pc := 9) G dX6_voter_9 2 rfl ?_
    refine sv_iconst (pc := 10) G dX6_voter_10 0 ic_0 ?_
    refine sv_bipush (pc := 11) G dX6_voter_11 9 bp_9 ?_
    refine sv_callS (cs := 0) (sl := 0) (st := []) (As := [.int v2, .int 0, .int 9]) (pc := 13) G RR (c_X6_isWithin hL  h) mw_X6_isWithin lk_X6_67 rfl ⟨(Nat.le_of_ble_eq_true rfl), (Nat.le_of_ble_eq_true rfl)⟩ ⟨(Nat.le_of_ble_eq_true rfl), (Nat.le_of_ble_eq_true rfl)⟩ (Nat.le_of_ble_eq_true rfl) rfl dX6_voter_13 (sv_kI (fun r_8 g_7 h => ?_))
    refine sv_if_eq (pc := 16) G 43 (by decide) dX6_voter_16 (fun c_9 => ?_) (fun c_9 => ?_)
    · have h := h.1 c_9
      refine sv_locs [0, 1, 2, 3, 4] [(0, .ref (b + 0)), (1, .int v1), (2, .int v2), (3, .int v3), (4, .int v4)] rfl ?_
      exact aw_X6_voter_43 G RR T hL   v1 v2 v3 v4 g_7  h
    · have h := h.2 c_9
      refine sv_iload_n (pc := 19) G dX6_voter_19 3 rfl ?_
      refine sv_iconst (pc := 20) G dX6_voter_20 0 ic_0 ?_
      refine sv_iconst (pc := 21) G dX6_voter_21 3 ic_3 ?_
      refine sv_callS (cs := 0) (sl := 0) (st := []) (As := [.int v3, .int 0, .int 3]) (pc := 22) G RR (c_X6_isWithin hL  h) mw_X6_isWithin lk_X6_67 rfl ⟨(Nat.le_of_ble_eq_true rfl), (Nat.le_of_ble_eq_true rfl)⟩ ⟨(Nat.le_of_ble_eq_true rfl), (Nat.le_of_ble_eq_true rfl)⟩ (Nat.le_of_ble_eq_true rfl) rfl dX6_voter_22 (sv_kI (fun r_11 g_10 h => ?_))
      refine sv_if_eq (pc := 25) G 43 (by decide) dX6_voter_25 (fun c_12 => ?_) (fun c_12 => ?_)
      · have h := h.1 c_12
        refine sv_locs [0, 1, 2, 3, 4] [(0, .ref (b + 0)), (1, .int v1), (2, .int v2), (3, .int v3), (4, .int v4)] rfl ?_
        exact aw_X6_voter_43 G RR T hL   v1 v2 v3 v4 g_10  h
      · have h := h.2 c_12
        refine sv_iload (pc := 28) G dX6_voter_28 4 rfl ?_
        refine sv_iconst (pc := 30) G dX6_voter_30 0 ic_0 ?_
        refine sv_bipush (pc := 31) G dX6_voter_31 99 bp_99 ?_
        refine sv_callS (cs := 0) (sl := 0) (st := []) (As := [.int v4, .int 0, .int 99]) (pc := 33) G RR (c_X6_isWithin hL  h) mw_X6_isWithin lk_X6_67 rfl ⟨(Nat.le_of_ble_eq_true rfl), (Nat.le_of_ble_eq_true rfl)⟩ ⟨(Nat.le_of_ble_eq_true rfl), (Nat.le_of_ble_eq_true rfl)⟩ (Nat.le_of_ble_eq_true rfl) rfl dX6_voter_33 (sv_kI (fun r_14 g_13 h => ?_))
        refine sv_if_eq (pc := 36) G 43 (by decide) dX6_voter_36 (fun c_15 => ?_) (fun c_15 => ?_)
        · have h := h.1 c_15
          refine sv_locs [0, 1, 2, 3, 4] [(0, .ref (b + 0)), (1, .int v1), (2, .int v2), (3, .int v3), (4, .int v4)] rfl ?_
          exact aw_X6_voter_43 G RR T hL   v1 v2 v3 v4 g_13  h
        · have h := h.2 c_15
          refine sv_iconst (pc := 39) G dX6_voter_39 1 ic_1 ?_
          refine sv_goto (pc := 40) G dX6_voter_40 44 (by decide) ?_
          refine sv_locs [0, 1, 2, 3, 4] [(0, .ref (b + 0)), (1, .int v1), (2, .int v2), (3, .int v3), (4, .int v4)] rfl ?_
          exact aw_X6_voter_44 G RR T hL   v1 v2 v3 v4 1 g_13  h
def wp_X6_worth (F : sv_Fr) (v0 : Int32) (v1 : Int32) (g : sv_Mg) (Q : Int32 → sv_Mg → Prop) : Prop := ((v0 = 1 → Q (v1 + 6) g) ∧ (¬ v0 = 1 → ((v0 = 2 → Q (99 - v1) g) ∧ (¬ v0 = 2 → ((v0 = 3 → Q (2 * (v1 + 6)) g) ∧ (¬ v0 = 3 → ((v0 = 4 → Q ((99 - v1) - 8) g) ∧ (¬ v0 = 4 → ((v0 = 5 → Q 2 g) ∧ (¬ v0 = 5 → Q v1 g))))))))))
set_option maxRecDepth 100000 in
set_option maxHeartbeats 4000000 in
theorem c_X6_worth {b : Nat} {xt : sv_Xt} {F : sv_Fr} {v0 : Int32} {v1 : Int32} {g : sv_Mg} {Q : Int32 → sv_Mg → Prop} (hL : sv_Lay F) (h : wp_X6_worth F v0 v1 g Q) : sv_Cal yX6_worth cX6_worth 2 (some .int) 0 0 0 0 b xt [.int v0, .int v1] F g (sv_qI F Q) := by
  refine sv_intro mw_X6_worth [(0, .int v0), (1, .int v1)] rfl (Nat.le_of_ble_eq_true rfl) (fun x G RR T NM => ?_)
  have G : sv_G x b xt RX6 cX6_worth 2 := G
  unfold wp_X6_worth at h
  refine sv_iload_n (pc := 0) G dX6_worth_0 0 rfl ?_
  by_cases c_1 : v0 = 1
  · have h := h.1 c_1
    refine sv_tsw (pc := 1) G dX6_worth_1 1 (by rw [c_1]; decide) 36 (by decide) (by decide) rfl (by decide) ?_
    refine sv_iload_n (pc := 36) G dX6_worth_36 1 rfl ?_
    refine sv_bipush (pc := 37) G dX6_worth_37 6 bp_6 ?_
    refine sv_iadd (pc := 39) G dX6_worth_39 ?_
    exact sv_ireturn (pc := 40) G T ⟨(Nat.le_of_ble_eq_true rfl), (Nat.le_of_ble_eq_true rfl)⟩ dX6_worth_40 ⟨_, rfl, rfl, h⟩
  · have h := h.2 c_1
    by_cases c_2 : v0 = 2
    · have h := h.1 c_2
      refine sv_tsw (pc := 1) G dX6_worth_1 2 (by rw [c_2]; decide) 48 (by decide) (by decide) rfl (by decide) ?_
      refine sv_bipush (pc := 48) G dX6_worth_48 99 bp_99 ?_
      refine sv_iload_n (pc := 50) G dX6_worth_50 1 rfl ?_
      refine sv_isub (pc := 51) G dX6_worth_51 ?_
      exact sv_ireturn (pc := 52) G T ⟨(Nat.le_of_ble_eq_true rfl), (Nat.le_of_ble_eq_true rfl)⟩ dX6_worth_52 ⟨_, rfl, rfl, h⟩
    · have h := h.2 c_2
      by_cases c_3 : v0 = 3
      · have h := h.1 c_3
        refine sv_tsw (pc := 1) G dX6_worth_1 3 (by rw [c_3]; decide) 41 (by decide) (by decide) rfl (by decide) ?_
        refine sv_iconst (pc := 41) G dX6_worth_41 2 ic_2 ?_
        refine sv_iload_n (pc := 42) G dX6_worth_42 1 rfl ?_
        refine sv_bipush (pc := 43) G dX6_worth_43 6 bp_6 ?_
        refine sv_iadd (pc := 45) G dX6_worth_45 ?_
        refine sv_imul (pc := 46) G dX6_worth_46 ?_
        exact sv_ireturn (pc := 47) G T ⟨(Nat.le_of_ble_eq_true rfl), (Nat.le_of_ble_eq_true rfl)⟩ dX6_worth_47 ⟨_, rfl, rfl, h⟩
      · have h := h.2 c_3
        by_cases c_4 : v0 = 4
        · have h := h.1 c_4
          refine sv_tsw (pc := 1) G dX6_worth_1 4 (by rw [c_4]; decide) 53 (by decide) (by decide) rfl (by decide) ?_
          refine sv_bipush (pc := 53) G dX6_worth_53 99 bp_99 ?_
          refine sv_iload_n (pc := 55) G dX6_worth_55 1 rfl ?_
          refine sv_isub (pc := 56) G dX6_worth_56 ?_
          refine sv_bipush (pc := 57) G dX6_worth_57 8 bp_8 ?_
          refine sv_isub (pc := 59) G dX6_worth_59 ?_
          exact sv_ireturn (pc := 60) G T ⟨(Nat.le_of_ble_eq_true rfl), (Nat.le_of_ble_eq_true rfl)⟩ dX6_worth_60 ⟨_, rfl, rfl, h⟩
        · have h := h.2 c_4
          by_cases c_5 : v0 = 5
          · have h := h.1 c_5
            refine sv_tsw (pc := 1) G dX6_worth_1 5 (by rw [c_5]; decide) 61 (by decide) (by decide) rfl (by decide) ?_
            refine sv_iconst (pc := 61) G dX6_worth_61 2 ic_2 ?_
            exact sv_ireturn (pc := 62) G T ⟨(Nat.le_of_ble_eq_true rfl), (Nat.le_of_ble_eq_true rfl)⟩ dX6_worth_62 ⟨_, rfl, rfl, h⟩
          · have h := h.2 c_5
            refine sv_tswD (pc := 1) G dX6_worth_1 (by have qc_1 := lv_neT (a := 1) c_1 (by decide); have qc_2 := lv_neT (a := 2) c_2 (by decide); have qc_3 := lv_neT (a := 3) c_3 (by decide); have qc_4 := lv_neT (a := 4) c_4 (by decide); have qc_5 := lv_neT (a := 5) c_5 (by decide); omega) 63 (by decide) ?_
            refine sv_iload_n (pc := 63) G dX6_worth_63 1 rfl ?_
            exact sv_ireturn (pc := 64) G T ⟨(Nat.le_of_ble_eq_true rfl), (Nat.le_of_ble_eq_true rfl)⟩ dX6_worth_64 ⟨_, rfl, rfl, h⟩
def wp_X6_told (F : sv_Fr) (v1 : Int32) (v2 : Int32) (g : sv_Mg) (Q : Int32 → sv_Mg → Prop) : Prop := wp_X0_isVoter F 7 v1 g (fun r_2 g_1 => ((r_2 = 0 → Q (-1000000001) g_1) ∧ (¬ r_2 = 0 → ((v2 = 0 → vp_in v1 10 ∧ Q (g_1 8 v1.toNatClampNeg) g_1) ∧ (¬ v2 = 0 → ((v2 = 1 → vp_in v1 10 ∧ Q (g_1 9 v1.toNatClampNeg) g_1) ∧ (¬ v2 = 1 → ((v2 = 2 → vp_in v1 10 ∧ Q (g_1 10 v1.toNatClampNeg) g_1) ∧ (¬ v2 = 2 → ((v2 = 3 → vp_in v1 10 ∧ Q (g_1 11 v1.toNatClampNeg) g_1) ∧ (¬ v2 = 3 → ((v2 = 4 → vp_in v1 10 ∧ Q (g_1 12 v1.toNatClampNeg) g_1) ∧ (¬ v2 = 4 → ((v2 = 5 → vp_in v1 10 ∧ Q (g_1 13 v1.toNatClampNeg) g_1) ∧ (¬ v2 = 5 → ((v2 = 6 → vp_in v1 10 ∧ Q (g_1 14 v1.toNatClampNeg) g_1) ∧ (¬ v2 = 6 → ((v2 = 7 → wp_X0_runners F 7 g_1 (fun r_20 g_19 => wp_X0_leader F 7 g_19 (fun r_22 g_21 => wp_X0_choice F 7 v1 r_20 r_22 g_21 (fun r_24 g_23 => Q r_24 g_23)))) ∧ (¬ v2 = 7 → ((v2 = 8 → vp_in v1 10 ∧ wp_X6_weight F (g_1 8 v1.toNatClampNeg) g_1 (fun r_28 g_27 => Q r_28 g_27)) ∧ (¬ v2 = 8 → ((v2 = 9 → vp_in v1 10 ∧ vp_in v1 10 ∧ wp_X6_worth F (g_1 8 v1.toNatClampNeg) (g_1 11 v1.toNatClampNeg) g_1 (fun r_33 g_32 => Q r_33 g_32)) ∧ (¬ v2 = 9 → Q (-1000000001) g_1)))))))))))))))))))))))
set_option maxRecDepth 100000 in
set_option maxHeartbeats 4000000 in
theorem c_X6_told {b : Nat} {xt : sv_Xt} {F : sv_Fr} {v1 : Int32} {v2 : Int32} {g : sv_Mg} {Q : Int32 → sv_Mg → Prop} (hL : sv_Lay F) (h : wp_X6_told F v1 v2 g Q) : sv_Cal yX6_told cX6_told 3 (some .int) 5 120 0 0 b xt [.ref (b + 0), .int v1, .int v2] F g (sv_qI F Q) := by
  refine sv_intro mw_X6_told [(0, .ref (b + 0)), (1, .int v1), (2, .int v2)] rfl (Nat.le_of_ble_eq_true rfl) (fun x G RR T NM => ?_)
  have G : sv_G x b xt RX6 cX6_told 3 := G
  unfold wp_X6_told at h
  refine sv_aload_n (pc := 0) G dX6_told_0 0 rfl ?_
  refine sv_getR (pc := 1) G fw_X6_28 (hL.sh rfl) rfl (hL.rf 2 rfl) dX6_told_1 ?_
  refine sv_iload_n (pc := 4) G dX6_told_4 1 rfl ?_
  refine sv_callV (cs := 0) (sl := 0) (st := []) (As := [.int v1]) (a := 7) (pc := 5) G RR (c_X0_isVoter hL sv_C7 h) mw_X0_isVoter lk_X6_80 (hL.sh rfl) (by decide) rfl rfl ⟨(Nat.le_of_ble_eq_true rfl), (Nat.le_of_ble_eq_true rfl)⟩ ⟨(Nat.le_of_ble_eq_true rfl), (Nat.le_of_ble_eq_true rfl)⟩ (Nat.le_of_ble_eq_true rfl) rfl dX6_told_5 (sv_kI (fun r_2 g_1 h => ?_))
  refine sv_if_ne (pc := 8) G 14 (by decide) dX6_told_8 (fun c_3 => ?_) (fun c_3 => ?_)
  · have h := h.2 c_3
    refine sv_iload_n (pc := 14) G dX6_told_14 2 rfl ?_
    by_cases c_4 : v2 = 0
    · have h := h.1 c_4
      refine sv_tsw (pc := 15) G dX6_told_15 0 (by rw [c_4]; decide) 68 (by decide) (by decide) rfl (by decide) ?_
      refine sv_aload_n (pc := 68) G dX6_told_68 0 rfl ?_
      refine sv_getR (pc := 69) G fw_X6_28 (hL.sh rfl) rfl (hL.rf 2 rfl) dX6_told_69 ?_
      refine sv_getR (pc := 72) G fw_X6_84 (hL.sh rfl) rfl (hL.rf 14 rfl) dX6_told_72 ?_
      refine sv_iload_n (pc := 75) G dX6_told_75 1 rfl ?_
      obtain ⟨s_5, h⟩ := h
      refine sv_ialdK (pc := 76) G (hL.sh rfl) s_5 v1.toNatClampNeg rfl dX6_told_76 ?_
      exact sv_ireturn (pc := 77) G T ⟨(Nat.le_of_ble_eq_true rfl), (Nat.le_of_ble_eq_true rfl)⟩ dX6_told_77 ⟨_, rfl, rfl, h⟩
    · have h := h.2 c_4
      by_cases c_6 : v2 = 1
      · have h := h.1 c_6
        refine sv_tsw (pc := 15) G dX6_told_15 1 (by rw [c_6]; decide) 78 (by decide) (by decide) rfl (by decide) ?_
        refine sv_aload_n (pc := 78) G dX6_told_78 0 rfl ?_
        refine sv_getR (pc := 79) G fw_X6_28 (hL.sh rfl) rfl (hL.rf 2 rfl) dX6_told_79 ?_
        refine sv_getR (pc := 82) G fw_X6_87 (hL.sh rfl) rfl (hL.rf 15 rfl) dX6_told_82 ?_
        refine sv_iload_n (pc := 85) G dX6_told_85 1 rfl ?_
        obtain ⟨s_7, h⟩ := h
        refine sv_ialdK (pc := 86) G (hL.sh rfl) s_7 v1.toNatClampNeg rfl dX6_told_86 ?_
        exact sv_ireturn (pc := 87) G T ⟨(Nat.le_of_ble_eq_true rfl), (Nat.le_of_ble_eq_true rfl)⟩ dX6_told_87 ⟨_, rfl, rfl, h⟩
      · have h := h.2 c_6
        by_cases c_8 : v2 = 2
        · have h := h.1 c_8
          refine sv_tsw (pc := 15) G dX6_told_15 2 (by rw [c_8]; decide) 88 (by decide) (by decide) rfl (by decide) ?_
          refine sv_aload_n (pc := 88) G dX6_told_88 0 rfl ?_
          refine sv_getR (pc := 89) G fw_X6_28 (hL.sh rfl) rfl (hL.rf 2 rfl) dX6_told_89 ?_
          refine sv_getR (pc := 92) G fw_X6_90 (hL.sh rfl) rfl (hL.rf 16 rfl) dX6_told_92 ?_
          refine sv_iload_n (pc := 95) G dX6_told_95 1 rfl ?_
          obtain ⟨s_9, h⟩ := h
          refine sv_ialdK (pc := 96) G (hL.sh rfl) s_9 v1.toNatClampNeg rfl dX6_told_96 ?_
          exact sv_ireturn (pc := 97) G T ⟨(Nat.le_of_ble_eq_true rfl), (Nat.le_of_ble_eq_true rfl)⟩ dX6_told_97 ⟨_, rfl, rfl, h⟩
        · have h := h.2 c_8
          by_cases c_10 : v2 = 3
          · have h := h.1 c_10
            refine sv_tsw (pc := 15) G dX6_told_15 3 (by rw [c_10]; decide) 98 (by decide) (by decide) rfl (by decide) ?_
            refine sv_aload_n (pc := 98) G dX6_told_98 0 rfl ?_
            refine sv_getR (pc := 99) G fw_X6_28 (hL.sh rfl) rfl (hL.rf 2 rfl) dX6_told_99 ?_
            refine sv_getR (pc := 102) G fw_X6_93 (hL.sh rfl) rfl (hL.rf 17 rfl) dX6_told_102 ?_
            refine sv_iload_n (pc := 105) G dX6_told_105 1 rfl ?_
            obtain ⟨s_11, h⟩ := h
            refine sv_ialdK (pc := 106) G (hL.sh rfl) s_11 v1.toNatClampNeg rfl dX6_told_106 ?_
            exact sv_ireturn (pc := 107) G T ⟨(Nat.le_of_ble_eq_true rfl), (Nat.le_of_ble_eq_true rfl)⟩ dX6_told_107 ⟨_, rfl, rfl, h⟩
          · have h := h.2 c_10
            by_cases c_12 : v2 = 4
            · have h := h.1 c_12
              refine sv_tsw (pc := 15) G dX6_told_15 4 (by rw [c_12]; decide) 108 (by decide) (by decide) rfl (by decide) ?_
              refine sv_aload_n (pc := 108) G dX6_told_108 0 rfl ?_
              refine sv_getR (pc := 109) G fw_X6_28 (hL.sh rfl) rfl (hL.rf 2 rfl) dX6_told_109 ?_
              refine sv_getR (pc := 112) G fw_X6_96 (hL.sh rfl) rfl (hL.rf 18 rfl) dX6_told_112 ?_
              refine sv_iload_n (pc := 115) G dX6_told_115 1 rfl ?_
              obtain ⟨s_13, h⟩ := h
              refine sv_ialdK (pc := 116) G (hL.sh rfl) s_13 v1.toNatClampNeg rfl dX6_told_116 ?_
              exact sv_ireturn (pc := 117) G T ⟨(Nat.le_of_ble_eq_true rfl), (Nat.le_of_ble_eq_true rfl)⟩ dX6_told_117 ⟨_, rfl, rfl, h⟩
            · have h := h.2 c_12
              by_cases c_14 : v2 = 5
              · have h := h.1 c_14
                refine sv_tsw (pc := 15) G dX6_told_15 5 (by rw [c_14]; decide) 118 (by decide) (by decide) rfl (by decide) ?_
                refine sv_aload_n (pc := 118) G dX6_told_118 0 rfl ?_
                refine sv_getR (pc := 119) G fw_X6_28 (hL.sh rfl) rfl (hL.rf 2 rfl) dX6_told_119 ?_
                refine sv_getR (pc := 122) G fw_X6_99 (hL.sh rfl) rfl (hL.rf 19 rfl) dX6_told_122 ?_
                refine sv_iload_n (pc := 125) G dX6_told_125 1 rfl ?_
                obtain ⟨s_15, h⟩ := h
                refine sv_ialdK (pc := 126) G (hL.sh rfl) s_15 v1.toNatClampNeg rfl dX6_told_126 ?_
                exact sv_ireturn (pc := 127) G T ⟨(Nat.le_of_ble_eq_true rfl), (Nat.le_of_ble_eq_true rfl)⟩ dX6_told_127 ⟨_, rfl, rfl, h⟩
              · have h := h.2 c_14
                by_cases c_16 : v2 = 6
                · have h := h.1 c_16
                  refine sv_tsw (pc := 15) G dX6_told_15 6 (by rw [c_16]; decide) 128 (by decide) (by decide) rfl (by decide) ?_
                  refine sv_aload_n (pc := 128) G dX6_told_128 0 rfl ?_
                  refine sv_getR (pc := 129) G fw_X6_28 (hL.sh rfl) rfl (hL.rf 2 rfl) dX6_told_129 ?_
                  refine sv_getR (pc := 132) G fw_X6_102 (hL.sh rfl) rfl (hL.rf 20 rfl) dX6_told_132 ?_
                  refine sv_iload_n (pc := 135) G dX6_told_135 1 rfl ?_
                  obtain ⟨s_17, h⟩ := h
                  refine sv_ialdK (pc := 136) G (hL.sh rfl) s_17 v1.toNatClampNeg rfl dX6_told_136 ?_
                  exact sv_ireturn (pc := 137) G T ⟨(Nat.le_of_ble_eq_true rfl), (Nat.le_of_ble_eq_true rfl)⟩ dX6_told_137 ⟨_, rfl, rfl, h⟩
                · have h := h.2 c_16
                  by_cases c_18 : v2 = 7
                  · have h := h.1 c_18
                    refine sv_tsw (pc := 15) G dX6_told_15 7 (by rw [c_18]; decide) 138 (by decide) (by decide) rfl (by decide) ?_
                    refine sv_aload_n (pc := 138) G dX6_told_138 0 rfl ?_
                    refine sv_getR (pc := 139) G fw_X6_28 (hL.sh rfl) rfl (hL.rf 2 rfl) dX6_told_139 ?_
                    refine sv_iload_n (pc := 142) G dX6_told_142 1 rfl ?_
                    refine sv_aload_n (pc := 143) G dX6_told_143 0 rfl ?_
                    refine sv_getR (pc := 144) G fw_X6_28 (hL.sh rfl) rfl (hL.rf 2 rfl) dX6_told_144 ?_
                    refine sv_callV (cs := 0) (sl := 0) (st := [.int v1, .ref (b + 7)]) (As := []) (a := 7) (pc := 147) G RR (c_X0_runners hL sv_C7 h) mw_X0_runners lk_X6_105 (hL.sh rfl) (by decide) rfl rfl ⟨(Nat.le_of_ble_eq_true rfl), (Nat.le_of_ble_eq_true rfl)⟩ ⟨(Nat.le_of_ble_eq_true rfl), (Nat.le_of_ble_eq_true rfl)⟩ (Nat.le_of_ble_eq_true rfl) rfl dX6_told_147 (sv_kI (fun r_20 g_19 h => ?_))
                    refine sv_aload_n (pc := 150) G dX6_told_150 0 rfl ?_
                    refine sv_getR (pc := 151) G fw_X6_28 (hL.sh rfl) rfl (hL.rf 2 rfl) dX6_told_151 ?_
                    refine sv_callV (cs := 0) (sl := 0) (st := [.int r_20, .int v1, .ref (b + 7)]) (As := []) (a := 7) (pc := 154) G RR (c_X0_leader hL sv_C7 h) mw_X0_leader lk_X6_109 (hL.sh rfl) (by decide) rfl rfl ⟨(Nat.le_of_ble_eq_true rfl), (Nat.le_of_ble_eq_true rfl)⟩ ⟨(Nat.le_of_ble_eq_true rfl), (Nat.le_of_ble_eq_true rfl)⟩ (Nat.le_of_ble_eq_true rfl) rfl dX6_told_154 (sv_kI (fun r_22 g_21 h => ?_))
                    refine sv_callV (cs := 0) (sl := 0) (st := []) (As := [.int v1, .int r_20, .int r_22]) (a := 7) (pc := 157) G RR (c_X0_choice hL sv_C7 h) mw_X0_choice lk_X6_112 (hL.sh rfl) (by decide) rfl rfl ⟨(Nat.le_of_ble_eq_true rfl), (Nat.le_of_ble_eq_true rfl)⟩ ⟨(Nat.le_of_ble_eq_true rfl), (Nat.le_of_ble_eq_true rfl)⟩ (Nat.le_of_ble_eq_true rfl) rfl dX6_told_157 (sv_kI (fun r_24 g_23 h => ?_))
                    exact sv_ireturn (pc := 160) G T ⟨(Nat.le_of_ble_eq_true rfl), (Nat.le_of_ble_eq_true rfl)⟩ dX6_told_160 ⟨_, rfl, rfl, h⟩
                  · have h := h.2 c_18
                    by_cases c_25 : v2 = 8
                    · have h := h.1 c_25
                      refine sv_tsw (pc := 15) G dX6_told_15 8 (by rw [c_25]; decide) 161 (by decide) (by decide) rfl (by decide) ?_
                      refine sv_aload_n (pc := 161) G dX6_told_161 0 rfl ?_
                      refine sv_getR (pc := 162) G fw_X6_28 (hL.sh rfl) rfl (hL.rf 2 rfl) dX6_told_162 ?_
                      refine sv_getR (pc := 165) G fw_X6_84 (hL.sh rfl) rfl (hL.rf 14 rfl) dX6_told_165 ?_
                      refine sv_iload_n (pc := 168) G dX6_told_168 1 rfl ?_
                      obtain ⟨s_26, h⟩ := h
                      refine sv_ialdK (pc := 169) G (hL.sh rfl) s_26 v1.toNatClampNeg rfl dX6_told_169 ?_
                      refine sv_callS (cs := 0) (sl := 0) (st := []) (As := [.int (g_1 8 v1.toNatClampNeg)]) (pc := 170) G RR (c_X6_weight hL  h) mw_X6_weight lk_X6_116 rfl ⟨(Nat.le_of_ble_eq_true rfl), (Nat.le_of_ble_eq_true rfl)⟩ ⟨(Nat.le_of_ble_eq_true rfl), (Nat.le_of_ble_eq_true rfl)⟩ (Nat.le_of_ble_eq_true rfl) rfl dX6_told_170 (sv_kI (fun r_28 g_27 h => ?_))
                      exact sv_ireturn (pc := 173) G T ⟨(Nat.le_of_ble_eq_true rfl), (Nat.le_of_ble_eq_true rfl)⟩ dX6_told_173 ⟨_, rfl, rfl, h⟩
                    · have h := h.2 c_25
                      by_cases c_29 : v2 = 9
                      · have h := h.1 c_29
                        refine sv_tsw (pc := 15) G dX6_told_15 9 (by rw [c_29]; decide) 174 (by decide) (by decide) rfl (by decide) ?_
                        refine sv_aload_n (pc := 174) G dX6_told_174 0 rfl ?_
                        refine sv_getR (pc := 175) G fw_X6_28 (hL.sh rfl) rfl (hL.rf 2 rfl) dX6_told_175 ?_
                        refine sv_getR (pc := 178) G fw_X6_84 (hL.sh rfl) rfl (hL.rf 14 rfl) dX6_told_178 ?_
                        refine sv_iload_n (pc := 181) G dX6_told_181 1 rfl ?_
                        obtain ⟨s_30, h⟩ := h
                        refine sv_ialdK (pc := 182) G (hL.sh rfl) s_30 v1.toNatClampNeg rfl dX6_told_182 ?_
                        refine sv_aload_n (pc := 183) G dX6_told_183 0 rfl ?_
                        refine sv_getR (pc := 184) G fw_X6_28 (hL.sh rfl) rfl (hL.rf 2 rfl) dX6_told_184 ?_
                        refine sv_getR (pc := 187) G fw_X6_93 (hL.sh rfl) rfl (hL.rf 17 rfl) dX6_told_187 ?_
                        refine sv_iload_n (pc := 190) G dX6_told_190 1 rfl ?_
                        obtain ⟨s_31, h⟩ := h
                        refine sv_ialdK (pc := 191) G (hL.sh rfl) s_31 v1.toNatClampNeg rfl dX6_told_191 ?_
                        refine sv_callS (cs := 0) (sl := 0) (st := []) (As := [.int (g_1 8 v1.toNatClampNeg), .int (g_1 11 v1.toNatClampNeg)]) (pc := 192) G RR (c_X6_worth hL  h) mw_X6_worth lk_X6_120 rfl ⟨(Nat.le_of_ble_eq_true rfl), (Nat.le_of_ble_eq_true rfl)⟩ ⟨(Nat.le_of_ble_eq_true rfl), (Nat.le_of_ble_eq_true rfl)⟩ (Nat.le_of_ble_eq_true rfl) rfl dX6_told_192 (sv_kI (fun r_33 g_32 h => ?_))
                        exact sv_ireturn (pc := 195) G T ⟨(Nat.le_of_ble_eq_true rfl), (Nat.le_of_ble_eq_true rfl)⟩ dX6_told_195 ⟨_, rfl, rfl, h⟩
                      · have h := h.2 c_29
                        refine sv_tswD (pc := 15) G dX6_told_15 (by have qc_4 := lv_neT (a := 0) c_4 (by decide); have qc_6 := lv_neT (a := 1) c_6 (by decide); have qc_8 := lv_neT (a := 2) c_8 (by decide); have qc_10 := lv_neT (a := 3) c_10 (by decide); have qc_12 := lv_neT (a := 4) c_12 (by decide); have qc_14 := lv_neT (a := 5) c_14 (by decide); have qc_16 := lv_neT (a := 6) c_16 (by decide); have qc_18 := lv_neT (a := 7) c_18 (by decide); have qc_25 := lv_neT (a := 8) c_25 (by decide); have qc_29 := lv_neT (a := 9) c_29 (by decide); omega) 196 (by decide) ?_
                        refine sv_ldc (pc := 196) G dX6_told_196 cn_X6_71 ?_
                        exact sv_ireturn (pc := 198) G T ⟨(Nat.le_of_ble_eq_true rfl), (Nat.le_of_ble_eq_true rfl)⟩ dX6_told_198 ⟨_, rfl, rfl, h⟩
  · have h := h.1 c_3
    refine sv_ldc (pc := 11) G dX6_told_11 cn_X6_71 ?_
    exact sv_ireturn (pc := 13) G T ⟨(Nat.le_of_ble_eq_true rfl), (Nat.le_of_ble_eq_true rfl)⟩ dX6_told_13 ⟨_, rfl, rfl, h⟩
def wp_X6_isOfKind_4 (F : sv_Fr) (Q : Int32 → sv_Mg → Prop) : Nat → Int32 → Int32 → Int32 → sv_Mg → Prop
  | 0, _, _, _, _ => False
  | n + 1, v1, v2, v3, g => ((6 ≤ v3 → Q 0 g) ∧ (¬ 6 ≤ v3 → wp_X6_isWithin F v2 0 5 g (fun r_3 g_2 => ((r_3 = 0 → Q 0 g_2) ∧ (¬ r_3 = 0 → ((v2 = v1 → Q 1 g_2) ∧ (¬ v2 = v1 → vp_in v2 6 ∧ ∀ v2_7 : Int32, v2_7 = (sv_above v2.toNatClampNeg) → ∀ v3_8 : Int32, v3_8 = v3 + 1 → (wp_X6_isOfKind_4 F Q  n) v1 v2_7 v3_8 g_2)))))))
def wp_X6_isOfKind (F : sv_Fr) (v0 : Int32) (v1 : Int32) (g : sv_Mg) (Q : Int32 → sv_Mg → Prop) : Prop := ∃ n_9, wp_X6_isOfKind_4 F  Q  n_9 v1 v0 0 g
set_option maxRecDepth 100000 in
set_option maxHeartbeats 4000000 in
theorem aw_X6_isOfKind_4 {x : sv_X} {b : Nat} {xt : sv_Xt} {F : sv_Fr} {Q : Int32 → sv_Mg → Prop} (G : sv_G x b xt RX6 cX6_isOfKind 4) (RR : sv_R x 1 22 0 0) (T : sv_RT x (some .boolean)) (hL : sv_Lay F) : ∀ (n : Nat) (v1 : Int32) (v2 : Int32) (v3 : Int32) (g : sv_Mg), wp_X6_isOfKind_4 F Q  n v1 v2 v3 g → sv_AW x (sv_Q x (sv_qI F Q) 0 0) F g 0 0 4 [(1, .int v1), (2, .int v2), (3, .int v3)] [] := by
  intro n
  induction n with
  | zero => intro v1 v2 v3 g h; exact h.elim
  | succ n ih =>
    intro v1 v2 v3 g h
    rw [wp_X6_isOfKind_4] at h
    refine sv_iload_n (pc := 4) G dX6_isOfKind_4 2 rfl ?_
    refine sv_bipush (pc := 5) G dX6_isOfKind_5 6 bp_6 ?_
    refine sv_ic_ge (pc := 7) G 38 (by decide) dX6_isOfKind_7 (fun c_1 => ?_) (fun c_1 => ?_)
    · have h := h.1 c_1
      refine sv_iconst (pc := 38) G dX6_isOfKind_38 0 ic_0 ?_
      exact sv_zreturn (pc := 39) G T (Or.inl rfl) ⟨(Nat.le_of_ble_eq_true rfl), (Nat.le_of_ble_eq_true rfl)⟩ dX6_isOfKind_39 ⟨_, rfl, rfl, h⟩
    · have h := h.2 c_1
      refine sv_iload_n (pc := 10) G dX6_isOfKind_10 1 rfl ?_
      refine sv_iconst (pc := 11) G dX6_isOfKind_11 0 ic_0 ?_
      refine sv_iconst (pc := 12) G dX6_isOfKind_12 5 ic_5 ?_
      refine sv_callS (cs := 0) (sl := 0) (st := []) (As := [.int v2, .int 0, .int 5]) (pc := 13) G RR (c_X6_isWithin hL  h) mw_X6_isWithin lk_X6_67 rfl ⟨(Nat.le_of_ble_eq_true rfl), (Nat.le_of_ble_eq_true rfl)⟩ ⟨(Nat.le_of_ble_eq_true rfl), (Nat.le_of_ble_eq_true rfl)⟩ (Nat.le_of_ble_eq_true rfl) rfl dX6_isOfKind_13 (sv_kI (fun r_3 g_2 h => ?_))
      refine sv_if_eq (pc := 16) G 38 (by decide) dX6_isOfKind_16 (fun c_4 => ?_) (fun c_4 => ?_)
      · have h := h.1 c_4
        refine sv_iconst (pc := 38) G dX6_isOfKind_38 0 ic_0 ?_
        exact sv_zreturn (pc := 39) G T (Or.inl rfl) ⟨(Nat.le_of_ble_eq_true rfl), (Nat.le_of_ble_eq_true rfl)⟩ dX6_isOfKind_39 ⟨_, rfl, rfl, h⟩
      · have h := h.2 c_4
        refine sv_iload_n (pc := 19) G dX6_isOfKind_19 1 rfl ?_
        refine sv_iload_n (pc := 20) G dX6_isOfKind_20 0 rfl ?_
        refine sv_ic_ne (pc := 21) G 26 (by decide) dX6_isOfKind_21 (fun c_5 => ?_) (fun c_5 => ?_)
        · have h := h.2 c_5
          refine sv_gets (pc := 26) G dX6_isOfKind_26 wd_above ?_
          refine sv_iload_n (pc := 29) G dX6_isOfKind_29 1 rfl ?_
          obtain ⟨s_6, h⟩ := h
          refine sv_ialdX (pc := 30) G dX6_isOfKind_30 s_6 ?_
          refine sv_topi (fun v2_7 ev2_7 => ?_)
          have h := h v2_7 ev2_7
          refine sv_istore_n (pc := 31) G dX6_isOfKind_31 [(2, .int v2_7), (1, .int v1), (3, .int v3)] (by decide) rfl ?_
          obtain ⟨v3_8, ev3_8⟩ : ∃ y : Int32, y = v3 + 1 := ⟨_, rfl⟩
          have h := h v3_8 ev3_8
          refine sv_iinc (pc := 32) G dX6_isOfKind_32 2 v3_8 [(3, .int v3_8), (2, .int v2_7), (1, .int v1)] (by rw [ev3_8, ic_1]) rfl (by decide) rfl ?_
          refine sv_goto (pc := 35) G dX6_isOfKind_35 4 (by decide) ?_
          refine sv_locs [2, 1, 0] [(1, .int v1), (2, .int v2_7), (3, .int v3_8)] rfl ?_
          exact ih v1 v2_7 v3_8 g_2  h
        · have h := h.1 c_5
          refine sv_iconst (pc := 24) G dX6_isOfKind_24 1 ic_1 ?_
          exact sv_zreturn (pc := 25) G T (Or.inr rfl) ⟨(Nat.le_of_ble_eq_true rfl), (Nat.le_of_ble_eq_true rfl)⟩ dX6_isOfKind_25 ⟨_, rfl, rfl, h⟩
set_option maxRecDepth 100000 in
set_option maxHeartbeats 4000000 in
theorem c_X6_isOfKind {b : Nat} {xt : sv_Xt} {F : sv_Fr} {v0 : Int32} {v1 : Int32} {g : sv_Mg} {Q : Int32 → sv_Mg → Prop} (hL : sv_Lay F) (h : wp_X6_isOfKind F v0 v1 g Q) : sv_Cal yX6_isOfKind cX6_isOfKind 4 (some .boolean) 1 22 0 0 b xt [.int v0, .int v1] F g (sv_qI F Q) := by
  refine sv_intro mw_X6_isOfKind [(0, .int v0), (1, .int v1)] rfl (Nat.le_of_ble_eq_true rfl) (fun x G RR T NM => ?_)
  have G : sv_G x b xt RX6 cX6_isOfKind 4 := G
  unfold wp_X6_isOfKind at h
  refine sv_iload_n (pc := 0) G dX6_isOfKind_0 0 rfl ?_
  refine sv_istore_n (pc := 1) G dX6_isOfKind_1 [(2, .int v0), (0, .int v0), (1, .int v1)] (by decide) rfl ?_
  refine sv_iconst (pc := 2) G dX6_isOfKind_2 0 ic_0 ?_
  refine sv_istore_n (pc := 3) G dX6_isOfKind_3 [(3, .int 0), (2, .int v0), (0, .int v0), (1, .int v1)] (by decide) rfl ?_
  refine sv_locs [3, 1, 0] [(1, .int v1), (2, .int v0), (3, .int 0)] rfl ?_
  obtain ⟨n_9, h⟩ := h
  exact aw_X6_isOfKind_4 G RR T hL   n_9 v1 v0 0 g  h
def wp_X6_as (F : sv_Fr) (v1 : Int32) (v2 : Int32) (g : sv_Mg) (Q : Int32 → sv_Mg → Prop) : Prop := wp_X0_isVoter F 7 v1 g (fun r_2 g_1 => ((r_2 = 0 → Q (-1000000001) g_1) ∧ (¬ r_2 = 0 → wp_X6_isWithin F v2 0 5 g_1 (fun r_5 g_4 => ((r_5 = 0 → Q (-1000000001) g_4) ∧ (¬ r_5 = 0 → vp_in v1 10 ∧ wp_X6_isOfKind F (g_4 8 v1.toNatClampNeg) v2 g_4 (fun r_9 g_8 => ((r_9 = 0 → Q (-1000000012) g_8) ∧ (¬ r_9 = 0 → vp_in v1 10 ∧ Q (g_8 11 v1.toNatClampNeg) g_8)))))))))
set_option maxRecDepth 100000 in
set_option maxHeartbeats 4000000 in
theorem c_X6_as {b : Nat} {xt : sv_Xt} {F : sv_Fr} {v1 : Int32} {v2 : Int32} {g : sv_Mg} {Q : Int32 → sv_Mg → Prop} (hL : sv_Lay F) (h : wp_X6_as F v1 v2 g Q) : sv_Cal yX6_as cX6_as 3 (some .int) 2 45 0 0 b xt [.ref (b + 0), .int v1, .int v2] F g (sv_qI F Q) := by
  refine sv_intro mw_X6_as [(0, .ref (b + 0)), (1, .int v1), (2, .int v2)] rfl (Nat.le_of_ble_eq_true rfl) (fun x G RR T NM => ?_)
  have G : sv_G x b xt RX6 cX6_as 3 := G
  unfold wp_X6_as at h
  refine sv_aload_n (pc := 0) G dX6_as_0 0 rfl ?_
  refine sv_getR (pc := 1) G fw_X6_28 (hL.sh rfl) rfl (hL.rf 2 rfl) dX6_as_1 ?_
  refine sv_iload_n (pc := 4) G dX6_as_4 1 rfl ?_
  refine sv_callV (cs := 0) (sl := 0) (st := []) (As := [.int v1]) (a := 7) (pc := 5) G RR (c_X0_isVoter hL sv_C7 h) mw_X0_isVoter lk_X6_80 (hL.sh rfl) (by decide) rfl rfl ⟨(Nat.le_of_ble_eq_true rfl), (Nat.le_of_ble_eq_true rfl)⟩ ⟨(Nat.le_of_ble_eq_true rfl), (Nat.le_of_ble_eq_true rfl)⟩ (Nat.le_of_ble_eq_true rfl) rfl dX6_as_5 (sv_kI (fun r_2 g_1 h => ?_))
  refine sv_if_eq (pc := 8) G 20 (by decide) dX6_as_8 (fun c_3 => ?_) (fun c_3 => ?_)
  · have h := h.1 c_3
    refine sv_ldc (pc := 20) G dX6_as_20 cn_X6_71 ?_
    exact sv_ireturn (pc := 22) G T ⟨(Nat.le_of_ble_eq_true rfl), (Nat.le_of_ble_eq_true rfl)⟩ dX6_as_22 ⟨_, rfl, rfl, h⟩
  · have h := h.2 c_3
    refine sv_iload_n (pc := 11) G dX6_as_11 2 rfl ?_
    refine sv_iconst (pc := 12) G dX6_as_12 0 ic_0 ?_
    refine sv_iconst (pc := 13) G dX6_as_13 5 ic_5 ?_
    refine sv_callS (cs := 0) (sl := 0) (st := []) (As := [.int v2, .int 0, .int 5]) (pc := 14) G RR (c_X6_isWithin hL  h) mw_X6_isWithin lk_X6_67 rfl ⟨(Nat.le_of_ble_eq_true rfl), (Nat.le_of_ble_eq_true rfl)⟩ ⟨(Nat.le_of_ble_eq_true rfl), (Nat.le_of_ble_eq_true rfl)⟩ (Nat.le_of_ble_eq_true rfl) rfl dX6_as_14 (sv_kI (fun r_5 g_4 h => ?_))
    refine sv_if_ne (pc := 17) G 23 (by decide) dX6_as_17 (fun c_6 => ?_) (fun c_6 => ?_)
    · have h := h.2 c_6
      refine sv_aload_n (pc := 23) G dX6_as_23 0 rfl ?_
      refine sv_getR (pc := 24) G fw_X6_28 (hL.sh rfl) rfl (hL.rf 2 rfl) dX6_as_24 ?_
      refine sv_getR (pc := 27) G fw_X6_84 (hL.sh rfl) rfl (hL.rf 14 rfl) dX6_as_27 ?_
      refine sv_iload_n (pc := 30) G dX6_as_30 1 rfl ?_
      obtain ⟨s_7, h⟩ := h
      refine sv_ialdK (pc := 31) G (hL.sh rfl) s_7 v1.toNatClampNeg rfl dX6_as_31 ?_
      refine sv_iload_n (pc := 32) G dX6_as_32 2 rfl ?_
      refine sv_callS (cs := 0) (sl := 0) (st := []) (As := [.int (g_4 8 v1.toNatClampNeg), .int v2]) (pc := 33) G RR (c_X6_isOfKind hL  h) mw_X6_isOfKind lk_X6_124 rfl ⟨(Nat.le_of_ble_eq_true rfl), (Nat.le_of_ble_eq_true rfl)⟩ ⟨(Nat.le_of_ble_eq_true rfl), (Nat.le_of_ble_eq_true rfl)⟩ (Nat.le_of_ble_eq_true rfl) rfl dX6_as_33 (sv_kI (fun r_9 g_8 h => ?_))
      refine sv_if_eq (pc := 36) G 51 (by decide) dX6_as_36 (fun c_10 => ?_) (fun c_10 => ?_)
      · have h := h.1 c_10
        refine sv_ldc (pc := 51) G dX6_as_51 cn_X6_128 ?_
        exact sv_ireturn (pc := 53) G T ⟨(Nat.le_of_ble_eq_true rfl), (Nat.le_of_ble_eq_true rfl)⟩ dX6_as_53 ⟨_, rfl, rfl, h⟩
      · have h := h.2 c_10
        refine sv_aload_n (pc := 39) G dX6_as_39 0 rfl ?_
        refine sv_getR (pc := 40) G fw_X6_28 (hL.sh rfl) rfl (hL.rf 2 rfl) dX6_as_40 ?_
        refine sv_getR (pc := 43) G fw_X6_93 (hL.sh rfl) rfl (hL.rf 17 rfl) dX6_as_43 ?_
        refine sv_iload_n (pc := 46) G dX6_as_46 1 rfl ?_
        obtain ⟨s_11, h⟩ := h
        refine sv_ialdK (pc := 47) G (hL.sh rfl) s_11 v1.toNatClampNeg rfl dX6_as_47 ?_
        refine sv_goto (pc := 48) G dX6_as_48 53 (by decide) ?_
        exact sv_ireturn (pc := 53) G T ⟨(Nat.le_of_ble_eq_true rfl), (Nat.le_of_ble_eq_true rfl)⟩ dX6_as_53 ⟨_, rfl, rfl, h⟩
    · have h := h.1 c_6
      refine sv_ldc (pc := 20) G dX6_as_20 cn_X6_71 ?_
      exact sv_ireturn (pc := 22) G T ⟨(Nat.le_of_ble_eq_true rfl), (Nat.le_of_ble_eq_true rfl)⟩ dX6_as_22 ⟨_, rfl, rfl, h⟩
def wp_X6_turns (F : sv_Fr) (v1 : Int32) (v2 : Int32) (g : sv_Mg) (Q : Int32 → sv_Mg → Prop) : Prop := wp_X0_isVoter F 7 v1 g (fun r_2 g_1 => ((r_2 = 0 → Q (-1000000001) g_1) ∧ (¬ r_2 = 0 → wp_X6_isWithin F v2 0 5 g_1 (fun r_5 g_4 => ((r_5 = 0 → Q (-1000000001) g_4) ∧ (¬ r_5 = 0 → vp_in v1 10 ∧ ∀ v3_8 : Int32, v3_8 = (g_4 8 v1.toNatClampNeg) → vp_in v1 10 ∧ ∀ g_10, g_10 = sv_st g_4 8 v1.toNatClampNeg v2 → wp_X0_tally F 7 g_10 (fun g_11 => Q v3_8 g_11)))))))
set_option maxRecDepth 100000 in
set_option maxHeartbeats 4000000 in
theorem c_X6_turns {b : Nat} {xt : sv_Xt} {F : sv_Fr} {v1 : Int32} {v2 : Int32} {g : sv_Mg} {Q : Int32 → sv_Mg → Prop} (hL : sv_Lay F) (h : wp_X6_turns F v1 v2 g Q) : sv_Cal yX6_turns cX6_turns 4 (some .int) 2 44 0 0 b xt [.ref (b + 0), .int v1, .int v2] F g (sv_qI F Q) := by
  refine sv_intro mw_X6_turns [(0, .ref (b + 0)), (1, .int v1), (2, .int v2)] rfl (Nat.le_of_ble_eq_true rfl) (fun x G RR T NM => ?_)
  have G : sv_G x b xt RX6 cX6_turns 4 := G
  unfold wp_X6_turns at h
  refine sv_aload_n (pc := 0) G dX6_turns_0 0 rfl ?_
  refine sv_getR (pc := 1) G fw_X6_28 (hL.sh rfl) rfl (hL.rf 2 rfl) dX6_turns_1 ?_
  refine sv_iload_n (pc := 4) G dX6_turns_4 1 rfl ?_
  refine sv_callV (cs := 0) (sl := 0) (st := []) (As := [.int v1]) (a := 7) (pc := 5) G RR (c_X0_isVoter hL sv_C7 h) mw_X0_isVoter lk_X6_80 (hL.sh rfl) (by decide) rfl rfl ⟨(Nat.le_of_ble_eq_true rfl), (Nat.le_of_ble_eq_true rfl)⟩ ⟨(Nat.le_of_ble_eq_true rfl), (Nat.le_of_ble_eq_true rfl)⟩ (Nat.le_of_ble_eq_true rfl) rfl dX6_turns_5 (sv_kI (fun r_2 g_1 h => ?_))
  refine sv_if_eq (pc := 8) G 20 (by decide) dX6_turns_8 (fun c_3 => ?_) (fun c_3 => ?_)
  · have h := h.1 c_3
    refine sv_ldc (pc := 20) G dX6_turns_20 cn_X6_71 ?_
    exact sv_ireturn (pc := 22) G T ⟨(Nat.le_of_ble_eq_true rfl), (Nat.le_of_ble_eq_true rfl)⟩ dX6_turns_22 ⟨_, rfl, rfl, h⟩
  · have h := h.2 c_3
    refine sv_iload_n (pc := 11) G dX6_turns_11 2 rfl ?_
    refine sv_iconst (pc := 12) G dX6_turns_12 0 ic_0 ?_
    refine sv_iconst (pc := 13) G dX6_turns_13 5 ic_5 ?_
    refine sv_callS (cs := 0) (sl := 0) (st := []) (As := [.int v2, .int 0, .int 5]) (pc := 14) G RR (c_X6_isWithin hL  h) mw_X6_isWithin lk_X6_67 rfl ⟨(Nat.le_of_ble_eq_true rfl), (Nat.le_of_ble_eq_true rfl)⟩ ⟨(Nat.le_of_ble_eq_true rfl), (Nat.le_of_ble_eq_true rfl)⟩ (Nat.le_of_ble_eq_true rfl) rfl dX6_turns_14 (sv_kI (fun r_5 g_4 h => ?_))
    refine sv_if_ne (pc := 17) G 23 (by decide) dX6_turns_17 (fun c_6 => ?_) (fun c_6 => ?_)
    · have h := h.2 c_6
      refine sv_aload_n (pc := 23) G dX6_turns_23 0 rfl ?_
      refine sv_getR (pc := 24) G fw_X6_28 (hL.sh rfl) rfl (hL.rf 2 rfl) dX6_turns_24 ?_
      refine sv_getR (pc := 27) G fw_X6_84 (hL.sh rfl) rfl (hL.rf 14 rfl) dX6_turns_27 ?_
      refine sv_iload_n (pc := 30) G dX6_turns_30 1 rfl ?_
      obtain ⟨s_7, h⟩ := h
      refine sv_ialdK (pc := 31) G (hL.sh rfl) s_7 v1.toNatClampNeg rfl dX6_turns_31 ?_
      refine sv_topi (fun v3_8 ev3_8 => ?_)
      have h := h v3_8 ev3_8
      refine sv_istore_n (pc := 32) G dX6_turns_32 [(3, .int v3_8), (0, .ref (b + 0)), (1, .int v1), (2, .int v2)] (by decide) rfl ?_
      refine sv_aload_n (pc := 33) G dX6_turns_33 1 rfl ?_
      refine sv_getR (pc := 34) G fw_X6_28 (hL.sh rfl) rfl (hL.rf 2 rfl) dX6_turns_34 ?_
      refine sv_getR (pc := 37) G fw_X6_84 (hL.sh rfl) rfl (hL.rf 14 rfl) dX6_turns_37 ?_
      refine sv_iload_n (pc := 40) G dX6_turns_40 2 rfl ?_
      refine sv_iload_n (pc := 41) G dX6_turns_41 3 rfl ?_
      obtain ⟨s_9, h⟩ := h
      refine sv_iastK (pc := 42) G (hL.sh rfl) s_9 v1.toNatClampNeg rfl dX6_turns_42 (fun g_10 eg_10 => ?_)
      have h := h g_10 eg_10
      refine sv_aload_n (pc := 43) G dX6_turns_43 1 rfl ?_
      refine sv_getR (pc := 44) G fw_X6_28 (hL.sh rfl) rfl (hL.rf 2 rfl) dX6_turns_44 ?_
      refine sv_callV (cs := 0) (sl := 0) (st := []) (As := []) (a := 7) (pc := 47) G RR (c_X0_tally hL sv_C7 h) mw_X0_tally lk_X6_129 (hL.sh rfl) (by decide) rfl rfl ⟨(Nat.le_of_ble_eq_true rfl), (Nat.le_of_ble_eq_true rfl)⟩ ⟨(Nat.le_of_ble_eq_true rfl), (Nat.le_of_ble_eq_true rfl)⟩ (Nat.le_of_ble_eq_true rfl) rfl dX6_turns_47 (sv_kV (fun g_11 h => ?_))
      refine sv_iload_n (pc := 50) G dX6_turns_50 0 rfl ?_
      exact sv_ireturn (pc := 51) G T ⟨(Nat.le_of_ble_eq_true rfl), (Nat.le_of_ble_eq_true rfl)⟩ dX6_turns_51 ⟨_, rfl, rfl, h⟩
    · have h := h.1 c_6
      refine sv_ldc (pc := 20) G dX6_turns_20 cn_X6_71 ?_
      exact sv_ireturn (pc := 22) G T ⟨(Nat.le_of_ble_eq_true rfl), (Nat.le_of_ble_eq_true rfl)⟩ dX6_turns_22 ⟨_, rfl, rfl, h⟩
def wp_X6_put (F : sv_Fr) (a0 : Nat) (n0 : Nat) (v1 : Int32) (v2 : Int32) (v3 : Int32) (g : sv_Mg) (Q : Int32 → sv_Mg → Prop) : Prop := wp_X6_isWithin F v2 0 v3 g (fun r_2 g_1 => ((r_2 = 0 → Q (-1000000001) g_1) ∧ (¬ r_2 = 0 → vp_in v1 n0 ∧ ∀ v4_5 : Int32, v4_5 = (g_1 a0 v1.toNatClampNeg) → vp_in v1 n0 ∧ ∀ g_7, g_7 = sv_st g_1 a0 v1.toNatClampNeg v2 → Q v4_5 g_7)))
set_option maxRecDepth 100000 in
set_option maxHeartbeats 4000000 in
theorem c_X6_put {b : Nat} {xt : sv_Xt} {F : sv_Fr} {a0 : Nat} {n0 : Nat} {v1 : Int32} {v2 : Int32} {v3 : Int32} {g : sv_Mg} {Q : Int32 → sv_Mg → Prop} (hL : sv_Lay F) (ha0 : F.1[a0]? = some (10, n0)) (h : wp_X6_put F a0 n0 v1 v2 v3 g Q) : sv_Cal yX6_put cX6_put 5 (some .int) 1 22 0 0 b xt [.ref (b + a0), .int v1, .int v2, .int v3] F g (sv_qI F Q) := by
  refine sv_intro mw_X6_put [(0, .ref (b + a0)), (1, .int v1), (2, .int v2), (3, .int v3)] rfl (Nat.le_of_ble_eq_true rfl) (fun x G RR T NM => ?_)
  have G : sv_G x b xt RX6 cX6_put 5 := G
  unfold wp_X6_put at h
  refine sv_iload_n (pc := 0) G dX6_put_0 2 rfl ?_
  refine sv_iconst (pc := 1) G dX6_put_1 0 ic_0 ?_
  refine sv_iload_n (pc := 2) G dX6_put_2 3 rfl ?_
  refine sv_callS (cs := 0) (sl := 0) (st := []) (As := [.int v2, .int 0, .int v3]) (pc := 3) G RR (c_X6_isWithin hL  h) mw_X6_isWithin lk_X6_67 rfl ⟨(Nat.le_of_ble_eq_true rfl), (Nat.le_of_ble_eq_true rfl)⟩ ⟨(Nat.le_of_ble_eq_true rfl), (Nat.le_of_ble_eq_true rfl)⟩ (Nat.le_of_ble_eq_true rfl) rfl dX6_put_3 (sv_kI (fun r_2 g_1 h => ?_))
  refine sv_if_ne (pc := 6) G 12 (by decide) dX6_put_6 (fun c_3 => ?_) (fun c_3 => ?_)
  · have h := h.2 c_3
    refine sv_aload_n (pc := 12) G dX6_put_12 0 rfl ?_
    refine sv_iload_n (pc := 13) G dX6_put_13 1 rfl ?_
    obtain ⟨s_4, h⟩ := h
    refine sv_ialdK (pc := 14) G ha0 s_4 v1.toNatClampNeg rfl dX6_put_14 ?_
    refine sv_topi (fun v4_5 ev4_5 => ?_)
    have h := h v4_5 ev4_5
    refine sv_istore (pc := 15) G dX6_put_15 [(4, .int v4_5), (0, .ref (b + a0)), (1, .int v1), (2, .int v2), (3, .int v3)] (by decide) rfl ?_
    refine sv_aload_n (pc := 17) G dX6_put_17 1 rfl ?_
    refine sv_iload_n (pc := 18) G dX6_put_18 2 rfl ?_
    refine sv_iload_n (pc := 19) G dX6_put_19 3 rfl ?_
    obtain ⟨s_6, h⟩ := h
    refine sv_iastK (pc := 20) G ha0 s_6 v1.toNatClampNeg rfl dX6_put_20 (fun g_7 eg_7 => ?_)
    have h := h g_7 eg_7
    refine sv_iload (pc := 21) G dX6_put_21 0 rfl ?_
    exact sv_ireturn (pc := 23) G T ⟨(Nat.le_of_ble_eq_true rfl), (Nat.le_of_ble_eq_true rfl)⟩ dX6_put_23 ⟨_, rfl, rfl, h⟩
  · have h := h.1 c_3
    refine sv_ldc (pc := 9) G dX6_put_9 cn_X6_71 ?_
    exact sv_ireturn (pc := 11) G T ⟨(Nat.le_of_ble_eq_true rfl), (Nat.le_of_ble_eq_true rfl)⟩ dX6_put_11 ⟨_, rfl, rfl, h⟩
def wp_X6_set (F : sv_Fr) (v1 : Int32) (v2 : Int32) (v3 : Int32) (g : sv_Mg) (Q : Int32 → sv_Mg → Prop) : Prop := wp_X0_isVoter F 7 v1 g (fun r_2 g_1 => ((r_2 = 0 → Q (-1000000001) g_1) ∧ (¬ r_2 = 0 → ((v2 = 1 → wp_X6_put F 9 10 v1 v3 9 g_1 (fun r_6 g_5 => Q r_6 g_5)) ∧ (¬ v2 = 1 → ((v2 = 2 → wp_X6_put F 10 10 v1 v3 3 g_1 (fun r_9 g_8 => Q r_9 g_8)) ∧ (¬ v2 = 2 → ((v2 = 3 → wp_X6_put F 11 10 v1 v3 99 g_1 (fun r_12 g_11 => Q r_12 g_11)) ∧ (¬ v2 = 3 → ((v2 = 4 → wp_X6_put F 12 10 v1 v3 9 g_1 (fun r_15 g_14 => Q r_15 g_14)) ∧ (¬ v2 = 4 → Q (-1000000001) g_1)))))))))))
set_option maxRecDepth 100000 in
set_option maxHeartbeats 4000000 in
theorem c_X6_set {b : Nat} {xt : sv_Xt} {F : sv_Fr} {v1 : Int32} {v2 : Int32} {v3 : Int32} {g : sv_Mg} {Q : Int32 → sv_Mg → Prop} (hL : sv_Lay F) (h : wp_X6_set F v1 v2 v3 g Q) : sv_Cal yX6_set cX6_set 4 (some .int) 2 46 0 0 b xt [.ref (b + 0), .int v1, .int v2, .int v3] F g (sv_qI F Q) := by
  refine sv_intro mw_X6_set [(0, .ref (b + 0)), (1, .int v1), (2, .int v2), (3, .int v3)] rfl (Nat.le_of_ble_eq_true rfl) (fun x G RR T NM => ?_)
  have G : sv_G x b xt RX6 cX6_set 4 := G
  unfold wp_X6_set at h
  refine sv_aload_n (pc := 0) G dX6_set_0 0 rfl ?_
  refine sv_getR (pc := 1) G fw_X6_28 (hL.sh rfl) rfl (hL.rf 2 rfl) dX6_set_1 ?_
  refine sv_iload_n (pc := 4) G dX6_set_4 1 rfl ?_
  refine sv_callV (cs := 0) (sl := 0) (st := []) (As := [.int v1]) (a := 7) (pc := 5) G RR (c_X0_isVoter hL sv_C7 h) mw_X0_isVoter lk_X6_80 (hL.sh rfl) (by decide) rfl rfl ⟨(Nat.le_of_ble_eq_true rfl), (Nat.le_of_ble_eq_true rfl)⟩ ⟨(Nat.le_of_ble_eq_true rfl), (Nat.le_of_ble_eq_true rfl)⟩ (Nat.le_of_ble_eq_true rfl) rfl dX6_set_5 (sv_kI (fun r_2 g_1 h => ?_))
  refine sv_if_ne (pc := 8) G 14 (by decide) dX6_set_8 (fun c_3 => ?_) (fun c_3 => ?_)
  · have h := h.2 c_3
    refine sv_iload_n (pc := 14) G dX6_set_14 2 rfl ?_
    by_cases c_4 : v2 = 1
    · have h := h.1 c_4
      refine sv_tsw (pc := 15) G dX6_set_15 1 (by rw [c_4]; decide) 44 (by decide) (by decide) rfl (by decide) ?_
      refine sv_aload_n (pc := 44) G dX6_set_44 0 rfl ?_
      refine sv_getR (pc := 45) G fw_X6_28 (hL.sh rfl) rfl (hL.rf 2 rfl) dX6_set_45 ?_
      refine sv_getR (pc := 48) G fw_X6_87 (hL.sh rfl) rfl (hL.rf 15 rfl) dX6_set_48 ?_
      refine sv_iload_n (pc := 51) G dX6_set_51 1 rfl ?_
      refine sv_iload_n (pc := 52) G dX6_set_52 3 rfl ?_
      refine sv_bipush (pc := 53) G dX6_set_53 9 bp_9 ?_
      refine sv_callS (cs := 0) (sl := 0) (st := []) (As := [.ref (b + 9), .int v1, .int v3, .int 9]) (pc := 55) G RR (c_X6_put hL (hL.sh rfl) h) mw_X6_put lk_X6_132 rfl ⟨(Nat.le_of_ble_eq_true rfl), (Nat.le_of_ble_eq_true rfl)⟩ ⟨(Nat.le_of_ble_eq_true rfl), (Nat.le_of_ble_eq_true rfl)⟩ (Nat.le_of_ble_eq_true rfl) rfl dX6_set_55 (sv_kI (fun r_6 g_5 h => ?_))
      exact sv_ireturn (pc := 58) G T ⟨(Nat.le_of_ble_eq_true rfl), (Nat.le_of_ble_eq_true rfl)⟩ dX6_set_58 ⟨_, rfl, rfl, h⟩
    · have h := h.2 c_4
      by_cases c_7 : v2 = 2
      · have h := h.1 c_7
        refine sv_tsw (pc := 15) G dX6_set_15 2 (by rw [c_7]; decide) 59 (by decide) (by decide) rfl (by decide) ?_
        refine sv_aload_n (pc := 59) G dX6_set_59 0 rfl ?_
        refine sv_getR (pc := 60) G fw_X6_28 (hL.sh rfl) rfl (hL.rf 2 rfl) dX6_set_60 ?_
        refine sv_getR (pc := 63) G fw_X6_90 (hL.sh rfl) rfl (hL.rf 16 rfl) dX6_set_63 ?_
        refine sv_iload_n (pc := 66) G dX6_set_66 1 rfl ?_
        refine sv_iload_n (pc := 67) G dX6_set_67 3 rfl ?_
        refine sv_iconst (pc := 68) G dX6_set_68 3 ic_3 ?_
        refine sv_callS (cs := 0) (sl := 0) (st := []) (As := [.ref (b + 10), .int v1, .int v3, .int 3]) (pc := 69) G RR (c_X6_put hL (hL.sh rfl) h) mw_X6_put lk_X6_132 rfl ⟨(Nat.le_of_ble_eq_true rfl), (Nat.le_of_ble_eq_true rfl)⟩ ⟨(Nat.le_of_ble_eq_true rfl), (Nat.le_of_ble_eq_true rfl)⟩ (Nat.le_of_ble_eq_true rfl) rfl dX6_set_69 (sv_kI (fun r_9 g_8 h => ?_))
        exact sv_ireturn (pc := 72) G T ⟨(Nat.le_of_ble_eq_true rfl), (Nat.le_of_ble_eq_true rfl)⟩ dX6_set_72 ⟨_, rfl, rfl, h⟩
      · have h := h.2 c_7
        by_cases c_10 : v2 = 3
        · have h := h.1 c_10
          refine sv_tsw (pc := 15) G dX6_set_15 3 (by rw [c_10]; decide) 73 (by decide) (by decide) rfl (by decide) ?_
          refine sv_aload_n (pc := 73) G dX6_set_73 0 rfl ?_
          refine sv_getR (pc := 74) G fw_X6_28 (hL.sh rfl) rfl (hL.rf 2 rfl) dX6_set_74 ?_
          refine sv_getR (pc := 77) G fw_X6_93 (hL.sh rfl) rfl (hL.rf 17 rfl) dX6_set_77 ?_
          refine sv_iload_n (pc := 80) G dX6_set_80 1 rfl ?_
          refine sv_iload_n (pc := 81) G dX6_set_81 3 rfl ?_
          refine sv_bipush (pc := 82) G dX6_set_82 99 bp_99 ?_
          refine sv_callS (cs := 0) (sl := 0) (st := []) (As := [.ref (b + 11), .int v1, .int v3, .int 99]) (pc := 84) G RR (c_X6_put hL (hL.sh rfl) h) mw_X6_put lk_X6_132 rfl ⟨(Nat.le_of_ble_eq_true rfl), (Nat.le_of_ble_eq_true rfl)⟩ ⟨(Nat.le_of_ble_eq_true rfl), (Nat.le_of_ble_eq_true rfl)⟩ (Nat.le_of_ble_eq_true rfl) rfl dX6_set_84 (sv_kI (fun r_12 g_11 h => ?_))
          exact sv_ireturn (pc := 87) G T ⟨(Nat.le_of_ble_eq_true rfl), (Nat.le_of_ble_eq_true rfl)⟩ dX6_set_87 ⟨_, rfl, rfl, h⟩
        · have h := h.2 c_10
          by_cases c_13 : v2 = 4
          · have h := h.1 c_13
            refine sv_tsw (pc := 15) G dX6_set_15 4 (by rw [c_13]; decide) 88 (by decide) (by decide) rfl (by decide) ?_
            refine sv_aload_n (pc := 88) G dX6_set_88 0 rfl ?_
            refine sv_getR (pc := 89) G fw_X6_28 (hL.sh rfl) rfl (hL.rf 2 rfl) dX6_set_89 ?_
            refine sv_getR (pc := 92) G fw_X6_96 (hL.sh rfl) rfl (hL.rf 18 rfl) dX6_set_92 ?_
            refine sv_iload_n (pc := 95) G dX6_set_95 1 rfl ?_
            refine sv_iload_n (pc := 96) G dX6_set_96 3 rfl ?_
            refine sv_bipush (pc := 97) G dX6_set_97 9 bp_9 ?_
            refine sv_callS (cs := 0) (sl := 0) (st := []) (As := [.ref (b + 12), .int v1, .int v3, .int 9]) (pc := 99) G RR (c_X6_put hL (hL.sh rfl) h) mw_X6_put lk_X6_132 rfl ⟨(Nat.le_of_ble_eq_true rfl), (Nat.le_of_ble_eq_true rfl)⟩ ⟨(Nat.le_of_ble_eq_true rfl), (Nat.le_of_ble_eq_true rfl)⟩ (Nat.le_of_ble_eq_true rfl) rfl dX6_set_99 (sv_kI (fun r_15 g_14 h => ?_))
            exact sv_ireturn (pc := 102) G T ⟨(Nat.le_of_ble_eq_true rfl), (Nat.le_of_ble_eq_true rfl)⟩ dX6_set_102 ⟨_, rfl, rfl, h⟩
          · have h := h.2 c_13
            refine sv_tswD (pc := 15) G dX6_set_15 (by have qc_4 := lv_neT (a := 1) c_4 (by decide); have qc_7 := lv_neT (a := 2) c_7 (by decide); have qc_10 := lv_neT (a := 3) c_10 (by decide); have qc_13 := lv_neT (a := 4) c_13 (by decide); omega) 103 (by decide) ?_
            refine sv_ldc (pc := 103) G dX6_set_103 cn_X6_71 ?_
            exact sv_ireturn (pc := 105) G T ⟨(Nat.le_of_ble_eq_true rfl), (Nat.le_of_ble_eq_true rfl)⟩ dX6_set_105 ⟨_, rfl, rfl, h⟩
  · have h := h.1 c_3
    refine sv_ldc (pc := 11) G dX6_set_11 cn_X6_71 ?_
    exact sv_ireturn (pc := 13) G T ⟨(Nat.le_of_ble_eq_true rfl), (Nat.le_of_ble_eq_true rfl)⟩ dX6_set_13 ⟨_, rfl, rfl, h⟩
def wp_X6_rule_10 (F : sv_Fr) (Q : Int32 → sv_Mg → Prop) (v1 : Int32) (v2 : Int32) (s0 : Int32) (g : sv_Mg) : Prop := wp_X6_isWithin F v1 0 2 g (fun r_2 g_1 => ((r_2 = 0 → Q (-1000000001) g_1) ∧ (¬ r_2 = 0 → wp_X6_isWithin F v2 s0 99 g_1 (fun r_5 g_4 => ((r_5 = 0 → Q (-1000000001) g_4) ∧ (¬ r_5 = 0 → ((v1 = 0 → ∀ v4_13 : Int32, v4_13 = (g_4 7 9) → ∀ g_14, g_14 = sv_st g_4 7 9 v2 → Q v4_13 g_14) ∧ (¬ v1 = 0 → ((v1 = 1 → ∀ v4_11 : Int32, v4_11 = (g_4 7 10) → ∀ g_12, g_12 = sv_st g_4 7 10 v2 → Q v4_11 g_12) ∧ (¬ v1 = 1 → ∀ v4_9 : Int32, v4_9 = (g_4 7 11) → ∀ g_10, g_10 = sv_st g_4 7 11 v2 → Q v4_9 g_10))))))))))
def wp_X6_rule (F : sv_Fr) (v1 : Int32) (v2 : Int32) (g : sv_Mg) (Q : Int32 → sv_Mg → Prop) : Prop := ((v1 = 2 → wp_X6_rule_10 F  Q  v1 v2 1 g) ∧ (¬ v1 = 2 → wp_X6_rule_10 F  Q  v1 v2 0 g))
set_option maxRecDepth 100000 in
set_option maxHeartbeats 4000000 in
theorem aw_X6_rule_10 {x : sv_X} {b : Nat} {xt : sv_Xt} {F : sv_Fr} {Q : Int32 → sv_Mg → Prop} (G : sv_G x b xt RX6 cX6_rule 5) (RR : sv_R x 1 22 0 0) (T : sv_RT x (some .int)) (hL : sv_Lay F) : ∀ (v1 : Int32) (v2 : Int32) (s0 : Int32) (g : sv_Mg), wp_X6_rule_10 F Q  v1 v2 s0 g → sv_AW x (sv_Q x (sv_qI F Q) 0 0) F g 0 0 10 [(0, .ref (b + 0)), (1, .int v1), (2, .int v2)] [.int s0] := by
  intro v1 v2 s0 g h
  unfold wp_X6_rule_10 at h
  refine sv_istore_n (pc := 10) G dX6_rule_10 [(3, .int s0), (0, .ref (b + 0)), (1, .int v1), (2, .int v2)] (by decide) rfl ?_
  refine sv_iload_n (pc := 11) G dX6_rule_11 2 rfl ?_
  refine sv_iconst (pc := 12) G dX6_rule_12 0 ic_0 ?_
  refine sv_iconst (pc := 13) G dX6_rule_13 2 ic_2 ?_
  refine sv_callS (cs := 0) (sl := 0) (st := []) (As := [.int v1, .int 0, .int 2]) (pc := 14) G RR (c_X6_isWithin hL  h) mw_X6_isWithin lk_X6_67 rfl ⟨(Nat.le_of_ble_eq_true rfl), (Nat.le_of_ble_eq_true rfl)⟩ ⟨(Nat.le_of_ble_eq_true rfl), (Nat.le_of_ble_eq_true rfl)⟩ (Nat.le_of_ble_eq_true rfl) rfl dX6_rule_14 (sv_kI (fun r_2 g_1 h => ?_))
  refine sv_if_eq (pc := 17) G 30 (by decide) dX6_rule_17 (fun c_3 => ?_) (fun c_3 => ?_)
  · have h := h.1 c_3
    refine sv_ldc (pc := 30) G dX6_rule_30 cn_X6_71 ?_
    exact sv_ireturn (pc := 32) G T ⟨(Nat.le_of_ble_eq_true rfl), (Nat.le_of_ble_eq_true rfl)⟩ dX6_rule_32 ⟨_, rfl, rfl, h⟩
  · have h := h.2 c_3
    refine sv_iload_n (pc := 20) G dX6_rule_20 3 rfl ?_
    refine sv_iload_n (pc := 21) G dX6_rule_21 0 rfl ?_
    refine sv_bipush (pc := 22) G dX6_rule_22 99 bp_99 ?_
    refine sv_callS (cs := 0) (sl := 0) (st := []) (As := [.int v2, .int s0, .int 99]) (pc := 24) G RR (c_X6_isWithin hL  h) mw_X6_isWithin lk_X6_67 rfl ⟨(Nat.le_of_ble_eq_true rfl), (Nat.le_of_ble_eq_true rfl)⟩ ⟨(Nat.le_of_ble_eq_true rfl), (Nat.le_of_ble_eq_true rfl)⟩ (Nat.le_of_ble_eq_true rfl) rfl dX6_rule_24 (sv_kI (fun r_5 g_4 h => ?_))
    refine sv_if_ne (pc := 27) G 33 (by decide) dX6_rule_27 (fun c_6 => ?_) (fun c_6 => ?_)
    · have h := h.2 c_6
      refine sv_iload_n (pc := 33) G dX6_rule_33 2 rfl ?_
      refine sv_if_ne (pc := 34) G 57 (by decide) dX6_rule_34 (fun c_7 => ?_) (fun c_7 => ?_)
      · have h := h.2 c_7
        refine sv_iload_n (pc := 57) G dX6_rule_57 2 rfl ?_
        refine sv_iconst (pc := 58) G dX6_rule_58 1 ic_1 ?_
        refine sv_ic_ne (pc := 59) G 82 (by decide) dX6_rule_59 (fun c_8 => ?_) (fun c_8 => ?_)
        · have h := h.2 c_8
          refine sv_aload_n (pc := 82) G dX6_rule_82 1 rfl ?_
          refine sv_getR (pc := 83) G fw_X6_28 (hL.sh rfl) rfl (hL.rf 2 rfl) dX6_rule_83 ?_
          refine sv_getI (pc := 86) G fw_X6_142 (hL.sh rfl) rfl dX6_rule_86 ?_
          refine sv_topi (fun v4_9 ev4_9 => ?_)
          have h := h v4_9 ev4_9
          refine sv_istore (pc := 89) G dX6_rule_89 [(4, .int v4_9), (3, .int s0), (0, .ref (b + 0)), (1, .int v1), (2, .int v2)] (by decide) rfl ?_
          refine sv_aload_n (pc := 91) G dX6_rule_91 2 rfl ?_
          refine sv_getR (pc := 92) G fw_X6_28 (hL.sh rfl) rfl (hL.rf 2 rfl) dX6_rule_92 ?_
          refine sv_iload_n (pc := 95) G dX6_rule_95 4 rfl ?_
          refine sv_putI (pc := 96) G fw_X6_142 (hL.sh rfl) rfl dX6_rule_96 (fun g_10 eg_10 => ?_)
          have h := h g_10 eg_10
          refine sv_iload (pc := 99) G dX6_rule_99 0 rfl ?_
          exact sv_ireturn (pc := 101) G T ⟨(Nat.le_of_ble_eq_true rfl), (Nat.le_of_ble_eq_true rfl)⟩ dX6_rule_101 ⟨_, rfl, rfl, h⟩
        · have h := h.1 c_8
          refine sv_aload_n (pc := 62) G dX6_rule_62 1 rfl ?_
          refine sv_getR (pc := 63) G fw_X6_28 (hL.sh rfl) rfl (hL.rf 2 rfl) dX6_rule_63 ?_
          refine sv_getI (pc := 66) G fw_X6_139 (hL.sh rfl) rfl dX6_rule_66 ?_
          refine sv_topi (fun v4_11 ev4_11 => ?_)
          have h := h v4_11 ev4_11
          refine sv_istore (pc := 69) G dX6_rule_69 [(4, .int v4_11), (3, .int s0), (0, .ref (b + 0)), (1, .int v1), (2, .int v2)] (by decide) rfl ?_
          refine sv_aload_n (pc := 71) G dX6_rule_71 2 rfl ?_
          refine sv_getR (pc := 72) G fw_X6_28 (hL.sh rfl) rfl (hL.rf 2 rfl) dX6_rule_72 ?_
          refine sv_iload_n (pc := 75) G dX6_rule_75 4 rfl ?_
          refine sv_putI (pc := 76) G fw_X6_139 (hL.sh rfl) rfl dX6_rule_76 (fun g_12 eg_12 => ?_)
          have h := h g_12 eg_12
          refine sv_goto (pc := 79) G dX6_rule_79 99 (by decide) ?_
          refine sv_iload (pc := 99) G dX6_rule_99 0 rfl ?_
          exact sv_ireturn (pc := 101) G T ⟨(Nat.le_of_ble_eq_true rfl), (Nat.le_of_ble_eq_true rfl)⟩ dX6_rule_101 ⟨_, rfl, rfl, h⟩
      · have h := h.1 c_7
        refine sv_aload_n (pc := 37) G dX6_rule_37 1 rfl ?_
        refine sv_getR (pc := 38) G fw_X6_28 (hL.sh rfl) rfl (hL.rf 2 rfl) dX6_rule_38 ?_
        refine sv_getI (pc := 41) G fw_X6_136 (hL.sh rfl) rfl dX6_rule_41 ?_
        refine sv_topi (fun v4_13 ev4_13 => ?_)
        have h := h v4_13 ev4_13
        refine sv_istore (pc := 44) G dX6_rule_44 [(4, .int v4_13), (3, .int s0), (0, .ref (b + 0)), (1, .int v1), (2, .int v2)] (by decide) rfl ?_
        refine sv_aload_n (pc := 46) G dX6_rule_46 2 rfl ?_
        refine sv_getR (pc := 47) G fw_X6_28 (hL.sh rfl) rfl (hL.rf 2 rfl) dX6_rule_47 ?_
        refine sv_iload_n (pc := 50) G dX6_rule_50 4 rfl ?_
        refine sv_putI (pc := 51) G fw_X6_136 (hL.sh rfl) rfl dX6_rule_51 (fun g_14 eg_14 => ?_)
        have h := h g_14 eg_14
        refine sv_goto (pc := 54) G dX6_rule_54 99 (by decide) ?_
        refine sv_iload (pc := 99) G dX6_rule_99 0 rfl ?_
        exact sv_ireturn (pc := 101) G T ⟨(Nat.le_of_ble_eq_true rfl), (Nat.le_of_ble_eq_true rfl)⟩ dX6_rule_101 ⟨_, rfl, rfl, h⟩
    · have h := h.1 c_6
      refine sv_ldc (pc := 30) G dX6_rule_30 cn_X6_71 ?_
      exact sv_ireturn (pc := 32) G T ⟨(Nat.le_of_ble_eq_true rfl), (Nat.le_of_ble_eq_true rfl)⟩ dX6_rule_32 ⟨_, rfl, rfl, h⟩
set_option maxRecDepth 100000 in
set_option maxHeartbeats 4000000 in
theorem c_X6_rule {b : Nat} {xt : sv_Xt} {F : sv_Fr} {v1 : Int32} {v2 : Int32} {g : sv_Mg} {Q : Int32 → sv_Mg → Prop} (hL : sv_Lay F) (h : wp_X6_rule F v1 v2 g Q) : sv_Cal yX6_rule cX6_rule 5 (some .int) 1 22 0 0 b xt [.ref (b + 0), .int v1, .int v2] F g (sv_qI F Q) := by
  refine sv_intro mw_X6_rule [(0, .ref (b + 0)), (1, .int v1), (2, .int v2)] rfl (Nat.le_of_ble_eq_true rfl) (fun x G RR T NM => ?_)
  have G : sv_G x b xt RX6 cX6_rule 5 := G
  unfold wp_X6_rule at h
  refine sv_iload_n (pc := 0) G dX6_rule_0 1 rfl ?_
  refine sv_iconst (pc := 1) G dX6_rule_1 2 ic_2 ?_
  refine sv_ic_ne (pc := 2) G 9 (by decide) dX6_rule_2 (fun c_15 => ?_) (fun c_15 => ?_)
  · have h := h.2 c_15
    refine sv_iconst (pc := 9) G dX6_rule_9 0 ic_0 ?_
    refine sv_locs [0, 1, 2] [(0, .ref (b + 0)), (1, .int v1), (2, .int v2)] rfl ?_
    exact aw_X6_rule_10 G RR T hL   v1 v2 0 g  h
  · have h := h.1 c_15
    refine sv_iconst (pc := 5) G dX6_rule_5 1 ic_1 ?_
    refine sv_goto (pc := 6) G dX6_rule_6 10 (by decide) ?_
    refine sv_locs [0, 1, 2] [(0, .ref (b + 0)), (1, .int v1), (2, .int v2)] rfl ?_
    exact aw_X6_rule_10 G RR T hL   v1 v2 1 g  h
def wp_X6_again (F : sv_Fr) (g : sv_Mg) (Q : Int32 → sv_Mg → Prop) : Prop := ∀ v1_1 : Int32, v1_1 = (g 7 14) → wp_X0_startOver F 7 g (fun g_2 => Q v1_1 g_2)
set_option maxRecDepth 100000 in
set_option maxHeartbeats 4000000 in
theorem c_X6_again {b : Nat} {xt : sv_Xt} {F : sv_Fr} {g : sv_Mg} {Q : Int32 → sv_Mg → Prop} (hL : sv_Lay F) (h : wp_X6_again F g Q) : sv_Cal yX6_again cX6_again 2 (some .int) 2 43 0 0 b xt [.ref (b + 0)] F g (sv_qI F Q) := by
  refine sv_intro mw_X6_again [(0, .ref (b + 0))] rfl (Nat.le_of_ble_eq_true rfl) (fun x G RR T NM => ?_)
  have G : sv_G x b xt RX6 cX6_again 2 := G
  unfold wp_X6_again at h
  refine sv_aload_n (pc := 0) G dX6_again_0 0 rfl ?_
  refine sv_getR (pc := 1) G fw_X6_28 (hL.sh rfl) rfl (hL.rf 2 rfl) dX6_again_1 ?_
  refine sv_getI (pc := 4) G fw_X6_145 (hL.sh rfl) rfl dX6_again_4 ?_
  refine sv_topi (fun v1_1 ev1_1 => ?_)
  have h := h v1_1 ev1_1
  refine sv_istore_n (pc := 7) G dX6_again_7 [(1, .int v1_1), (0, .ref (b + 0))] (by decide) rfl ?_
  refine sv_aload_n (pc := 8) G dX6_again_8 1 rfl ?_
  refine sv_getR (pc := 9) G fw_X6_28 (hL.sh rfl) rfl (hL.rf 2 rfl) dX6_again_9 ?_
  refine sv_callV (cs := 0) (sl := 0) (st := []) (As := []) (a := 7) (pc := 12) G RR (c_X0_startOver hL sv_C7 h) mw_X0_startOver lk_X6_148 (hL.sh rfl) (by decide) rfl rfl ⟨(Nat.le_of_ble_eq_true rfl), (Nat.le_of_ble_eq_true rfl)⟩ ⟨(Nat.le_of_ble_eq_true rfl), (Nat.le_of_ble_eq_true rfl)⟩ (Nat.le_of_ble_eq_true rfl) rfl dX6_again_12 (sv_kV (fun g_2 h => ?_))
  refine sv_iload_n (pc := 15) G dX6_again_15 0 rfl ?_
  exact sv_ireturn (pc := 16) G T ⟨(Nat.le_of_ble_eq_true rfl), (Nat.le_of_ble_eq_true rfl)⟩ dX6_again_16 ⟨_, rfl, rfl, h⟩
def wp_X6_deal_30 (F : sv_Fr) (Q : Int32 → sv_Mg → Prop) : Nat → Int32 → Int32 → sv_Mg → Prop
  | 0, _, _, _ => False
  | n + 1, v2, v3, g => ((v2 ≤ v3 → Q v2 g) ∧ (¬ v2 ≤ v3 → wp_X0_enterDrawn F 7 g (fun g_2 => ∀ v3_3 : Int32, v3_3 = v3 + 1 → (wp_X6_deal_30 F Q  n) v2 v3_3 g_2)))
def wp_X6_deal (F : sv_Fr) (v1 : Int32) (g : sv_Mg) (Q : Int32 → sv_Mg → Prop) : Prop := wp_X6_isWithin F v1 1 10 g (fun r_5 g_4 => ((r_5 = 0 → Q (-1000000001) g_4) ∧ (¬ r_5 = 0 → ∀ v2_7 : Int32, v2_7 = (if (10 - (g_4 7 8)) < v1 then (10 - (g_4 7 8)) else v1) → ∃ n_8, wp_X6_deal_30 F  Q  n_8 v2_7 0 g_4)))
set_option maxRecDepth 100000 in
set_option maxHeartbeats 4000000 in
theorem aw_X6_deal_30 {x : sv_X} {b : Nat} {xt : sv_Xt} {F : sv_Fr} {Q : Int32 → sv_Mg → Prop} (G : sv_G x b xt RX6 cX6_deal 4) (RR : sv_R x 2 48 0 0) (T : sv_RT x (some .int)) (hL : sv_Lay F) : ∀ (n : Nat) (v2 : Int32) (v3 : Int32) (g : sv_Mg), wp_X6_deal_30 F Q  n v2 v3 g → sv_AW x (sv_Q x (sv_qI F Q) 0 0) F g 0 0 30 [(0, .ref (b + 0)), (2, .int v2), (3, .int v3)] [] := by
  intro n
  induction n with
  | zero => intro v2 v3 g h; exact h.elim
  | succ n ih =>
    intro v2 v3 g h
    rw [wp_X6_deal_30] at h
    refine sv_iload_n (pc := 30) G dX6_deal_30 2 rfl ?_
    refine sv_iload_n (pc := 31) G dX6_deal_31 1 rfl ?_
    refine sv_ic_ge (pc := 32) G 48 (by decide) dX6_deal_32 (fun c_1 => ?_) (fun c_1 => ?_)
    · have h := h.1 c_1
      refine sv_iload_n (pc := 48) G dX6_deal_48 1 rfl ?_
      exact sv_ireturn (pc := 49) G T ⟨(Nat.le_of_ble_eq_true rfl), (Nat.le_of_ble_eq_true rfl)⟩ dX6_deal_49 ⟨_, rfl, rfl, h⟩
    · have h := h.2 c_1
      refine sv_aload_n (pc := 35) G dX6_deal_35 0 rfl ?_
      refine sv_getR (pc := 36) G fw_X6_28 (hL.sh rfl) rfl (hL.rf 2 rfl) dX6_deal_36 ?_
      refine sv_callV (cs := 0) (sl := 0) (st := []) (As := []) (a := 7) (pc := 39) G RR (c_X0_enterDrawn hL sv_C7 h) mw_X0_enterDrawn lk_X6_156 (hL.sh rfl) (by decide) rfl rfl ⟨(Nat.le_of_ble_eq_true rfl), (Nat.le_of_ble_eq_true rfl)⟩ ⟨(Nat.le_of_ble_eq_true rfl), (Nat.le_of_ble_eq_true rfl)⟩ (Nat.le_of_ble_eq_true rfl) rfl dX6_deal_39 (sv_kV (fun g_2 h => ?_))
      obtain ⟨v3_3, ev3_3⟩ : ∃ y : Int32, y = v3 + 1 := ⟨_, rfl⟩
      have h := h v3_3 ev3_3
      refine sv_iinc (pc := 42) G dX6_deal_42 2 v3_3 [(3, .int v3_3), (0, .ref (b + 0)), (2, .int v2)] (by rw [ev3_3, ic_1]) rfl (by decide) rfl ?_
      refine sv_goto (pc := 45) G dX6_deal_45 30 (by decide) ?_
      refine sv_locs [1, 2, 0] [(0, .ref (b + 0)), (2, .int v2), (3, .int v3_3)] rfl ?_
      exact ih v2 v3_3 g_2  h
set_option maxRecDepth 100000 in
set_option maxHeartbeats 4000000 in
theorem c_X6_deal {b : Nat} {xt : sv_Xt} {F : sv_Fr} {v1 : Int32} {g : sv_Mg} {Q : Int32 → sv_Mg → Prop} (hL : sv_Lay F) (h : wp_X6_deal F v1 g Q) : sv_Cal yX6_deal cX6_deal 4 (some .int) 2 48 0 0 b xt [.ref (b + 0), .int v1] F g (sv_qI F Q) := by
  refine sv_intro mw_X6_deal [(0, .ref (b + 0)), (1, .int v1)] rfl (Nat.le_of_ble_eq_true rfl) (fun x G RR T NM => ?_)
  have G : sv_G x b xt RX6 cX6_deal 4 := G
  unfold wp_X6_deal at h
  refine sv_iload_n (pc := 0) G dX6_deal_0 1 rfl ?_
  refine sv_iconst (pc := 1) G dX6_deal_1 1 ic_1 ?_
  refine sv_bipush (pc := 2) G dX6_deal_2 10 bp_10 ?_
  refine sv_callS (cs := 0) (sl := 0) (st := []) (As := [.int v1, .int 1, .int 10]) (pc := 4) G RR (c_X6_isWithin hL  h) mw_X6_isWithin lk_X6_67 rfl ⟨(Nat.le_of_ble_eq_true rfl), (Nat.le_of_ble_eq_true rfl)⟩ ⟨(Nat.le_of_ble_eq_true rfl), (Nat.le_of_ble_eq_true rfl)⟩ (Nat.le_of_ble_eq_true rfl) rfl dX6_deal_4 (sv_kI (fun r_5 g_4 h => ?_))
  refine sv_if_ne (pc := 7) G 13 (by decide) dX6_deal_7 (fun c_6 => ?_) (fun c_6 => ?_)
  · have h := h.2 c_6
    refine sv_iload_n (pc := 13) G dX6_deal_13 1 rfl ?_
    refine sv_bipush (pc := 14) G dX6_deal_14 10 bp_10 ?_
    refine sv_aload_n (pc := 16) G dX6_deal_16 0 rfl ?_
    refine sv_getR (pc := 17) G fw_X6_28 (hL.sh rfl) rfl (hL.rf 2 rfl) dX6_deal_17 ?_
    refine sv_getI (pc := 20) G fw_X6_72 (hL.sh rfl) rfl dX6_deal_20 ?_
    refine sv_isub (pc := 23) G dX6_deal_23 ?_
    refine sv_min (pc := 24) G RR lk_X6_151 wd_min1 wd_math wd_min2 (Nat.le_of_ble_eq_true rfl) (Nat.le_of_ble_eq_true rfl) (Nat.le_of_ble_eq_true rfl) ⟨(Nat.le_of_ble_eq_true rfl), (Nat.le_of_ble_eq_true rfl)⟩ dX6_deal_24 ?_
    refine sv_topi (fun v2_7 ev2_7 => ?_)
    have h := h v2_7 ev2_7
    refine sv_istore_n (pc := 27) G dX6_deal_27 [(2, .int v2_7), (0, .ref (b + 0)), (1, .int v1)] (by decide) rfl ?_
    refine sv_iconst (pc := 28) G dX6_deal_28 0 ic_0 ?_
    refine sv_istore_n (pc := 29) G dX6_deal_29 [(3, .int 0), (2, .int v2_7), (0, .ref (b + 0)), (1, .int v1)] (by decide) rfl ?_
    refine sv_locs [2, 1, 0] [(0, .ref (b + 0)), (2, .int v2_7), (3, .int 0)] rfl ?_
    obtain ⟨n_8, h⟩ := h
    exact aw_X6_deal_30 G RR T hL   n_8 v2_7 0 g_4  h
  · have h := h.1 c_6
    refine sv_ldc (pc := 10) G dX6_deal_10 cn_X6_71 ?_
    exact sv_ireturn (pc := 12) G T ⟨(Nat.le_of_ble_eq_true rfl), (Nat.le_of_ble_eq_true rfl)⟩ dX6_deal_12 ⟨_, rfl, rfl, h⟩
def wp_X6_seed (F : sv_Fr) (v1 : Int32) (g : sv_Mg) (Q : Int32 → sv_Mg → Prop) : Prop := ∀ v2_1 : Int32, v2_1 = (g 7 16) → ∀ g_2, g_2 = sv_st g 7 16 v1 → Q v2_1 g_2
set_option maxRecDepth 100000 in
set_option maxHeartbeats 4000000 in
theorem c_X6_seed {b : Nat} {xt : sv_Xt} {F : sv_Fr} {v1 : Int32} {g : sv_Mg} {Q : Int32 → sv_Mg → Prop} (hL : sv_Lay F) (h : wp_X6_seed F v1 g Q) : sv_Cal yX6_seed cX6_seed 3 (some .int) 0 0 0 0 b xt [.ref (b + 0), .int v1] F g (sv_qI F Q) := by
  refine sv_intro mw_X6_seed [(0, .ref (b + 0)), (1, .int v1)] rfl (Nat.le_of_ble_eq_true rfl) (fun x G RR T NM => ?_)
  have G : sv_G x b xt RX6 cX6_seed 3 := G
  unfold wp_X6_seed at h
  refine sv_aload_n (pc := 0) G dX6_seed_0 0 rfl ?_
  refine sv_getR (pc := 1) G fw_X6_28 (hL.sh rfl) rfl (hL.rf 2 rfl) dX6_seed_1 ?_
  refine sv_getI (pc := 4) G fw_X6_159 (hL.sh rfl) rfl dX6_seed_4 ?_
  refine sv_topi (fun v2_1 ev2_1 => ?_)
  have h := h v2_1 ev2_1
  refine sv_istore_n (pc := 7) G dX6_seed_7 [(2, .int v2_1), (0, .ref (b + 0)), (1, .int v1)] (by decide) rfl ?_
  refine sv_aload_n (pc := 8) G dX6_seed_8 1 rfl ?_
  refine sv_getR (pc := 9) G fw_X6_28 (hL.sh rfl) rfl (hL.rf 2 rfl) dX6_seed_9 ?_
  refine sv_iload_n (pc := 12) G dX6_seed_12 2 rfl ?_
  refine sv_putI (pc := 13) G fw_X6_159 (hL.sh rfl) rfl dX6_seed_13 (fun g_2 eg_2 => ?_)
  have h := h g_2 eg_2
  refine sv_iload_n (pc := 16) G dX6_seed_16 0 rfl ?_
  exact sv_ireturn (pc := 17) G T ⟨(Nat.le_of_ble_eq_true rfl), (Nat.le_of_ble_eq_true rfl)⟩ dX6_seed_17 ⟨_, rfl, rfl, h⟩
def wp_X6_rounds (F : sv_Fr) (v1 : Int32) (g : sv_Mg) (Q : Int32 → sv_Mg → Prop) : Prop := wp_X6_isWithin F v1 1 100 g (fun r_2 g_1 => ((r_2 = 0 → Q (-1000000001) g_1) ∧ (¬ r_2 = 0 → wp_X0_go F 7 (if (9999 - (g_1 7 15)) < v1 then (9999 - (g_1 7 15)) else v1) g_1 (fun g_4 => Q (g_4 7 13) g_4))))
set_option maxRecDepth 100000 in
set_option maxHeartbeats 4000000 in
theorem c_X6_rounds {b : Nat} {xt : sv_Xt} {F : sv_Fr} {v1 : Int32} {g : sv_Mg} {Q : Int32 → sv_Mg → Prop} (hL : sv_Lay F) (h : wp_X6_rounds F v1 g Q) : sv_Cal yX6_rounds cX6_rounds 2 (some .int) 7 165 0 0 b xt [.ref (b + 0), .int v1] F g (sv_qI F Q) := by
  refine sv_intro mw_X6_rounds [(0, .ref (b + 0)), (1, .int v1)] rfl (Nat.le_of_ble_eq_true rfl) (fun x G RR T NM => ?_)
  have G : sv_G x b xt RX6 cX6_rounds 2 := G
  unfold wp_X6_rounds at h
  refine sv_iload_n (pc := 0) G dX6_rounds_0 1 rfl ?_
  refine sv_iconst (pc := 1) G dX6_rounds_1 1 ic_1 ?_
  refine sv_bipush (pc := 2) G dX6_rounds_2 100 bp_100 ?_
  refine sv_callS (cs := 0) (sl := 0) (st := []) (As := [.int v1, .int 1, .int 100]) (pc := 4) G RR (c_X6_isWithin hL  h) mw_X6_isWithin lk_X6_67 rfl ⟨(Nat.le_of_ble_eq_true rfl), (Nat.le_of_ble_eq_true rfl)⟩ ⟨(Nat.le_of_ble_eq_true rfl), (Nat.le_of_ble_eq_true rfl)⟩ (Nat.le_of_ble_eq_true rfl) rfl dX6_rounds_4 (sv_kI (fun r_2 g_1 h => ?_))
  refine sv_if_ne (pc := 7) G 13 (by decide) dX6_rounds_7 (fun c_3 => ?_) (fun c_3 => ?_)
  · have h := h.2 c_3
    refine sv_aload_n (pc := 13) G dX6_rounds_13 0 rfl ?_
    refine sv_getR (pc := 14) G fw_X6_28 (hL.sh rfl) rfl (hL.rf 2 rfl) dX6_rounds_14 ?_
    refine sv_iload_n (pc := 17) G dX6_rounds_17 1 rfl ?_
    refine sv_sipush (pc := 18) G dX6_rounds_18 9999 sp_9999 ?_
    refine sv_aload_n (pc := 21) G dX6_rounds_21 0 rfl ?_
    refine sv_getR (pc := 22) G fw_X6_28 (hL.sh rfl) rfl (hL.rf 2 rfl) dX6_rounds_22 ?_
    refine sv_getI (pc := 25) G fw_X6_162 (hL.sh rfl) rfl dX6_rounds_25 ?_
    refine sv_isub (pc := 28) G dX6_rounds_28 ?_
    refine sv_min (pc := 29) G RR lk_X6_151 wd_min1 wd_math wd_min2 (Nat.le_of_ble_eq_true rfl) (Nat.le_of_ble_eq_true rfl) (Nat.le_of_ble_eq_true rfl) ⟨(Nat.le_of_ble_eq_true rfl), (Nat.le_of_ble_eq_true rfl)⟩ dX6_rounds_29 ?_
    refine sv_callV (cs := 0) (sl := 0) (st := []) (As := [.int (if (9999 - (g_1 7 15)) < v1 then (9999 - (g_1 7 15)) else v1)]) (a := 7) (pc := 32) G RR (c_X0_go hL sv_C7 h) mw_X0_go lk_X6_165 (hL.sh rfl) (by decide) rfl rfl ⟨(Nat.le_of_ble_eq_true rfl), (Nat.le_of_ble_eq_true rfl)⟩ ⟨(Nat.le_of_ble_eq_true rfl), (Nat.le_of_ble_eq_true rfl)⟩ (Nat.le_of_ble_eq_true rfl) rfl dX6_rounds_32 (sv_kV (fun g_4 h => ?_))
    refine sv_aload_n (pc := 35) G dX6_rounds_35 0 rfl ?_
    refine sv_getR (pc := 36) G fw_X6_28 (hL.sh rfl) rfl (hL.rf 2 rfl) dX6_rounds_36 ?_
    refine sv_getI (pc := 39) G fw_X6_169 (hL.sh rfl) rfl dX6_rounds_39 ?_
    exact sv_ireturn (pc := 42) G T ⟨(Nat.le_of_ble_eq_true rfl), (Nat.le_of_ble_eq_true rfl)⟩ dX6_rounds_42 ⟨_, rfl, rfl, h⟩
  · have h := h.1 c_3
    refine sv_ldc (pc := 10) G dX6_rounds_10 cn_X6_71 ?_
    exact sv_ireturn (pc := 12) G T ⟨(Nat.le_of_ble_eq_true rfl), (Nat.le_of_ble_eq_true rfl)⟩ dX6_rounds_12 ⟨_, rfl, rfl, h⟩
def wp_X6_conclave (F : sv_Fr) (v1 : Int32) (g : sv_Mg) (Q : Int32 → sv_Mg → Prop) : Prop := ((v1 = 0 → Q (g 7 13) g) ∧ (¬ v1 = 0 → ((v1 = 1 → wp_X0_wanted F 7 g (fun r_4 g_3 => Q r_4 g_3)) ∧ (¬ v1 = 1 → ((v1 = 2 → Q (g 7 17) g) ∧ (¬ v1 = 2 → ((v1 = 3 → Q (g 7 12) g) ∧ (¬ v1 = 3 → ((v1 = 4 → wp_X0_runners F 7 g (fun r_9 g_8 => Q r_9 g_8)) ∧ (¬ v1 = 4 → ((v1 = 5 → wp_X0_mostVotes F 7 g (fun r_12 g_11 => ((r_12 ≤ 0 → Q (-1000000005) g_11) ∧ (¬ r_12 ≤ 0 → wp_X0_leader F 7 g_11 (fun r_15 g_14 => Q r_15 g_14))))) ∧ (¬ v1 = 5 → Q (-1000000001) g))))))))))))
set_option maxRecDepth 100000 in
set_option maxHeartbeats 4000000 in
theorem c_X6_conclave {b : Nat} {xt : sv_Xt} {F : sv_Fr} {v1 : Int32} {g : sv_Mg} {Q : Int32 → sv_Mg → Prop} (hL : sv_Lay F) (h : wp_X6_conclave F v1 g Q) : sv_Cal yX6_conclave cX6_conclave 2 (some .int) 3 65 0 0 b xt [.ref (b + 0), .int v1] F g (sv_qI F Q) := by
  refine sv_intro mw_X6_conclave [(0, .ref (b + 0)), (1, .int v1)] rfl (Nat.le_of_ble_eq_true rfl) (fun x G RR T NM => ?_)
  have G : sv_G x b xt RX6 cX6_conclave 2 := G
  unfold wp_X6_conclave at h
  refine sv_iload_n (pc := 0) G dX6_conclave_0 1 rfl ?_
  by_cases c_1 : v1 = 0
  · have h := h.1 c_1
    refine sv_tsw (pc := 1) G dX6_conclave_1 0 (by rw [c_1]; decide) 40 (by decide) (by decide) rfl (by decide) ?_
    refine sv_aload_n (pc := 40) G dX6_conclave_40 0 rfl ?_
    refine sv_getR (pc := 41) G fw_X6_28 (hL.sh rfl) rfl (hL.rf 2 rfl) dX6_conclave_41 ?_
    refine sv_getI (pc := 44) G fw_X6_169 (hL.sh rfl) rfl dX6_conclave_44 ?_
    exact sv_ireturn (pc := 47) G T ⟨(Nat.le_of_ble_eq_true rfl), (Nat.le_of_ble_eq_true rfl)⟩ dX6_conclave_47 ⟨_, rfl, rfl, h⟩
  · have h := h.2 c_1
    by_cases c_2 : v1 = 1
    · have h := h.1 c_2
      refine sv_tsw (pc := 1) G dX6_conclave_1 1 (by rw [c_2]; decide) 48 (by decide) (by decide) rfl (by decide) ?_
      refine sv_aload_n (pc := 48) G dX6_conclave_48 0 rfl ?_
      refine sv_getR (pc := 49) G fw_X6_28 (hL.sh rfl) rfl (hL.rf 2 rfl) dX6_conclave_49 ?_
      refine sv_callV (cs := 0) (sl := 0) (st := []) (As := []) (a := 7) (pc := 52) G RR (c_X0_wanted hL sv_C7 h) mw_X0_wanted lk_X6_172 (hL.sh rfl) (by decide) rfl rfl ⟨(Nat.le_of_ble_eq_true rfl), (Nat.le_of_ble_eq_true rfl)⟩ ⟨(Nat.le_of_ble_eq_true rfl), (Nat.le_of_ble_eq_true rfl)⟩ (Nat.le_of_ble_eq_true rfl) rfl dX6_conclave_52 (sv_kI (fun r_4 g_3 h => ?_))
      exact sv_ireturn (pc := 55) G T ⟨(Nat.le_of_ble_eq_true rfl), (Nat.le_of_ble_eq_true rfl)⟩ dX6_conclave_55 ⟨_, rfl, rfl, h⟩
    · have h := h.2 c_2
      by_cases c_5 : v1 = 2
      · have h := h.1 c_5
        refine sv_tsw (pc := 1) G dX6_conclave_1 2 (by rw [c_5]; decide) 56 (by decide) (by decide) rfl (by decide) ?_
        refine sv_aload_n (pc := 56) G dX6_conclave_56 0 rfl ?_
        refine sv_getR (pc := 57) G fw_X6_28 (hL.sh rfl) rfl (hL.rf 2 rfl) dX6_conclave_57 ?_
        refine sv_getI (pc := 60) G fw_X6_175 (hL.sh rfl) rfl dX6_conclave_60 ?_
        exact sv_ireturn (pc := 63) G T ⟨(Nat.le_of_ble_eq_true rfl), (Nat.le_of_ble_eq_true rfl)⟩ dX6_conclave_63 ⟨_, rfl, rfl, h⟩
      · have h := h.2 c_5
        by_cases c_6 : v1 = 3
        · have h := h.1 c_6
          refine sv_tsw (pc := 1) G dX6_conclave_1 3 (by rw [c_6]; decide) 64 (by decide) (by decide) rfl (by decide) ?_
          refine sv_aload_n (pc := 64) G dX6_conclave_64 0 rfl ?_
          refine sv_getR (pc := 65) G fw_X6_28 (hL.sh rfl) rfl (hL.rf 2 rfl) dX6_conclave_65 ?_
          refine sv_getI (pc := 68) G fw_X6_178 (hL.sh rfl) rfl dX6_conclave_68 ?_
          exact sv_ireturn (pc := 71) G T ⟨(Nat.le_of_ble_eq_true rfl), (Nat.le_of_ble_eq_true rfl)⟩ dX6_conclave_71 ⟨_, rfl, rfl, h⟩
        · have h := h.2 c_6
          by_cases c_7 : v1 = 4
          · have h := h.1 c_7
            refine sv_tsw (pc := 1) G dX6_conclave_1 4 (by rw [c_7]; decide) 72 (by decide) (by decide) rfl (by decide) ?_
            refine sv_aload_n (pc := 72) G dX6_conclave_72 0 rfl ?_
            refine sv_getR (pc := 73) G fw_X6_28 (hL.sh rfl) rfl (hL.rf 2 rfl) dX6_conclave_73 ?_
            refine sv_callV (cs := 0) (sl := 0) (st := []) (As := []) (a := 7) (pc := 76) G RR (c_X0_runners hL sv_C7 h) mw_X0_runners lk_X6_105 (hL.sh rfl) (by decide) rfl rfl ⟨(Nat.le_of_ble_eq_true rfl), (Nat.le_of_ble_eq_true rfl)⟩ ⟨(Nat.le_of_ble_eq_true rfl), (Nat.le_of_ble_eq_true rfl)⟩ (Nat.le_of_ble_eq_true rfl) rfl dX6_conclave_76 (sv_kI (fun r_9 g_8 h => ?_))
            exact sv_ireturn (pc := 79) G T ⟨(Nat.le_of_ble_eq_true rfl), (Nat.le_of_ble_eq_true rfl)⟩ dX6_conclave_79 ⟨_, rfl, rfl, h⟩
          · have h := h.2 c_7
            by_cases c_10 : v1 = 5
            · have h := h.1 c_10
              refine sv_tsw (pc := 1) G dX6_conclave_1 5 (by rw [c_10]; decide) 80 (by decide) (by decide) rfl (by decide) ?_
              refine sv_aload_n (pc := 80) G dX6_conclave_80 0 rfl ?_
              refine sv_getR (pc := 81) G fw_X6_28 (hL.sh rfl) rfl (hL.rf 2 rfl) dX6_conclave_81 ?_
              refine sv_callV (cs := 0) (sl := 0) (st := []) (As := []) (a := 7) (pc := 84) G RR (c_X0_mostVotes hL sv_C7 h) mw_X0_mostVotes lk_X6_181 (hL.sh rfl) (by decide) rfl rfl ⟨(Nat.le_of_ble_eq_true rfl), (Nat.le_of_ble_eq_true rfl)⟩ ⟨(Nat.le_of_ble_eq_true rfl), (Nat.le_of_ble_eq_true rfl)⟩ (Nat.le_of_ble_eq_true rfl) rfl dX6_conclave_84 (sv_kI (fun r_12 g_11 h => ?_))
              refine sv_if_le (pc := 87) G 100 (by decide) dX6_conclave_87 (fun c_13 => ?_) (fun c_13 => ?_)
              · have h := h.1 c_13
                refine sv_ldc (pc := 100) G dX6_conclave_100 cn_X6_184 ?_
                exact sv_ireturn (pc := 102) G T ⟨(Nat.le_of_ble_eq_true rfl), (Nat.le_of_ble_eq_true rfl)⟩ dX6_conclave_102 ⟨_, rfl, rfl, h⟩
              · have h := h.2 c_13
                refine sv_aload_n (pc := 90) G dX6_conclave_90 0 rfl ?_
                refine sv_getR (pc := 91) G fw_X6_28 (hL.sh rfl) rfl (hL.rf 2 rfl) dX6_conclave_91 ?_
                refine sv_callV (cs := 0) (sl := 0) (st := []) (As := []) (a := 7) (pc := 94) G RR (c_X0_leader hL sv_C7 h) mw_X0_leader lk_X6_109 (hL.sh rfl) (by decide) rfl rfl ⟨(Nat.le_of_ble_eq_true rfl), (Nat.le_of_ble_eq_true rfl)⟩ ⟨(Nat.le_of_ble_eq_true rfl), (Nat.le_of_ble_eq_true rfl)⟩ (Nat.le_of_ble_eq_true rfl) rfl dX6_conclave_94 (sv_kI (fun r_15 g_14 h => ?_))
                refine sv_goto (pc := 97) G dX6_conclave_97 102 (by decide) ?_
                exact sv_ireturn (pc := 102) G T ⟨(Nat.le_of_ble_eq_true rfl), (Nat.le_of_ble_eq_true rfl)⟩ dX6_conclave_102 ⟨_, rfl, rfl, h⟩
            · have h := h.2 c_10
              refine sv_tswD (pc := 1) G dX6_conclave_1 (by have qc_1 := lv_neT (a := 0) c_1 (by decide); have qc_2 := lv_neT (a := 1) c_2 (by decide); have qc_5 := lv_neT (a := 2) c_5 (by decide); have qc_6 := lv_neT (a := 3) c_6 (by decide); have qc_7 := lv_neT (a := 4) c_7 (by decide); have qc_10 := lv_neT (a := 5) c_10 (by decide); omega) 103 (by decide) ?_
              refine sv_ldc (pc := 103) G dX6_conclave_103 cn_X6_71 ?_
              exact sv_ireturn (pc := 105) G T ⟨(Nat.le_of_ble_eq_true rfl), (Nat.le_of_ble_eq_true rfl)⟩ dX6_conclave_105 ⟨_, rfl, rfl, h⟩
def wp_X6_butOne_44 (F : sv_Fr) (Q : Int32 → sv_Mg → Prop) (K14 : Int32 → Int32 → Int32 → sv_Mg → Prop) (v1 : Int32) (v2 : Int32) (v3 : Int32) (g : sv_Mg) : Prop := ∀ v3_1 : Int32, v3_1 = v3 + 1 → K14 v1 v2 v3_1 g
def wp_X6_butOne_14 (F : sv_Fr) (Q : Int32 → sv_Mg → Prop) : Nat → Int32 → Int32 → Int32 → sv_Mg → Prop
  | 0, _, _, _, _ => False
  | n + 1, v1, v2, v3, g => (((g 7 8) ≤ v3 → Q v2 g) ∧ (¬ (g 7 8) ≤ v3 → vp_in v3 10 ∧ (((g 14 v3.toNatClampNeg) = v1 → ∀ v2_5 : Int32, v2_5 = (v2 ||| (1 <<< (v3 &&& 31))) → wp_X6_butOne_44 F  Q (wp_X6_butOne_14 F Q  n) v1 v2_5 v3 g) ∧ (¬ (g 14 v3.toNatClampNeg) = v1 → wp_X6_butOne_44 F  Q (wp_X6_butOne_14 F Q  n) v1 v2 v3 g))))
def wp_X6_butOne (F : sv_Fr) (g : sv_Mg) (Q : Int32 → sv_Mg → Prop) : Prop := wp_X0_wanted F 7 g (fun r_7 g_6 => ∀ v1_8 : Int32, v1_8 = (r_7 - 1) → ∃ n_9, wp_X6_butOne_14 F  Q  n_9 v1_8 0 0 g_6)
set_option maxRecDepth 100000 in
set_option maxHeartbeats 4000000 in
theorem aw_X6_butOne_44 {x : sv_X} {b : Nat} {xt : sv_Xt} {F : sv_Fr} {Q : Int32 → sv_Mg → Prop} (G : sv_G x b xt RX6 cX6_butOne 4) (RR : sv_R x 2 42 0 0) (T : sv_RT x (some .int)) (hL : sv_Lay F) {K14 : Int32 → Int32 → Int32 → sv_Mg → Prop} (hK14 : ∀ (v1 : Int32) (v2 : Int32) (v3 : Int32) (g : sv_Mg), K14 v1 v2 v3 g → sv_AW x (sv_Q x (sv_qI F Q) 0 0) F g 0 0 14 [(0, .ref (b + 0)), (1, .int v1), (2, .int v2), (3, .int v3)] []) : ∀ (v1 : Int32) (v2 : Int32) (v3 : Int32) (g : sv_Mg), wp_X6_butOne_44 F Q K14 v1 v2 v3 g → sv_AW x (sv_Q x (sv_qI F Q) 0 0) F g 0 0 44 [(0, .ref (b + 0)), (1, .int v1), (2, .int v2), (3, .int v3)] [] := by
  intro v1 v2 v3 g h
  unfold wp_X6_butOne_44 at h
  obtain ⟨v3_1, ev3_1⟩ : ∃ y : Int32, y = v3 + 1 := ⟨_, rfl⟩
  have h := h v3_1 ev3_1
  refine sv_iinc (pc := 44) G dX6_butOne_44 3 v3_1 [(3, .int v3_1), (0, .ref (b + 0)), (1, .int v1), (2, .int v2)] (by rw [ev3_1, ic_1]) rfl (by decide) rfl ?_
  refine sv_goto (pc := 47) G dX6_butOne_47 14 (by decide) ?_
  refine sv_locs [1, 2, 3, 0] [(0, .ref (b + 0)), (1, .int v1), (2, .int v2), (3, .int v3_1)] rfl ?_
  exact hK14 v1 v2 v3_1 g  h
set_option maxRecDepth 100000 in
set_option maxHeartbeats 4000000 in
theorem aw_X6_butOne_14 {x : sv_X} {b : Nat} {xt : sv_Xt} {F : sv_Fr} {Q : Int32 → sv_Mg → Prop} (G : sv_G x b xt RX6 cX6_butOne 4) (RR : sv_R x 2 42 0 0) (T : sv_RT x (some .int)) (hL : sv_Lay F) : ∀ (n : Nat) (v1 : Int32) (v2 : Int32) (v3 : Int32) (g : sv_Mg), wp_X6_butOne_14 F Q  n v1 v2 v3 g → sv_AW x (sv_Q x (sv_qI F Q) 0 0) F g 0 0 14 [(0, .ref (b + 0)), (1, .int v1), (2, .int v2), (3, .int v3)] [] := by
  intro n
  induction n with
  | zero => intro v1 v2 v3 g h; exact h.elim
  | succ n ih =>
    intro v1 v2 v3 g h
    rw [wp_X6_butOne_14] at h
    refine sv_iload_n (pc := 14) G dX6_butOne_14 3 rfl ?_
    refine sv_aload_n (pc := 15) G dX6_butOne_15 0 rfl ?_
    refine sv_getR (pc := 16) G fw_X6_28 (hL.sh rfl) rfl (hL.rf 2 rfl) dX6_butOne_16 ?_
    refine sv_getI (pc := 19) G fw_X6_72 (hL.sh rfl) rfl dX6_butOne_19 ?_
    refine sv_ic_ge (pc := 22) G 50 (by decide) dX6_butOne_22 (fun c_2 => ?_) (fun c_2 => ?_)
    · have h := h.1 c_2
      refine sv_iload_n (pc := 50) G dX6_butOne_50 2 rfl ?_
      exact sv_ireturn (pc := 51) G T ⟨(Nat.le_of_ble_eq_true rfl), (Nat.le_of_ble_eq_true rfl)⟩ dX6_butOne_51 ⟨_, rfl, rfl, h⟩
    · have h := h.2 c_2
      refine sv_aload_n (pc := 25) G dX6_butOne_25 0 rfl ?_
      refine sv_getR (pc := 26) G fw_X6_28 (hL.sh rfl) rfl (hL.rf 2 rfl) dX6_butOne_26 ?_
      refine sv_getR (pc := 29) G fw_X6_102 (hL.sh rfl) rfl (hL.rf 20 rfl) dX6_butOne_29 ?_
      refine sv_iload_n (pc := 32) G dX6_butOne_32 3 rfl ?_
      obtain ⟨s_3, h⟩ := h
      refine sv_ialdK (pc := 33) G (hL.sh rfl) s_3 v3.toNatClampNeg rfl dX6_butOne_33 ?_
      refine sv_iload_n (pc := 34) G dX6_butOne_34 1 rfl ?_
      refine sv_ic_ne (pc := 35) G 44 (by decide) dX6_butOne_35 (fun c_4 => ?_) (fun c_4 => ?_)
      · have h := h.2 c_4
        refine sv_locs [0, 1, 2, 3] [(0, .ref (b + 0)), (1, .int v1), (2, .int v2), (3, .int v3)] rfl ?_
        exact aw_X6_butOne_44 G RR T hL  ih v1 v2 v3 g  h
      · have h := h.1 c_4
        refine sv_iload_n (pc := 38) G dX6_butOne_38 2 rfl ?_
        refine sv_iconst (pc := 39) G dX6_butOne_39 1 ic_1 ?_
        refine sv_iload_n (pc := 40) G dX6_butOne_40 3 rfl ?_
        refine sv_ishl (pc := 41) G dX6_butOne_41 ?_
        refine sv_ior (pc := 42) G dX6_butOne_42 ?_
        refine sv_topi (fun v2_5 ev2_5 => ?_)
        have h := h v2_5 ev2_5
        refine sv_istore_n (pc := 43) G dX6_butOne_43 [(2, .int v2_5), (0, .ref (b + 0)), (1, .int v1), (3, .int v3)] (by decide) rfl ?_
        refine sv_locs [1, 2, 0, 3] [(0, .ref (b + 0)), (1, .int v1), (2, .int v2_5), (3, .int v3)] rfl ?_
        exact aw_X6_butOne_44 G RR T hL  ih v1 v2_5 v3 g  h
set_option maxRecDepth 100000 in
set_option maxHeartbeats 4000000 in
theorem c_X6_butOne {b : Nat} {xt : sv_Xt} {F : sv_Fr} {g : sv_Mg} {Q : Int32 → sv_Mg → Prop} (hL : sv_Lay F) (h : wp_X6_butOne F g Q) : sv_Cal yX6_butOne cX6_butOne 4 (some .int) 2 42 0 0 b xt [.ref (b + 0)] F g (sv_qI F Q) := by
  refine sv_intro mw_X6_butOne [(0, .ref (b + 0))] rfl (Nat.le_of_ble_eq_true rfl) (fun x G RR T NM => ?_)
  have G : sv_G x b xt RX6 cX6_butOne 4 := G
  unfold wp_X6_butOne at h
  refine sv_aload_n (pc := 0) G dX6_butOne_0 0 rfl ?_
  refine sv_getR (pc := 1) G fw_X6_28 (hL.sh rfl) rfl (hL.rf 2 rfl) dX6_butOne_1 ?_
  refine sv_callV (cs := 0) (sl := 0) (st := []) (As := []) (a := 7) (pc := 4) G RR (c_X0_wanted hL sv_C7 h) mw_X0_wanted lk_X6_172 (hL.sh rfl) (by decide) rfl rfl ⟨(Nat.le_of_ble_eq_true rfl), (Nat.le_of_ble_eq_true rfl)⟩ ⟨(Nat.le_of_ble_eq_true rfl), (Nat.le_of_ble_eq_true rfl)⟩ (Nat.le_of_ble_eq_true rfl) rfl dX6_butOne_4 (sv_kI (fun r_7 g_6 h => ?_))
  refine sv_iconst (pc := 7) G dX6_butOne_7 1 ic_1 ?_
  refine sv_isub (pc := 8) G dX6_butOne_8 ?_
  refine sv_topi (fun v1_8 ev1_8 => ?_)
  have h := h v1_8 ev1_8
  refine sv_istore_n (pc := 9) G dX6_butOne_9 [(1, .int v1_8), (0, .ref (b + 0))] (by decide) rfl ?_
  refine sv_iconst (pc := 10) G dX6_butOne_10 0 ic_0 ?_
  refine sv_istore_n (pc := 11) G dX6_butOne_11 [(2, .int 0), (1, .int v1_8), (0, .ref (b + 0))] (by decide) rfl ?_
  refine sv_iconst (pc := 12) G dX6_butOne_12 0 ic_0 ?_
  refine sv_istore_n (pc := 13) G dX6_butOne_13 [(3, .int 0), (2, .int 0), (1, .int v1_8), (0, .ref (b + 0))] (by decide) rfl ?_
  refine sv_locs [3, 2, 1, 0] [(0, .ref (b + 0)), (1, .int v1_8), (2, .int 0), (3, .int 0)] rfl ?_
  obtain ⟨n_9, h⟩ := h
  exact aw_X6_butOne_14 G RR T hL   n_9 v1_8 0 0 g_6  h
def wp_X6_decides_93 (F : sv_Fr) (Q : Int32 → sv_Mg → Prop) (K12 : Int32 → Int32 → Int32 → sv_Mg → Prop) (v1 : Int32) (v2 : Int32) (v3 : Int32) (g : sv_Mg) : Prop := ∀ v3_1 : Int32, v3_1 = v3 + 1 → K12 v1 v2 v3_1 g
def wp_X6_decides_12 (F : sv_Fr) (Q : Int32 → sv_Mg → Prop) : Nat → Int32 → Int32 → Int32 → sv_Mg → Prop
  | 0, _, _, _, _ => False
  | n + 1, v1, v2, v3, g => (((g 7 8) ≤ v3 → Q v2 g) ∧ (¬ (g 7 8) ≤ v3 → vp_in v3 10 ∧ ∀ v4_4 : Int32, v4_4 = (g 13 v3.toNatClampNeg) → wp_X0_isVoter F 7 v4_4 g (fun r_6 g_5 => ((r_6 = 0 → wp_X6_decides_93 F  Q (wp_X6_decides_12 F Q  n) v1 v2 v3 g_5) ∧ (¬ r_6 = 0 → vp_in v4_4 10 ∧ (((g_5 14 v4_4.toNatClampNeg) < v1 → wp_X6_decides_93 F  Q (wp_X6_decides_12 F Q  n) v1 v2 v3 g_5) ∧ (¬ (g_5 14 v4_4.toNatClampNeg) < v1 → vp_in v4_4 10 ∧ vp_in v3 10 ∧ wp_X6_weight F (g_5 8 v3.toNatClampNeg) g_5 (fun r_13 g_12 => ((v1 ≤ ((g_5 14 v4_4.toNatClampNeg) - r_13) → wp_X6_decides_93 F  Q (wp_X6_decides_12 F Q  n) v1 v2 v3 g_12) ∧ (¬ v1 ≤ ((g_5 14 v4_4.toNatClampNeg) - r_13) → ∀ v2_15 : Int32, v2_15 = (v2 ||| (1 <<< (v3 &&& 31))) → wp_X6_decides_93 F  Q (wp_X6_decides_12 F Q  n) v1 v2_15 v3 g_12))))))))))
def wp_X6_decides (F : sv_Fr) (g : sv_Mg) (Q : Int32 → sv_Mg → Prop) : Prop := wp_X0_wanted F 7 g (fun r_17 g_16 => ∃ n_18, wp_X6_decides_12 F  Q  n_18 r_17 0 0 g_16)
set_option maxRecDepth 100000 in
set_option maxHeartbeats 4000000 in
theorem aw_X6_decides_93 {x : sv_X} {b : Nat} {xt : sv_Xt} {F : sv_Fr} {Q : Int32 → sv_Mg → Prop} (G : sv_G x b xt RX6 cX6_decides 5) (RR : sv_R x 2 42 0 0) (T : sv_RT x (some .int)) (hL : sv_Lay F) {K12 : Int32 → Int32 → Int32 → sv_Mg → Prop} (hK12 : ∀ (v1 : Int32) (v2 : Int32) (v3 : Int32) (g : sv_Mg), K12 v1 v2 v3 g → sv_AW x (sv_Q x (sv_qI F Q) 0 0) F g 0 0 12 [(0, .ref (b + 0)), (1, .int v1), (2, .int v2), (3, .int v3)] []) : ∀ (v1 : Int32) (v2 : Int32) (v3 : Int32) (g : sv_Mg), wp_X6_decides_93 F Q K12 v1 v2 v3 g → sv_AW x (sv_Q x (sv_qI F Q) 0 0) F g 0 0 93 [(0, .ref (b + 0)), (1, .int v1), (2, .int v2), (3, .int v3)] [] := by
  intro v1 v2 v3 g h
  unfold wp_X6_decides_93 at h
  obtain ⟨v3_1, ev3_1⟩ : ∃ y : Int32, y = v3 + 1 := ⟨_, rfl⟩
  have h := h v3_1 ev3_1
  refine sv_iinc (pc := 93) G dX6_decides_93 3 v3_1 [(3, .int v3_1), (0, .ref (b + 0)), (1, .int v1), (2, .int v2)] (by rw [ev3_1, ic_1]) rfl (by decide) rfl ?_
  refine sv_goto (pc := 96) G dX6_decides_96 12 (by decide) ?_
  refine sv_locs [1, 2, 3, 0] [(0, .ref (b + 0)), (1, .int v1), (2, .int v2), (3, .int v3_1)] rfl ?_
  exact hK12 v1 v2 v3_1 g  h
set_option maxRecDepth 100000 in
set_option maxHeartbeats 4000000 in
theorem aw_X6_decides_12 {x : sv_X} {b : Nat} {xt : sv_Xt} {F : sv_Fr} {Q : Int32 → sv_Mg → Prop} (G : sv_G x b xt RX6 cX6_decides 5) (RR : sv_R x 2 42 0 0) (T : sv_RT x (some .int)) (hL : sv_Lay F) : ∀ (n : Nat) (v1 : Int32) (v2 : Int32) (v3 : Int32) (g : sv_Mg), wp_X6_decides_12 F Q  n v1 v2 v3 g → sv_AW x (sv_Q x (sv_qI F Q) 0 0) F g 0 0 12 [(0, .ref (b + 0)), (1, .int v1), (2, .int v2), (3, .int v3)] [] := by
  intro n
  induction n with
  | zero => intro v1 v2 v3 g h; exact h.elim
  | succ n ih =>
    intro v1 v2 v3 g h
    rw [wp_X6_decides_12] at h
    refine sv_iload_n (pc := 12) G dX6_decides_12 3 rfl ?_
    refine sv_aload_n (pc := 13) G dX6_decides_13 0 rfl ?_
    refine sv_getR (pc := 14) G fw_X6_28 (hL.sh rfl) rfl (hL.rf 2 rfl) dX6_decides_14 ?_
    refine sv_getI (pc := 17) G fw_X6_72 (hL.sh rfl) rfl dX6_decides_17 ?_
    refine sv_ic_ge (pc := 20) G 99 (by decide) dX6_decides_20 (fun c_2 => ?_) (fun c_2 => ?_)
    · have h := h.1 c_2
      refine sv_iload_n (pc := 99) G dX6_decides_99 2 rfl ?_
      exact sv_ireturn (pc := 100) G T ⟨(Nat.le_of_ble_eq_true rfl), (Nat.le_of_ble_eq_true rfl)⟩ dX6_decides_100 ⟨_, rfl, rfl, h⟩
    · have h := h.2 c_2
      refine sv_aload_n (pc := 23) G dX6_decides_23 0 rfl ?_
      refine sv_getR (pc := 24) G fw_X6_28 (hL.sh rfl) rfl (hL.rf 2 rfl) dX6_decides_24 ?_
      refine sv_getR (pc := 27) G fw_X6_99 (hL.sh rfl) rfl (hL.rf 19 rfl) dX6_decides_27 ?_
      refine sv_iload_n (pc := 30) G dX6_decides_30 3 rfl ?_
      obtain ⟨s_3, h⟩ := h
      refine sv_ialdK (pc := 31) G (hL.sh rfl) s_3 v3.toNatClampNeg rfl dX6_decides_31 ?_
      refine sv_topi (fun v4_4 ev4_4 => ?_)
      have h := h v4_4 ev4_4
      refine sv_istore (pc := 32) G dX6_decides_32 [(4, .int v4_4), (0, .ref (b + 0)), (1, .int v1), (2, .int v2), (3, .int v3)] (by decide) rfl ?_
      refine sv_aload_n (pc := 34) G dX6_decides_34 1 rfl ?_
      refine sv_getR (pc := 35) G fw_X6_28 (hL.sh rfl) rfl (hL.rf 2 rfl) dX6_decides_35 ?_
      refine sv_iload (pc := 38) G dX6_decides_38 0 rfl ?_
      refine sv_callV (cs := 0) (sl := 0) (st := []) (As := [.int v4_4]) (a := 7) (pc := 40) G RR (c_X0_isVoter hL sv_C7 h) mw_X0_isVoter lk_X6_80 (hL.sh rfl) (by decide) rfl rfl ⟨(Nat.le_of_ble_eq_true rfl), (Nat.le_of_ble_eq_true rfl)⟩ ⟨(Nat.le_of_ble_eq_true rfl), (Nat.le_of_ble_eq_true rfl)⟩ (Nat.le_of_ble_eq_true rfl) rfl dX6_decides_40 (sv_kI (fun r_6 g_5 h => ?_))
      refine sv_if_eq (pc := 43) G 93 (by decide) dX6_decides_43 (fun c_7 => ?_) (fun c_7 => ?_)
      · have h := h.1 c_7
        refine sv_locs [1, 2, 3, 4] [(0, .ref (b + 0)), (1, .int v1), (2, .int v2), (3, .int v3)] rfl ?_
        exact aw_X6_decides_93 G RR T hL  ih v1 v2 v3 g_5  h
      · have h := h.2 c_7
        refine sv_aload_n (pc := 46) G dX6_decides_46 1 rfl ?_
        refine sv_getR (pc := 47) G fw_X6_28 (hL.sh rfl) rfl (hL.rf 2 rfl) dX6_decides_47 ?_
        refine sv_getR (pc := 50) G fw_X6_102 (hL.sh rfl) rfl (hL.rf 20 rfl) dX6_decides_50 ?_
        refine sv_iload (pc := 53) G dX6_decides_53 0 rfl ?_
        obtain ⟨s_8, h⟩ := h
        refine sv_ialdK (pc := 55) G (hL.sh rfl) s_8 v4_4.toNatClampNeg rfl dX6_decides_55 ?_
        refine sv_iload_n (pc := 56) G dX6_decides_56 2 rfl ?_
        refine sv_ic_lt (pc := 57) G 93 (by decide) dX6_decides_57 (fun c_9 => ?_) (fun c_9 => ?_)
        · have h := h.1 c_9
          refine sv_locs [1, 2, 3, 4] [(0, .ref (b + 0)), (1, .int v1), (2, .int v2), (3, .int v3)] rfl ?_
          exact aw_X6_decides_93 G RR T hL  ih v1 v2 v3 g_5  h
        · have h := h.2 c_9
          refine sv_aload_n (pc := 60) G dX6_decides_60 1 rfl ?_
          refine sv_getR (pc := 61) G fw_X6_28 (hL.sh rfl) rfl (hL.rf 2 rfl) dX6_decides_61 ?_
          refine sv_getR (pc := 64) G fw_X6_102 (hL.sh rfl) rfl (hL.rf 20 rfl) dX6_decides_64 ?_
          refine sv_iload (pc := 67) G dX6_decides_67 0 rfl ?_
          obtain ⟨s_10, h⟩ := h
          refine sv_ialdK (pc := 69) G (hL.sh rfl) s_10 v4_4.toNatClampNeg rfl dX6_decides_69 ?_
          refine sv_aload_n (pc := 70) G dX6_decides_70 1 rfl ?_
          refine sv_getR (pc := 71) G fw_X6_28 (hL.sh rfl) rfl (hL.rf 2 rfl) dX6_decides_71 ?_
          refine sv_getR (pc := 74) G fw_X6_84 (hL.sh rfl) rfl (hL.rf 14 rfl) dX6_decides_74 ?_
          refine sv_iload_n (pc := 77) G dX6_decides_77 4 rfl ?_
          obtain ⟨s_11, h⟩ := h
          refine sv_ialdK (pc := 78) G (hL.sh rfl) s_11 v3.toNatClampNeg rfl dX6_decides_78 ?_
          refine sv_callS (cs := 0) (sl := 0) (st := [.int (g_5 14 v4_4.toNatClampNeg)]) (As := [.int (g_5 8 v3.toNatClampNeg)]) (pc := 79) G RR (c_X6_weight hL  h) mw_X6_weight lk_X6_116 rfl ⟨(Nat.le_of_ble_eq_true rfl), (Nat.le_of_ble_eq_true rfl)⟩ ⟨(Nat.le_of_ble_eq_true rfl), (Nat.le_of_ble_eq_true rfl)⟩ (Nat.le_of_ble_eq_true rfl) rfl dX6_decides_79 (sv_kI (fun r_13 g_12 h => ?_))
          refine sv_isub (pc := 82) G dX6_decides_82 ?_
          refine sv_iload_n (pc := 83) G dX6_decides_83 2 rfl ?_
          refine sv_ic_ge (pc := 84) G 93 (by decide) dX6_decides_84 (fun c_14 => ?_) (fun c_14 => ?_)
          · have h := h.1 c_14
            refine sv_locs [1, 2, 3, 4] [(0, .ref (b + 0)), (1, .int v1), (2, .int v2), (3, .int v3)] rfl ?_
            exact aw_X6_decides_93 G RR T hL  ih v1 v2 v3 g_12  h
          · have h := h.2 c_14
            refine sv_iload_n (pc := 87) G dX6_decides_87 3 rfl ?_
            refine sv_iconst (pc := 88) G dX6_decides_88 1 ic_1 ?_
            refine sv_iload_n (pc := 89) G dX6_decides_89 4 rfl ?_
            refine sv_ishl (pc := 90) G dX6_decides_90 ?_
            refine sv_ior (pc := 91) G dX6_decides_91 ?_
            refine sv_topi (fun v2_15 ev2_15 => ?_)
            have h := h v2_15 ev2_15
            refine sv_istore_n (pc := 92) G dX6_decides_92 [(2, .int v2_15), (4, .int v4_4), (0, .ref (b + 0)), (1, .int v1), (3, .int v3)] (by decide) rfl ?_
            refine sv_locs [2, 3, 0, 4] [(0, .ref (b + 0)), (1, .int v1), (2, .int v2_15), (3, .int v3)] rfl ?_
            exact aw_X6_decides_93 G RR T hL  ih v1 v2_15 v3 g_12  h
set_option maxRecDepth 100000 in
set_option maxHeartbeats 4000000 in
theorem c_X6_decides {b : Nat} {xt : sv_Xt} {F : sv_Fr} {g : sv_Mg} {Q : Int32 → sv_Mg → Prop} (hL : sv_Lay F) (h : wp_X6_decides F g Q) : sv_Cal yX6_decides cX6_decides 5 (some .int) 2 42 0 0 b xt [.ref (b + 0)] F g (sv_qI F Q) := by
  refine sv_intro mw_X6_decides [(0, .ref (b + 0))] rfl (Nat.le_of_ble_eq_true rfl) (fun x G RR T NM => ?_)
  have G : sv_G x b xt RX6 cX6_decides 5 := G
  unfold wp_X6_decides at h
  refine sv_aload_n (pc := 0) G dX6_decides_0 0 rfl ?_
  refine sv_getR (pc := 1) G fw_X6_28 (hL.sh rfl) rfl (hL.rf 2 rfl) dX6_decides_1 ?_
  refine sv_callV (cs := 0) (sl := 0) (st := []) (As := []) (a := 7) (pc := 4) G RR (c_X0_wanted hL sv_C7 h) mw_X0_wanted lk_X6_172 (hL.sh rfl) (by decide) rfl rfl ⟨(Nat.le_of_ble_eq_true rfl), (Nat.le_of_ble_eq_true rfl)⟩ ⟨(Nat.le_of_ble_eq_true rfl), (Nat.le_of_ble_eq_true rfl)⟩ (Nat.le_of_ble_eq_true rfl) rfl dX6_decides_4 (sv_kI (fun r_17 g_16 h => ?_))
  refine sv_istore_n (pc := 7) G dX6_decides_7 [(1, .int r_17), (0, .ref (b + 0))] (by decide) rfl ?_
  refine sv_iconst (pc := 8) G dX6_decides_8 0 ic_0 ?_
  refine sv_istore_n (pc := 9) G dX6_decides_9 [(2, .int 0), (1, .int r_17), (0, .ref (b + 0))] (by decide) rfl ?_
  refine sv_iconst (pc := 10) G dX6_decides_10 0 ic_0 ?_
  refine sv_istore_n (pc := 11) G dX6_decides_11 [(3, .int 0), (2, .int 0), (1, .int r_17), (0, .ref (b + 0))] (by decide) rfl ?_
  refine sv_locs [3, 2, 1, 0] [(0, .ref (b + 0)), (1, .int r_17), (2, .int 0), (3, .int 0)] rfl ?_
  obtain ⟨n_18, h⟩ := h
  exact aw_X6_decides_12 G RR T hL   n_18 r_17 0 0 g_16  h
def wp_X6_waysWithOneMore_5 (F : sv_Fr) (Q : Int32 → sv_Mg → Prop) : Nat → Int32 → Int32 → Int32 → Int32 → sv_Mg → Prop
  | 0, _, _, _, _, _ => False
  | n + 1, v1, v2, v3, v4, g => ((v1 < v4 → Q v3 g) ∧ (¬ v1 < v4 → (((v2 * 2) ≤ (v4 * 3) → Q v3 g) ∧ (¬ (v2 * 2) ≤ (v4 * 3) → vp_in (v1 - v4) 13 ∧ ∀ v3_4 : Int32, v3_4 = (v3 + (g 57 (v1 - v4).toNatClampNeg)) → ∀ v4_5 : Int32, v4_5 = v4 + 1 → (wp_X6_waysWithOneMore_5 F Q  n) v1 v2 v3_4 v4_5 g))))
def wp_X6_waysWithOneMore (F : sv_Fr) (v1 : Int32) (v2 : Int32) (g : sv_Mg) (Q : Int32 → sv_Mg → Prop) : Prop := ∃ n_6, wp_X6_waysWithOneMore_5 F  Q  n_6 v1 v2 0 0 g
set_option maxRecDepth 100000 in
set_option maxHeartbeats 4000000 in
theorem aw_X6_waysWithOneMore_5 {x : sv_X} {b : Nat} {xt : sv_Xt} {F : sv_Fr} {Q : Int32 → sv_Mg → Prop} (G : sv_G x b xt RX6 cX6_waysWithOneMore 5) (RR : sv_R x 0 0 0 0) (T : sv_RT x (some .int)) (hL : sv_Lay F) : ∀ (n : Nat) (v1 : Int32) (v2 : Int32) (v3 : Int32) (v4 : Int32) (g : sv_Mg), wp_X6_waysWithOneMore_5 F Q  n v1 v2 v3 v4 g → sv_AW x (sv_Q x (sv_qI F Q) 0 0) F g 0 0 5 [(0, .ref (b + 0)), (1, .int v1), (2, .int v2), (3, .int v3), (4, .int v4)] [] := by
  intro n
  induction n with
  | zero => intro v1 v2 v3 v4 g h; exact h.elim
  | succ n ih =>
    intro v1 v2 v3 v4 g h
    rw [wp_X6_waysWithOneMore_5] at h
    refine sv_iload (pc := 5) G dX6_waysWithOneMore_5 4 rfl ?_
    refine sv_iload_n (pc := 7) G dX6_waysWithOneMore_7 1 rfl ?_
    refine sv_ic_gt (pc := 8) G 39 (by decide) dX6_waysWithOneMore_8 (fun c_1 => ?_) (fun c_1 => ?_)
    · have h := h.1 c_1
      refine sv_iload_n (pc := 39) G dX6_waysWithOneMore_39 3 rfl ?_
      exact sv_ireturn (pc := 40) G T ⟨(Nat.le_of_ble_eq_true rfl), (Nat.le_of_ble_eq_true rfl)⟩ dX6_waysWithOneMore_40 ⟨_, rfl, rfl, h⟩
    · have h := h.2 c_1
      refine sv_iload (pc := 11) G dX6_waysWithOneMore_11 4 rfl ?_
      refine sv_iconst (pc := 13) G dX6_waysWithOneMore_13 3 ic_3 ?_
      refine sv_imul (pc := 14) G dX6_waysWithOneMore_14 ?_
      refine sv_iload_n (pc := 15) G dX6_waysWithOneMore_15 2 rfl ?_
      refine sv_iconst (pc := 16) G dX6_waysWithOneMore_16 2 ic_2 ?_
      refine sv_imul (pc := 17) G dX6_waysWithOneMore_17 ?_
      refine sv_ic_ge (pc := 18) G 39 (by decide) dX6_waysWithOneMore_18 (fun c_2 => ?_) (fun c_2 => ?_)
      · have h := h.1 c_2
        refine sv_iload_n (pc := 39) G dX6_waysWithOneMore_39 3 rfl ?_
        exact sv_ireturn (pc := 40) G T ⟨(Nat.le_of_ble_eq_true rfl), (Nat.le_of_ble_eq_true rfl)⟩ dX6_waysWithOneMore_40 ⟨_, rfl, rfl, h⟩
      · have h := h.2 c_2
        refine sv_iload_n (pc := 21) G dX6_waysWithOneMore_21 3 rfl ?_
        refine sv_aload_n (pc := 22) G dX6_waysWithOneMore_22 0 rfl ?_
        refine sv_getR (pc := 23) G fw_X6_56 (hL.sh rfl) rfl (hL.rf 8 rfl) dX6_waysWithOneMore_23 ?_
        refine sv_iload_n (pc := 26) G dX6_waysWithOneMore_26 1 rfl ?_
        refine sv_iload (pc := 27) G dX6_waysWithOneMore_27 4 rfl ?_
        refine sv_isub (pc := 29) G dX6_waysWithOneMore_29 ?_
        obtain ⟨s_3, h⟩ := h
        refine sv_ialdK (pc := 30) G (hL.sh rfl) s_3 (v1 - v4).toNatClampNeg rfl dX6_waysWithOneMore_30 ?_
        refine sv_iadd (pc := 31) G dX6_waysWithOneMore_31 ?_
        refine sv_topi (fun v3_4 ev3_4 => ?_)
        have h := h v3_4 ev3_4
        refine sv_istore_n (pc := 32) G dX6_waysWithOneMore_32 [(3, .int v3_4), (0, .ref (b + 0)), (1, .int v1), (2, .int v2), (4, .int v4)] (by decide) rfl ?_
        obtain ⟨v4_5, ev4_5⟩ : ∃ y : Int32, y = v4 + 1 := ⟨_, rfl⟩
        have h := h v4_5 ev4_5
        refine sv_iinc (pc := 33) G dX6_waysWithOneMore_33 4 v4_5 [(4, .int v4_5), (3, .int v3_4), (0, .ref (b + 0)), (1, .int v1), (2, .int v2)] (by rw [ev4_5, ic_1]) rfl (by decide) rfl ?_
        refine sv_goto (pc := 36) G dX6_waysWithOneMore_36 5 (by decide) ?_
        refine sv_locs [2, 3, 4, 1, 0] [(0, .ref (b + 0)), (1, .int v1), (2, .int v2), (3, .int v3_4), (4, .int v4_5)] rfl ?_
        exact ih v1 v2 v3_4 v4_5 g  h
set_option maxRecDepth 100000 in
set_option maxHeartbeats 4000000 in
theorem c_X6_waysWithOneMore {b : Nat} {xt : sv_Xt} {F : sv_Fr} {v1 : Int32} {v2 : Int32} {g : sv_Mg} {Q : Int32 → sv_Mg → Prop} (hL : sv_Lay F) (h : wp_X6_waysWithOneMore F v1 v2 g Q) : sv_Cal yX6_waysWithOneMore cX6_waysWithOneMore 5 (some .int) 0 0 0 0 b xt [.ref (b + 0), .int v1, .int v2] F g (sv_qI F Q) := by
  refine sv_intro mw_X6_waysWithOneMore [(0, .ref (b + 0)), (1, .int v1), (2, .int v2)] rfl (Nat.le_of_ble_eq_true rfl) (fun x G RR T NM => ?_)
  have G : sv_G x b xt RX6 cX6_waysWithOneMore 5 := G
  unfold wp_X6_waysWithOneMore at h
  refine sv_iconst (pc := 0) G dX6_waysWithOneMore_0 0 ic_0 ?_
  refine sv_istore_n (pc := 1) G dX6_waysWithOneMore_1 [(3, .int 0), (0, .ref (b + 0)), (1, .int v1), (2, .int v2)] (by decide) rfl ?_
  refine sv_iconst (pc := 2) G dX6_waysWithOneMore_2 0 ic_0 ?_
  refine sv_istore (pc := 3) G dX6_waysWithOneMore_3 [(4, .int 0), (3, .int 0), (0, .ref (b + 0)), (1, .int v1), (2, .int v2)] (by decide) rfl ?_
  refine sv_locs [2, 3, 4, 1, 0] [(0, .ref (b + 0)), (1, .int v1), (2, .int v2), (3, .int 0), (4, .int 0)] rfl ?_
  obtain ⟨n_6, h⟩ := h
  exact aw_X6_waysWithOneMore_5 G RR T hL   n_6 v1 v2 0 0 g  h
def wp_X6_splits_48 (F : sv_Fr) (Q : Int32 → sv_Mg → Prop) (K40 : Int32 → Int32 → Int32 → sv_Mg → Prop) : Nat → Int32 → Int32 → Int32 → Int32 → sv_Mg → Prop
  | 0, _, _, _, _, _ => False
  | n + 1, v1, v2, v3, v4, g => ((v4 < 0 → ∀ v3_2 : Int32, v3_2 = v3 + 1 → K40 v1 v2 v3_2 g) ∧ (¬ v4 < 0 → wp_X6_waysWithOneMore F v4 v1 g (fun r_4 g_3 => vp_in v4 13 ∧ ∀ g_6, g_6 = sv_st g_3 57 v4.toNatClampNeg r_4 → ∀ v4_7 : Int32, v4_7 = v4 + (-1) → (wp_X6_splits_48 F Q K40 n) v1 v2 v3 v4_7 g_6)))
def wp_X6_splits_40 (F : sv_Fr) (Q : Int32 → sv_Mg → Prop) : Nat → Int32 → Int32 → Int32 → sv_Mg → Prop
  | 0, _, _, _, _ => False
  | n + 1, v1, v2, v3, g => ((v2 ≤ v3 → vp_in v1 13 ∧ Q (g 57 v1.toNatClampNeg) g) ∧ (¬ v2 ≤ v3 → ∃ n_10, wp_X6_splits_48 F  Q (wp_X6_splits_40 F Q  n) n_10 v1 v2 v3 v1 g))
def wp_X6_splits (F : sv_Fr) (v1 : Int32) (v2 : Int32) (g : sv_Mg) (Q : Int32 → sv_Mg → Prop) : Prop := wp_X6_isWithin F v1 0 12 g (fun r_12 g_11 => ((r_12 = 0 → Q (-1000000001) g_11) ∧ (¬ r_12 = 0 → wp_X6_isWithin F v2 1 6 g_11 (fun r_15 g_14 => ((r_15 = 0 → Q (-1000000001) g_14) ∧ (¬ r_15 = 0 → wp_J7_fill_53178 F 57 13 0 g_14 (fun g_17 => ∀ g_18, g_18 = sv_st g_17 57 0 1 → ∃ n_19, wp_X6_splits_40 F  Q  n_19 v1 v2 0 g_18)))))))
set_option maxRecDepth 100000 in
set_option maxHeartbeats 4000000 in
theorem aw_X6_splits_48 {x : sv_X} {b : Nat} {xt : sv_Xt} {F : sv_Fr} {Q : Int32 → sv_Mg → Prop} (G : sv_G x b xt RX6 cX6_splits 5) (RR : sv_R x 1 24 0 0) (T : sv_RT x (some .int)) (hL : sv_Lay F) {K40 : Int32 → Int32 → Int32 → sv_Mg → Prop} (hK40 : ∀ (v1 : Int32) (v2 : Int32) (v3 : Int32) (g : sv_Mg), K40 v1 v2 v3 g → sv_AW x (sv_Q x (sv_qI F Q) 0 0) F g 0 0 40 [(0, .ref (b + 0)), (1, .int v1), (2, .int v2), (3, .int v3)] []) : ∀ (n : Nat) (v1 : Int32) (v2 : Int32) (v3 : Int32) (v4 : Int32) (g : sv_Mg), wp_X6_splits_48 F Q K40 n v1 v2 v3 v4 g → sv_AW x (sv_Q x (sv_qI F Q) 0 0) F g 0 0 48 [(0, .ref (b + 0)), (1, .int v1), (2, .int v2), (3, .int v3), (4, .int v4)] [] := by
  intro n
  induction n with
  | zero => intro v1 v2 v3 v4 g h; exact h.elim
  | succ n ih =>
    intro v1 v2 v3 v4 g h
    rw [wp_X6_splits_48] at h
    refine sv_iload (pc := 48) G dX6_splits_48 4 rfl ?_
    refine sv_if_lt (pc := 50) G 73 (by decide) dX6_splits_50 (fun c_1 => ?_) (fun c_1 => ?_)
    · have h := h.1 c_1
      obtain ⟨v3_2, ev3_2⟩ : ∃ y : Int32, y = v3 + 1 := ⟨_, rfl⟩
      have h := h v3_2 ev3_2
      refine sv_iinc (pc := 73) G dX6_splits_73 3 v3_2 [(3, .int v3_2), (0, .ref (b + 0)), (1, .int v1), (2, .int v2), (4, .int v4)] (by rw [ev3_2, ic_1]) rfl (by decide) rfl ?_
      refine sv_goto (pc := 76) G dX6_splits_76 40 (by decide) ?_
      refine sv_locs [1, 2, 3, 0] [(0, .ref (b + 0)), (1, .int v1), (2, .int v2), (3, .int v3_2)] rfl ?_
      exact hK40 v1 v2 v3_2 g  h
    · have h := h.2 c_1
      refine sv_aload_n (pc := 53) G dX6_splits_53 0 rfl ?_
      refine sv_getR (pc := 54) G fw_X6_56 (hL.sh rfl) rfl (hL.rf 8 rfl) dX6_splits_54 ?_
      refine sv_iload (pc := 57) G dX6_splits_57 4 rfl ?_
      refine sv_aload_n (pc := 59) G dX6_splits_59 0 rfl ?_
      refine sv_iload (pc := 60) G dX6_splits_60 4 rfl ?_
      refine sv_iload_n (pc := 62) G dX6_splits_62 1 rfl ?_
      refine sv_callV (cs := 0) (sl := 0) (st := [.int v4, .ref (b + 57)]) (As := [.int v4, .int v1]) (a := 0) (pc := 63) G RR (c_X6_waysWithOneMore hL  h) mw_X6_waysWithOneMore lk_X6_191 (hL.sh rfl) (by decide) rfl rfl ⟨(Nat.le_of_ble_eq_true rfl), (Nat.le_of_ble_eq_true rfl)⟩ ⟨(Nat.le_of_ble_eq_true rfl), (Nat.le_of_ble_eq_true rfl)⟩ (Nat.le_of_ble_eq_true rfl) rfl dX6_splits_63 (sv_kI (fun r_4 g_3 h => ?_))
      obtain ⟨s_5, h⟩ := h
      refine sv_iastK (pc := 66) G (hL.sh rfl) s_5 v4.toNatClampNeg rfl dX6_splits_66 (fun g_6 eg_6 => ?_)
      have h := h g_6 eg_6
      obtain ⟨v4_7, ev4_7⟩ : ∃ y : Int32, y = v4 + (-1) := ⟨_, rfl⟩
      have h := h v4_7 ev4_7
      refine sv_iinc (pc := 67) G dX6_splits_67 4 v4_7 [(4, .int v4_7), (0, .ref (b + 0)), (1, .int v1), (2, .int v2), (3, .int v3)] (by rw [ev4_7, ic_m1]) rfl (by decide) rfl ?_
      refine sv_goto (pc := 70) G dX6_splits_70 48 (by decide) ?_
      refine sv_locs [1, 2, 3, 4, 0] [(0, .ref (b + 0)), (1, .int v1), (2, .int v2), (3, .int v3), (4, .int v4_7)] rfl ?_
      exact ih v1 v2 v3 v4_7 g_6  h
set_option maxRecDepth 100000 in
set_option maxHeartbeats 4000000 in
theorem aw_X6_splits_40 {x : sv_X} {b : Nat} {xt : sv_Xt} {F : sv_Fr} {Q : Int32 → sv_Mg → Prop} (G : sv_G x b xt RX6 cX6_splits 5) (RR : sv_R x 1 24 0 0) (T : sv_RT x (some .int)) (hL : sv_Lay F) : ∀ (n : Nat) (v1 : Int32) (v2 : Int32) (v3 : Int32) (g : sv_Mg), wp_X6_splits_40 F Q  n v1 v2 v3 g → sv_AW x (sv_Q x (sv_qI F Q) 0 0) F g 0 0 40 [(0, .ref (b + 0)), (1, .int v1), (2, .int v2), (3, .int v3)] [] := by
  intro n
  induction n with
  | zero => intro v1 v2 v3 g h; exact h.elim
  | succ n ih =>
    intro v1 v2 v3 g h
    rw [wp_X6_splits_40] at h
    refine sv_iload_n (pc := 40) G dX6_splits_40 3 rfl ?_
    refine sv_iload_n (pc := 41) G dX6_splits_41 2 rfl ?_
    refine sv_ic_ge (pc := 42) G 79 (by decide) dX6_splits_42 (fun c_8 => ?_) (fun c_8 => ?_)
    · have h := h.1 c_8
      refine sv_aload_n (pc := 79) G dX6_splits_79 0 rfl ?_
      refine sv_getR (pc := 80) G fw_X6_56 (hL.sh rfl) rfl (hL.rf 8 rfl) dX6_splits_80 ?_
      refine sv_iload_n (pc := 83) G dX6_splits_83 1 rfl ?_
      obtain ⟨s_9, h⟩ := h
      refine sv_ialdK (pc := 84) G (hL.sh rfl) s_9 v1.toNatClampNeg rfl dX6_splits_84 ?_
      exact sv_ireturn (pc := 85) G T ⟨(Nat.le_of_ble_eq_true rfl), (Nat.le_of_ble_eq_true rfl)⟩ dX6_splits_85 ⟨_, rfl, rfl, h⟩
    · have h := h.2 c_8
      refine sv_iload_n (pc := 45) G dX6_splits_45 1 rfl ?_
      refine sv_istore (pc := 46) G dX6_splits_46 [(4, .int v1), (0, .ref (b + 0)), (1, .int v1), (2, .int v2), (3, .int v3)] (by decide) rfl ?_
      refine sv_locs [1, 2, 3, 4, 0] [(0, .ref (b + 0)), (1, .int v1), (2, .int v2), (3, .int v3), (4, .int v1)] rfl ?_
      obtain ⟨n_10, h⟩ := h
      exact aw_X6_splits_48 G RR T hL  ih n_10 v1 v2 v3 v1 g  h
set_option maxRecDepth 100000 in
set_option maxHeartbeats 4000000 in
theorem c_X6_splits {b : Nat} {xt : sv_Xt} {F : sv_Fr} {v1 : Int32} {v2 : Int32} {g : sv_Mg} {Q : Int32 → sv_Mg → Prop} (hL : sv_Lay F) (h : wp_X6_splits F v1 v2 g Q) : sv_Cal yX6_splits cX6_splits 5 (some .int) 1 24 0 0 b xt [.ref (b + 0), .int v1, .int v2] F g (sv_qI F Q) := by
  refine sv_intro mw_X6_splits [(0, .ref (b + 0)), (1, .int v1), (2, .int v2)] rfl (Nat.le_of_ble_eq_true rfl) (fun x G RR T NM => ?_)
  have G : sv_G x b xt RX6 cX6_splits 5 := G
  unfold wp_X6_splits at h
  refine sv_iload_n (pc := 0) G dX6_splits_0 1 rfl ?_
  refine sv_iconst (pc := 1) G dX6_splits_1 0 ic_0 ?_
  refine sv_bipush (pc := 2) G dX6_splits_2 12 bp_12 ?_
  refine sv_callS (cs := 0) (sl := 0) (st := []) (As := [.int v1, .int 0, .int 12]) (pc := 4) G RR (c_X6_isWithin hL  h) mw_X6_isWithin lk_X6_67 rfl ⟨(Nat.le_of_ble_eq_true rfl), (Nat.le_of_ble_eq_true rfl)⟩ ⟨(Nat.le_of_ble_eq_true rfl), (Nat.le_of_ble_eq_true rfl)⟩ (Nat.le_of_ble_eq_true rfl) rfl dX6_splits_4 (sv_kI (fun r_12 g_11 h => ?_))
  refine sv_if_eq (pc := 7) G 20 (by decide) dX6_splits_7 (fun c_13 => ?_) (fun c_13 => ?_)
  · have h := h.1 c_13
    refine sv_ldc (pc := 20) G dX6_splits_20 cn_X6_71 ?_
    exact sv_ireturn (pc := 22) G T ⟨(Nat.le_of_ble_eq_true rfl), (Nat.le_of_ble_eq_true rfl)⟩ dX6_splits_22 ⟨_, rfl, rfl, h⟩
  · have h := h.2 c_13
    refine sv_iload_n (pc := 10) G dX6_splits_10 2 rfl ?_
    refine sv_iconst (pc := 11) G dX6_splits_11 1 ic_1 ?_
    refine sv_bipush (pc := 12) G dX6_splits_12 6 bp_6 ?_
    refine sv_callS (cs := 0) (sl := 0) (st := []) (As := [.int v2, .int 1, .int 6]) (pc := 14) G RR (c_X6_isWithin hL  h) mw_X6_isWithin lk_X6_67 rfl ⟨(Nat.le_of_ble_eq_true rfl), (Nat.le_of_ble_eq_true rfl)⟩ ⟨(Nat.le_of_ble_eq_true rfl), (Nat.le_of_ble_eq_true rfl)⟩ (Nat.le_of_ble_eq_true rfl) rfl dX6_splits_14 (sv_kI (fun r_15 g_14 h => ?_))
    refine sv_if_ne (pc := 17) G 23 (by decide) dX6_splits_17 (fun c_16 => ?_) (fun c_16 => ?_)
    · have h := h.2 c_16
      refine sv_aload_n (pc := 23) G dX6_splits_23 0 rfl ?_
      refine sv_getR (pc := 24) G fw_X6_56 (hL.sh rfl) rfl (hL.rf 8 rfl) dX6_splits_24 ?_
      refine sv_iconst (pc := 27) G dX6_splits_27 0 ic_0 ?_
      refine sv_callS (cs := 0) (sl := 0) (st := []) (As := [.ref (b + 57), .int 0]) (pc := 28) G RR (c_J7_fill_53178 hL (hL.sh rfl) h) mw_J7_fill_53178 lk_X6_185 rfl ⟨(Nat.le_of_ble_eq_true rfl), (Nat.le_of_ble_eq_true rfl)⟩ ⟨(Nat.le_of_ble_eq_true rfl), (Nat.le_of_ble_eq_true rfl)⟩ (Nat.le_of_ble_eq_true rfl) rfl dX6_splits_28 (sv_kV (fun g_17 h => ?_))
      refine sv_aload_n (pc := 31) G dX6_splits_31 0 rfl ?_
      refine sv_getR (pc := 32) G fw_X6_56 (hL.sh rfl) rfl (hL.rf 8 rfl) dX6_splits_32 ?_
      refine sv_iconst (pc := 35) G dX6_splits_35 0 ic_0 ?_
      refine sv_iconst (pc := 36) G dX6_splits_36 1 ic_1 ?_
      refine sv_iastK (pc := 37) G (hL.sh rfl) vi_0_13 0 tn_0 dX6_splits_37 (fun g_18 eg_18 => ?_)
      have h := h g_18 eg_18
      refine sv_iconst (pc := 38) G dX6_splits_38 0 ic_0 ?_
      refine sv_istore_n (pc := 39) G dX6_splits_39 [(3, .int 0), (0, .ref (b + 0)), (1, .int v1), (2, .int v2)] (by decide) rfl ?_
      refine sv_locs [1, 2, 3, 0] [(0, .ref (b + 0)), (1, .int v1), (2, .int v2), (3, .int 0)] rfl ?_
      obtain ⟨n_19, h⟩ := h
      exact aw_X6_splits_40 G RR T hL   n_19 v1 v2 0 g_18  h
    · have h := h.1 c_16
      refine sv_ldc (pc := 20) G dX6_splits_20 cn_X6_71 ?_
      exact sv_ireturn (pc := 22) G T ⟨(Nat.le_of_ble_eq_true rfl), (Nat.le_of_ble_eq_true rfl)⟩ dX6_splits_22 ⟨_, rfl, rfl, h⟩
def wp_X6_behind_32 (F : sv_Fr) (Q : Int32 → sv_Mg → Prop) (v1 : Int32) (v2 : Int32) (s0 : Int32) (g : sv_Mg) : Prop := wp_X6_isWithin F v1 0 100 g (fun r_2 g_1 => ((r_2 = 0 → Q (-1000000001) g_1) ∧ (¬ r_2 = 0 → ((s0 = 0 → Q (-1000000001) g_1) ∧ (¬ s0 = 0 → wp_X0_become F 23 7 g_1 (fun g_5 => wp_X0_go F 23 v1 g_5 (fun g_6 => ((v2 = 0 → Q (g_6 23 13) g_6) ∧ (¬ v2 = 0 → ((v2 = 1 → wp_X0_mostVotes F 23 g_6 (fun r_10 g_9 => Q r_10 g_9)) ∧ (¬ v2 = 1 → ((v2 = 2 → Q (g_6 23 17) g_6) ∧ (¬ v2 = 2 → vp_in (v2 - 3) 10 ∧ Q (g_6 29 (v2 - 3).toNatClampNeg) g_6)))))))))))))
def wp_X6_behind_27 (F : sv_Fr) (Q : Int32 → sv_Mg → Prop) (v1 : Int32) (v2 : Int32) (g : sv_Mg) : Prop := wp_X6_behind_32 F  Q  v1 v2 1 g
def wp_X6_behind_31 (F : sv_Fr) (Q : Int32 → sv_Mg → Prop) (v1 : Int32) (v2 : Int32) (g : sv_Mg) : Prop := wp_X6_behind_32 F  Q  v1 v2 0 g
def wp_X6_behind (F : sv_Fr) (v1 : Int32) (v2 : Int32) (g : sv_Mg) (Q : Int32 → sv_Mg → Prop) : Prop := wp_X6_isWithin F v2 0 2 g (fun r_14 g_13 => ((r_14 = 0 → ((v2 < 3 → wp_X6_behind_31 F  Q  v1 v2 g_13) ∧ (¬ v2 < 3 → wp_X0_isVoter F 7 (v2 - 3) g_13 (fun r_18 g_17 => ((r_18 = 0 → wp_X6_behind_31 F  Q  v1 v2 g_17) ∧ (¬ r_18 = 0 → wp_X6_behind_27 F  Q  v1 v2 g_17)))))) ∧ (¬ r_14 = 0 → wp_X6_behind_27 F  Q  v1 v2 g_13)))
set_option maxRecDepth 100000 in
set_option maxHeartbeats 4000000 in
theorem aw_X6_behind_32 {x : sv_X} {b : Nat} {xt : sv_Xt} {F : sv_Fr} {Q : Int32 → sv_Mg → Prop} (G : sv_G x b xt RX6 cX6_behind 4) (RR : sv_R x 7 165 0 0) (T : sv_RT x (some .int)) (hL : sv_Lay F) : ∀ (v1 : Int32) (v2 : Int32) (s0 : Int32) (g : sv_Mg), wp_X6_behind_32 F Q  v1 v2 s0 g → sv_AW x (sv_Q x (sv_qI F Q) 0 0) F g 0 0 32 [(0, .ref (b + 0)), (1, .int v1), (2, .int v2)] [.int s0] := by
  intro v1 v2 s0 g h
  unfold wp_X6_behind_32 at h
  refine sv_istore_n (pc := 32) G dX6_behind_32 [(3, .int s0), (0, .ref (b + 0)), (1, .int v1), (2, .int v2)] (by decide) rfl ?_
  refine sv_iload_n (pc := 33) G dX6_behind_33 2 rfl ?_
  refine sv_iconst (pc := 34) G dX6_behind_34 0 ic_0 ?_
  refine sv_bipush (pc := 35) G dX6_behind_35 100 bp_100 ?_
  refine sv_callS (cs := 0) (sl := 0) (st := []) (As := [.int v1, .int 0, .int 100]) (pc := 37) G RR (c_X6_isWithin hL  h) mw_X6_isWithin lk_X6_67 rfl ⟨(Nat.le_of_ble_eq_true rfl), (Nat.le_of_ble_eq_true rfl)⟩ ⟨(Nat.le_of_ble_eq_true rfl), (Nat.le_of_ble_eq_true rfl)⟩ (Nat.le_of_ble_eq_true rfl) rfl dX6_behind_37 (sv_kI (fun r_2 g_1 h => ?_))
  refine sv_if_eq (pc := 40) G 47 (by decide) dX6_behind_40 (fun c_3 => ?_) (fun c_3 => ?_)
  · have h := h.1 c_3
    refine sv_ldc (pc := 47) G dX6_behind_47 cn_X6_71 ?_
    exact sv_ireturn (pc := 49) G T ⟨(Nat.le_of_ble_eq_true rfl), (Nat.le_of_ble_eq_true rfl)⟩ dX6_behind_49 ⟨_, rfl, rfl, h⟩
  · have h := h.2 c_3
    refine sv_iload_n (pc := 43) G dX6_behind_43 0 rfl ?_
    refine sv_if_ne (pc := 44) G 50 (by decide) dX6_behind_44 (fun c_4 => ?_) (fun c_4 => ?_)
    · have h := h.2 c_4
      refine sv_aload_n (pc := 50) G dX6_behind_50 1 rfl ?_
      refine sv_getR (pc := 51) G fw_X6_35 (hL.sh rfl) rfl (hL.rf 4 rfl) dX6_behind_51 ?_
      refine sv_aload_n (pc := 54) G dX6_behind_54 1 rfl ?_
      refine sv_getR (pc := 55) G fw_X6_28 (hL.sh rfl) rfl (hL.rf 2 rfl) dX6_behind_55 ?_
      refine sv_callV (cs := 0) (sl := 0) (st := []) (As := [.ref (b + 7)]) (a := 23) (pc := 58) G RR (c_X0_become hL sv_C23 sv_C7 h) mw_X0_become lk_X6_194 (hL.sh rfl) (by decide) rfl rfl ⟨(Nat.le_of_ble_eq_true rfl), (Nat.le_of_ble_eq_true rfl)⟩ ⟨(Nat.le_of_ble_eq_true rfl), (Nat.le_of_ble_eq_true rfl)⟩ (Nat.le_of_ble_eq_true rfl) rfl dX6_behind_58 (sv_kV (fun g_5 h => ?_))
      refine sv_aload_n (pc := 61) G dX6_behind_61 1 rfl ?_
      refine sv_getR (pc := 62) G fw_X6_35 (hL.sh rfl) rfl (hL.rf 4 rfl) dX6_behind_62 ?_
      refine sv_iload_n (pc := 65) G dX6_behind_65 2 rfl ?_
      refine sv_callV (cs := 0) (sl := 0) (st := []) (As := [.int v1]) (a := 23) (pc := 66) G RR (c_X0_go hL sv_C23 h) mw_X0_go lk_X6_165 (hL.sh rfl) (by decide) rfl rfl ⟨(Nat.le_of_ble_eq_true rfl), (Nat.le_of_ble_eq_true rfl)⟩ ⟨(Nat.le_of_ble_eq_true rfl), (Nat.le_of_ble_eq_true rfl)⟩ (Nat.le_of_ble_eq_true rfl) rfl dX6_behind_66 (sv_kV (fun g_6 h => ?_))
      refine sv_iload_n (pc := 69) G dX6_behind_69 3 rfl ?_
      by_cases c_7 : v2 = 0
      · have h := h.1 c_7
        refine sv_tsw (pc := 70) G dX6_behind_70 0 (by rw [c_7]; decide) 96 (by decide) (by decide) rfl (by decide) ?_
        refine sv_aload_n (pc := 96) G dX6_behind_96 1 rfl ?_
        refine sv_getR (pc := 97) G fw_X6_35 (hL.sh rfl) rfl (hL.rf 4 rfl) dX6_behind_97 ?_
        refine sv_getI (pc := 100) G fw_X6_169 (hL.sh rfl) rfl dX6_behind_100 ?_
        exact sv_ireturn (pc := 103) G T ⟨(Nat.le_of_ble_eq_true rfl), (Nat.le_of_ble_eq_true rfl)⟩ dX6_behind_103 ⟨_, rfl, rfl, h⟩
      · have h := h.2 c_7
        by_cases c_8 : v2 = 1
        · have h := h.1 c_8
          refine sv_tsw (pc := 70) G dX6_behind_70 1 (by rw [c_8]; decide) 104 (by decide) (by decide) rfl (by decide) ?_
          refine sv_aload_n (pc := 104) G dX6_behind_104 1 rfl ?_
          refine sv_getR (pc := 105) G fw_X6_35 (hL.sh rfl) rfl (hL.rf 4 rfl) dX6_behind_105 ?_
          refine sv_callV (cs := 0) (sl := 0) (st := []) (As := []) (a := 23) (pc := 108) G RR (c_X0_mostVotes hL sv_C23 h) mw_X0_mostVotes lk_X6_181 (hL.sh rfl) (by decide) rfl rfl ⟨(Nat.le_of_ble_eq_true rfl), (Nat.le_of_ble_eq_true rfl)⟩ ⟨(Nat.le_of_ble_eq_true rfl), (Nat.le_of_ble_eq_true rfl)⟩ (Nat.le_of_ble_eq_true rfl) rfl dX6_behind_108 (sv_kI (fun r_10 g_9 h => ?_))
          exact sv_ireturn (pc := 111) G T ⟨(Nat.le_of_ble_eq_true rfl), (Nat.le_of_ble_eq_true rfl)⟩ dX6_behind_111 ⟨_, rfl, rfl, h⟩
        · have h := h.2 c_8
          by_cases c_11 : v2 = 2
          · have h := h.1 c_11
            refine sv_tsw (pc := 70) G dX6_behind_70 2 (by rw [c_11]; decide) 112 (by decide) (by decide) rfl (by decide) ?_
            refine sv_aload_n (pc := 112) G dX6_behind_112 1 rfl ?_
            refine sv_getR (pc := 113) G fw_X6_35 (hL.sh rfl) rfl (hL.rf 4 rfl) dX6_behind_113 ?_
            refine sv_getI (pc := 116) G fw_X6_175 (hL.sh rfl) rfl dX6_behind_116 ?_
            exact sv_ireturn (pc := 119) G T ⟨(Nat.le_of_ble_eq_true rfl), (Nat.le_of_ble_eq_true rfl)⟩ dX6_behind_119 ⟨_, rfl, rfl, h⟩
          · have h := h.2 c_11
            refine sv_tswD (pc := 70) G dX6_behind_70 (by have qc_7 := lv_neT (a := 0) c_7 (by decide); have qc_8 := lv_neT (a := 1) c_8 (by decide); have qc_11 := lv_neT (a := 2) c_11 (by decide); omega) 120 (by decide) ?_
            refine sv_aload_n (pc := 120) G dX6_behind_120 1 rfl ?_
            refine sv_getR (pc := 121) G fw_X6_35 (hL.sh rfl) rfl (hL.rf 4 rfl) dX6_behind_121 ?_
            refine sv_getR (pc := 124) G fw_X6_99 (hL.sh rfl) rfl (hL.rf 35 rfl) dX6_behind_124 ?_
            refine sv_iload_n (pc := 127) G dX6_behind_127 3 rfl ?_
            refine sv_iconst (pc := 128) G dX6_behind_128 3 ic_3 ?_
            refine sv_isub (pc := 129) G dX6_behind_129 ?_
            obtain ⟨s_12, h⟩ := h
            refine sv_ialdK (pc := 130) G (hL.sh rfl) s_12 (v2 - 3).toNatClampNeg rfl dX6_behind_130 ?_
            exact sv_ireturn (pc := 131) G T ⟨(Nat.le_of_ble_eq_true rfl), (Nat.le_of_ble_eq_true rfl)⟩ dX6_behind_131 ⟨_, rfl, rfl, h⟩
    · have h := h.1 c_4
      refine sv_ldc (pc := 47) G dX6_behind_47 cn_X6_71 ?_
      exact sv_ireturn (pc := 49) G T ⟨(Nat.le_of_ble_eq_true rfl), (Nat.le_of_ble_eq_true rfl)⟩ dX6_behind_49 ⟨_, rfl, rfl, h⟩
set_option maxRecDepth 100000 in
set_option maxHeartbeats 4000000 in
theorem aw_X6_behind_27 {x : sv_X} {b : Nat} {xt : sv_Xt} {F : sv_Fr} {Q : Int32 → sv_Mg → Prop} (G : sv_G x b xt RX6 cX6_behind 4) (RR : sv_R x 7 165 0 0) (T : sv_RT x (some .int)) (hL : sv_Lay F) : ∀ (v1 : Int32) (v2 : Int32) (g : sv_Mg), wp_X6_behind_27 F Q  v1 v2 g → sv_AW x (sv_Q x (sv_qI F Q) 0 0) F g 0 0 27 [(0, .ref (b + 0)), (1, .int v1), (2, .int v2)] [] := by
  intro v1 v2 g h
  unfold wp_X6_behind_27 at h
  refine sv_iconst (pc := 27) G dX6_behind_27 1 ic_1 ?_
  refine sv_goto (pc := 28) G dX6_behind_28 32 (by decide) ?_
  refine sv_locs [0, 1, 2] [(0, .ref (b + 0)), (1, .int v1), (2, .int v2)] rfl ?_
  exact aw_X6_behind_32 G RR T hL   v1 v2 1 g  h
set_option maxRecDepth 100000 in
set_option maxHeartbeats 4000000 in
theorem aw_X6_behind_31 {x : sv_X} {b : Nat} {xt : sv_Xt} {F : sv_Fr} {Q : Int32 → sv_Mg → Prop} (G : sv_G x b xt RX6 cX6_behind 4) (RR : sv_R x 7 165 0 0) (T : sv_RT x (some .int)) (hL : sv_Lay F) : ∀ (v1 : Int32) (v2 : Int32) (g : sv_Mg), wp_X6_behind_31 F Q  v1 v2 g → sv_AW x (sv_Q x (sv_qI F Q) 0 0) F g 0 0 31 [(0, .ref (b + 0)), (1, .int v1), (2, .int v2)] [] := by
  intro v1 v2 g h
  unfold wp_X6_behind_31 at h
  refine sv_iconst (pc := 31) G dX6_behind_31 0 ic_0 ?_
  refine sv_locs [0, 1, 2] [(0, .ref (b + 0)), (1, .int v1), (2, .int v2)] rfl ?_
  exact aw_X6_behind_32 G RR T hL   v1 v2 0 g  h
set_option maxRecDepth 100000 in
set_option maxHeartbeats 4000000 in
theorem c_X6_behind {b : Nat} {xt : sv_Xt} {F : sv_Fr} {v1 : Int32} {v2 : Int32} {g : sv_Mg} {Q : Int32 → sv_Mg → Prop} (hL : sv_Lay F) (h : wp_X6_behind F v1 v2 g Q) : sv_Cal yX6_behind cX6_behind 4 (some .int) 7 165 0 0 b xt [.ref (b + 0), .int v1, .int v2] F g (sv_qI F Q) := by
  refine sv_intro mw_X6_behind [(0, .ref (b + 0)), (1, .int v1), (2, .int v2)] rfl (Nat.le_of_ble_eq_true rfl) (fun x G RR T NM => ?_)
  have G : sv_G x b xt RX6 cX6_behind 4 := G
  unfold wp_X6_behind at h
  refine sv_iload_n (pc := 0) G dX6_behind_0 2 rfl ?_
  refine sv_iconst (pc := 1) G dX6_behind_1 0 ic_0 ?_
  refine sv_iconst (pc := 2) G dX6_behind_2 2 ic_2 ?_
  refine sv_callS (cs := 0) (sl := 0) (st := []) (As := [.int v2, .int 0, .int 2]) (pc := 3) G RR (c_X6_isWithin hL  h) mw_X6_isWithin lk_X6_67 rfl ⟨(Nat.le_of_ble_eq_true rfl), (Nat.le_of_ble_eq_true rfl)⟩ ⟨(Nat.le_of_ble_eq_true rfl), (Nat.le_of_ble_eq_true rfl)⟩ (Nat.le_of_ble_eq_true rfl) rfl dX6_behind_3 (sv_kI (fun r_14 g_13 h => ?_))
  refine sv_if_ne (pc := 6) G 27 (by decide) dX6_behind_6 (fun c_15 => ?_) (fun c_15 => ?_)
  · have h := h.2 c_15
    refine sv_locs [0, 1, 2] [(0, .ref (b + 0)), (1, .int v1), (2, .int v2)] rfl ?_
    exact aw_X6_behind_27 G RR T hL   v1 v2 g_13  h
  · have h := h.1 c_15
    refine sv_iload_n (pc := 9) G dX6_behind_9 2 rfl ?_
    refine sv_iconst (pc := 10) G dX6_behind_10 3 ic_3 ?_
    refine sv_ic_lt (pc := 11) G 31 (by decide) dX6_behind_11 (fun c_16 => ?_) (fun c_16 => ?_)
    · have h := h.1 c_16
      refine sv_locs [0, 1, 2] [(0, .ref (b + 0)), (1, .int v1), (2, .int v2)] rfl ?_
      exact aw_X6_behind_31 G RR T hL   v1 v2 g_13  h
    · have h := h.2 c_16
      refine sv_aload_n (pc := 14) G dX6_behind_14 0 rfl ?_
      refine sv_getR (pc := 15) G fw_X6_28 (hL.sh rfl) rfl (hL.rf 2 rfl) dX6_behind_15 ?_
      refine sv_iload_n (pc := 18) G dX6_behind_18 2 rfl ?_
      refine sv_iconst (pc := 19) G dX6_behind_19 3 ic_3 ?_
      refine sv_isub (pc := 20) G dX6_behind_20 ?_
      refine sv_callV (cs := 0) (sl := 0) (st := []) (As := [.int (v2 - 3)]) (a := 7) (pc := 21) G RR (c_X0_isVoter hL sv_C7 h) mw_X0_isVoter lk_X6_80 (hL.sh rfl) (by decide) rfl rfl ⟨(Nat.le_of_ble_eq_true rfl), (Nat.le_of_ble_eq_true rfl)⟩ ⟨(Nat.le_of_ble_eq_true rfl), (Nat.le_of_ble_eq_true rfl)⟩ (Nat.le_of_ble_eq_true rfl) rfl dX6_behind_21 (sv_kI (fun r_18 g_17 h => ?_))
      refine sv_if_eq (pc := 24) G 31 (by decide) dX6_behind_24 (fun c_19 => ?_) (fun c_19 => ?_)
      · have h := h.1 c_19
        refine sv_locs [0, 1, 2] [(0, .ref (b + 0)), (1, .int v1), (2, .int v2)] rfl ?_
        exact aw_X6_behind_31 G RR T hL   v1 v2 g_17  h
      · have h := h.2 c_19
        refine sv_locs [0, 1, 2] [(0, .ref (b + 0)), (1, .int v1), (2, .int v2)] rfl ?_
        exact aw_X6_behind_27 G RR T hL   v1 v2 g_17  h
def wp_X6_ends_13 (F : sv_Fr) (Q : Int32 → sv_Mg → Prop) : Nat → Int32 → sv_Mg → Prop
  | 0, _, _ => False
  | n + 1, v1, g => ((100 < v1 → Q (-1000000005) g) ∧ (¬ 100 < v1 → (((g 23 13) = (-1) → wp_X0_round F 23 g (fun g_3 => ∀ v1_4 : Int32, v1_4 = v1 + 1 → (wp_X6_ends_13 F Q  n) v1_4 g_3)) ∧ (¬ (g 23 13) = (-1) → Q v1 g))))
def wp_X6_ends (F : sv_Fr) (g : sv_Mg) (Q : Int32 → sv_Mg → Prop) : Prop := wp_X0_become F 23 7 g (fun g_5 => ∃ n_6, wp_X6_ends_13 F  Q  n_6 0 g_5)
set_option maxRecDepth 100000 in
set_option maxHeartbeats 4000000 in
theorem aw_X6_ends_13 {x : sv_X} {b : Nat} {xt : sv_Xt} {F : sv_Fr} {Q : Int32 → sv_Mg → Prop} (G : sv_G x b xt RX6 cX6_ends 2) (RR : sv_R x 6 143 0 0) (T : sv_RT x (some .int)) (hL : sv_Lay F) : ∀ (n : Nat) (v1 : Int32) (g : sv_Mg), wp_X6_ends_13 F Q  n v1 g → sv_AW x (sv_Q x (sv_qI F Q) 0 0) F g 0 0 13 [(0, .ref (b + 0)), (1, .int v1)] [] := by
  intro n
  induction n with
  | zero => intro v1 g h; exact h.elim
  | succ n ih =>
    intro v1 g h
    rw [wp_X6_ends_13] at h
    refine sv_iload_n (pc := 13) G dX6_ends_13 1 rfl ?_
    refine sv_bipush (pc := 14) G dX6_ends_14 100 bp_100 ?_
    refine sv_ic_gt (pc := 16) G 45 (by decide) dX6_ends_16 (fun c_1 => ?_) (fun c_1 => ?_)
    · have h := h.1 c_1
      refine sv_ldc (pc := 45) G dX6_ends_45 cn_X6_184 ?_
      exact sv_ireturn (pc := 47) G T ⟨(Nat.le_of_ble_eq_true rfl), (Nat.le_of_ble_eq_true rfl)⟩ dX6_ends_47 ⟨_, rfl, rfl, h⟩
    · have h := h.2 c_1
      refine sv_aload_n (pc := 19) G dX6_ends_19 0 rfl ?_
      refine sv_getR (pc := 20) G fw_X6_35 (hL.sh rfl) rfl (hL.rf 4 rfl) dX6_ends_20 ?_
      refine sv_getI (pc := 23) G fw_X6_169 (hL.sh rfl) rfl dX6_ends_23 ?_
      refine sv_iconst (pc := 26) G dX6_ends_26 (-1) ic_m1 ?_
      refine sv_ic_eq (pc := 27) G 32 (by decide) dX6_ends_27 (fun c_2 => ?_) (fun c_2 => ?_)
      · have h := h.1 c_2
        refine sv_aload_n (pc := 32) G dX6_ends_32 0 rfl ?_
        refine sv_getR (pc := 33) G fw_X6_35 (hL.sh rfl) rfl (hL.rf 4 rfl) dX6_ends_33 ?_
        refine sv_callV (cs := 0) (sl := 0) (st := []) (As := []) (a := 23) (pc := 36) G RR (c_X0_round hL sv_C23 h) mw_X0_round lk_X6_198 (hL.sh rfl) (by decide) rfl rfl ⟨(Nat.le_of_ble_eq_true rfl), (Nat.le_of_ble_eq_true rfl)⟩ ⟨(Nat.le_of_ble_eq_true rfl), (Nat.le_of_ble_eq_true rfl)⟩ (Nat.le_of_ble_eq_true rfl) rfl dX6_ends_36 (sv_kV (fun g_3 h => ?_))
        obtain ⟨v1_4, ev1_4⟩ : ∃ y : Int32, y = v1 + 1 := ⟨_, rfl⟩
        have h := h v1_4 ev1_4
        refine sv_iinc (pc := 39) G dX6_ends_39 1 v1_4 [(1, .int v1_4), (0, .ref (b + 0))] (by rw [ev1_4, ic_1]) rfl (by decide) rfl ?_
        refine sv_goto (pc := 42) G dX6_ends_42 13 (by decide) ?_
        refine sv_locs [1, 0] [(0, .ref (b + 0)), (1, .int v1_4)] rfl ?_
        exact ih v1_4 g_3  h
      · have h := h.2 c_2
        refine sv_iload_n (pc := 30) G dX6_ends_30 1 rfl ?_
        exact sv_ireturn (pc := 31) G T ⟨(Nat.le_of_ble_eq_true rfl), (Nat.le_of_ble_eq_true rfl)⟩ dX6_ends_31 ⟨_, rfl, rfl, h⟩
set_option maxRecDepth 100000 in
set_option maxHeartbeats 4000000 in
theorem c_X6_ends {b : Nat} {xt : sv_Xt} {F : sv_Fr} {g : sv_Mg} {Q : Int32 → sv_Mg → Prop} (hL : sv_Lay F) (h : wp_X6_ends F g Q) : sv_Cal yX6_ends cX6_ends 2 (some .int) 6 143 0 0 b xt [.ref (b + 0)] F g (sv_qI F Q) := by
  refine sv_intro mw_X6_ends [(0, .ref (b + 0))] rfl (Nat.le_of_ble_eq_true rfl) (fun x G RR T NM => ?_)
  have G : sv_G x b xt RX6 cX6_ends 2 := G
  unfold wp_X6_ends at h
  refine sv_aload_n (pc := 0) G dX6_ends_0 0 rfl ?_
  refine sv_getR (pc := 1) G fw_X6_35 (hL.sh rfl) rfl (hL.rf 4 rfl) dX6_ends_1 ?_
  refine sv_aload_n (pc := 4) G dX6_ends_4 0 rfl ?_
  refine sv_getR (pc := 5) G fw_X6_28 (hL.sh rfl) rfl (hL.rf 2 rfl) dX6_ends_5 ?_
  refine sv_callV (cs := 0) (sl := 0) (st := []) (As := [.ref (b + 7)]) (a := 23) (pc := 8) G RR (c_X0_become hL sv_C23 sv_C7 h) mw_X0_become lk_X6_194 (hL.sh rfl) (by decide) rfl rfl ⟨(Nat.le_of_ble_eq_true rfl), (Nat.le_of_ble_eq_true rfl)⟩ ⟨(Nat.le_of_ble_eq_true rfl), (Nat.le_of_ble_eq_true rfl)⟩ (Nat.le_of_ble_eq_true rfl) rfl dX6_ends_8 (sv_kV (fun g_5 h => ?_))
  refine sv_iconst (pc := 11) G dX6_ends_11 0 ic_0 ?_
  refine sv_istore_n (pc := 12) G dX6_ends_12 [(1, .int 0), (0, .ref (b + 0))] (by decide) rfl ?_
  refine sv_locs [1, 0] [(0, .ref (b + 0)), (1, .int 0)] rfl ?_
  obtain ⟨n_6, h⟩ := h
  exact aw_X6_ends_13 G RR T hL   n_6 0 g_5  h
def wp_X6_won_113 (F : sv_Fr) (Q : Int32 → sv_Mg → Prop) (K42 : Int32 → Int32 → Int32 → Int32 → Int32 → Int32 → sv_Mg → Prop) (v1 : Int32) (v2 : Int32) (v3 : Int32) (v4 : Int32) (v5 : Int32) (v6 : Int32) (g : sv_Mg) : Prop := ∀ v6_1 : Int32, v6_1 = v6 + 1 → K42 v1 v2 v3 v4 v5 v6_1 g
def wp_X6_won_42 (F : sv_Fr) (Q : Int32 → sv_Mg → Prop) : Nat → Int32 → Int32 → Int32 → Int32 → Int32 → Int32 → sv_Mg → Prop
  | 0, _, _, _, _, _, _, _ => False
  | n + 1, v1, v2, v3, v4, v5, v6, g => (((g 7 8) ≤ v6 → ((v3 = 0 → Q v4 g) ∧ (¬ v3 = 0 → Q v5 g))) ∧ (¬ (g 7 8) ≤ v6 → wp_X0_become F 23 7 g (fun g_4 => vp_in v6 10 ∧ ∀ g_6, g_6 = sv_st g_4 25 v6.toNatClampNeg v2 → wp_X0_go F 23 v1 g_6 (fun g_7 => vp_in v2 10 ∧ (((g_7 30 v2.toNatClampNeg) ≤ v5 → wp_X6_won_113 F  Q (wp_X6_won_42 F Q  n) v1 v2 v3 v4 v5 v6 g_7) ∧ (¬ (g_7 30 v2.toNatClampNeg) ≤ v5 → vp_in v2 10 ∧ ∀ v5_11 : Int32, v5_11 = (g_7 30 v2.toNatClampNeg) → wp_X6_won_113 F  Q (wp_X6_won_42 F Q  n) v1 v2 v3 v6 v5_11 v6 g_7))))))
def wp_X6_won (F : sv_Fr) (v1 : Int32) (v2 : Int32) (v3 : Int32) (g : sv_Mg) (Q : Int32 → sv_Mg → Prop) : Prop := wp_X6_isWithin F v1 1 40 g (fun r_13 g_12 => ((r_13 = 0 → Q (-1000000001) g_12) ∧ (¬ r_13 = 0 → wp_X0_isVoter F 7 v2 g_12 (fun r_16 g_15 => ((r_16 = 0 → Q (-1000000001) g_15) ∧ (¬ r_16 = 0 → wp_X6_isWithin F v3 0 1 g_15 (fun r_19 g_18 => ((r_19 = 0 → Q (-1000000001) g_18) ∧ (¬ r_19 = 0 → ∃ n_21, wp_X6_won_42 F  Q  n_21 v1 v2 v3 0 (-1) 0 g_18)))))))))
set_option maxRecDepth 100000 in
set_option maxHeartbeats 4000000 in
theorem aw_X6_won_113 {x : sv_X} {b : Nat} {xt : sv_Xt} {F : sv_Fr} {Q : Int32 → sv_Mg → Prop} (G : sv_G x b xt RX6 cX6_won 7) (RR : sv_R x 7 165 0 0) (T : sv_RT x (some .int)) (hL : sv_Lay F) {K42 : Int32 → Int32 → Int32 → Int32 → Int32 → Int32 → sv_Mg → Prop} (hK42 : ∀ (v1 : Int32) (v2 : Int32) (v3 : Int32) (v4 : Int32) (v5 : Int32) (v6 : Int32) (g : sv_Mg), K42 v1 v2 v3 v4 v5 v6 g → sv_AW x (sv_Q x (sv_qI F Q) 0 0) F g 0 0 42 [(0, .ref (b + 0)), (1, .int v1), (2, .int v2), (3, .int v3), (4, .int v4), (5, .int v5), (6, .int v6)] []) : ∀ (v1 : Int32) (v2 : Int32) (v3 : Int32) (v4 : Int32) (v5 : Int32) (v6 : Int32) (g : sv_Mg), wp_X6_won_113 F Q K42 v1 v2 v3 v4 v5 v6 g → sv_AW x (sv_Q x (sv_qI F Q) 0 0) F g 0 0 113 [(0, .ref (b + 0)), (1, .int v1), (2, .int v2), (3, .int v3), (4, .int v4), (5, .int v5), (6, .int v6)] [] := by
  intro v1 v2 v3 v4 v5 v6 g h
  unfold wp_X6_won_113 at h
  obtain ⟨v6_1, ev6_1⟩ : ∃ y : Int32, y = v6 + 1 := ⟨_, rfl⟩
  have h := h v6_1 ev6_1
  refine sv_iinc (pc := 113) G dX6_won_113 6 v6_1 [(6, .int v6_1), (0, .ref (b + 0)), (1, .int v1), (2, .int v2), (3, .int v3), (4, .int v4), (5, .int v5)] (by rw [ev6_1, ic_1]) rfl (by decide) rfl ?_
  refine sv_goto (pc := 116) G dX6_won_116 42 (by decide) ?_
  refine sv_locs [1, 2, 3, 4, 5, 6, 0] [(0, .ref (b + 0)), (1, .int v1), (2, .int v2), (3, .int v3), (4, .int v4), (5, .int v5), (6, .int v6_1)] rfl ?_
  exact hK42 v1 v2 v3 v4 v5 v6_1 g  h
set_option maxRecDepth 100000 in
set_option maxHeartbeats 4000000 in
theorem aw_X6_won_42 {x : sv_X} {b : Nat} {xt : sv_Xt} {F : sv_Fr} {Q : Int32 → sv_Mg → Prop} (G : sv_G x b xt RX6 cX6_won 7) (RR : sv_R x 7 165 0 0) (T : sv_RT x (some .int)) (hL : sv_Lay F) : ∀ (n : Nat) (v1 : Int32) (v2 : Int32) (v3 : Int32) (v4 : Int32) (v5 : Int32) (v6 : Int32) (g : sv_Mg), wp_X6_won_42 F Q  n v1 v2 v3 v4 v5 v6 g → sv_AW x (sv_Q x (sv_qI F Q) 0 0) F g 0 0 42 [(0, .ref (b + 0)), (1, .int v1), (2, .int v2), (3, .int v3), (4, .int v4), (5, .int v5), (6, .int v6)] [] := by
  intro n
  induction n with
  | zero => intro v1 v2 v3 v4 v5 v6 g h; exact h.elim
  | succ n ih =>
    intro v1 v2 v3 v4 v5 v6 g h
    rw [wp_X6_won_42] at h
    refine sv_iload (pc := 42) G dX6_won_42 6 rfl ?_
    refine sv_aload_n (pc := 44) G dX6_won_44 0 rfl ?_
    refine sv_getR (pc := 45) G fw_X6_28 (hL.sh rfl) rfl (hL.rf 2 rfl) dX6_won_45 ?_
    refine sv_getI (pc := 48) G fw_X6_72 (hL.sh rfl) rfl dX6_won_48 ?_
    refine sv_ic_ge (pc := 51) G 119 (by decide) dX6_won_51 (fun c_2 => ?_) (fun c_2 => ?_)
    · have h := h.1 c_2
      refine sv_iload_n (pc := 119) G dX6_won_119 3 rfl ?_
      refine sv_if_ne (pc := 120) G 128 (by decide) dX6_won_120 (fun c_3 => ?_) (fun c_3 => ?_)
      · have h := h.2 c_3
        refine sv_iload (pc := 128) G dX6_won_128 5 rfl ?_
        exact sv_ireturn (pc := 130) G T ⟨(Nat.le_of_ble_eq_true rfl), (Nat.le_of_ble_eq_true rfl)⟩ dX6_won_130 ⟨_, rfl, rfl, h⟩
      · have h := h.1 c_3
        refine sv_iload (pc := 123) G dX6_won_123 4 rfl ?_
        refine sv_goto (pc := 125) G dX6_won_125 130 (by decide) ?_
        exact sv_ireturn (pc := 130) G T ⟨(Nat.le_of_ble_eq_true rfl), (Nat.le_of_ble_eq_true rfl)⟩ dX6_won_130 ⟨_, rfl, rfl, h⟩
    · have h := h.2 c_2
      refine sv_aload_n (pc := 54) G dX6_won_54 0 rfl ?_
      refine sv_getR (pc := 55) G fw_X6_35 (hL.sh rfl) rfl (hL.rf 4 rfl) dX6_won_55 ?_
      refine sv_aload_n (pc := 58) G dX6_won_58 0 rfl ?_
      refine sv_getR (pc := 59) G fw_X6_28 (hL.sh rfl) rfl (hL.rf 2 rfl) dX6_won_59 ?_
      refine sv_callV (cs := 0) (sl := 0) (st := []) (As := [.ref (b + 7)]) (a := 23) (pc := 62) G RR (c_X0_become hL sv_C23 sv_C7 h) mw_X0_become lk_X6_194 (hL.sh rfl) (by decide) rfl rfl ⟨(Nat.le_of_ble_eq_true rfl), (Nat.le_of_ble_eq_true rfl)⟩ ⟨(Nat.le_of_ble_eq_true rfl), (Nat.le_of_ble_eq_true rfl)⟩ (Nat.le_of_ble_eq_true rfl) rfl dX6_won_62 (sv_kV (fun g_4 h => ?_))
      refine sv_aload_n (pc := 65) G dX6_won_65 0 rfl ?_
      refine sv_getR (pc := 66) G fw_X6_35 (hL.sh rfl) rfl (hL.rf 4 rfl) dX6_won_66 ?_
      refine sv_getR (pc := 69) G fw_X6_87 (hL.sh rfl) rfl (hL.rf 31 rfl) dX6_won_69 ?_
      refine sv_iload (pc := 72) G dX6_won_72 6 rfl ?_
      refine sv_iload_n (pc := 74) G dX6_won_74 2 rfl ?_
      obtain ⟨s_5, h⟩ := h
      refine sv_iastK (pc := 75) G (hL.sh rfl) s_5 v6.toNatClampNeg rfl dX6_won_75 (fun g_6 eg_6 => ?_)
      have h := h g_6 eg_6
      refine sv_aload_n (pc := 76) G dX6_won_76 0 rfl ?_
      refine sv_getR (pc := 77) G fw_X6_35 (hL.sh rfl) rfl (hL.rf 4 rfl) dX6_won_77 ?_
      refine sv_iload_n (pc := 80) G dX6_won_80 1 rfl ?_
      refine sv_callV (cs := 0) (sl := 0) (st := []) (As := [.int v1]) (a := 23) (pc := 81) G RR (c_X0_go hL sv_C23 h) mw_X0_go lk_X6_165 (hL.sh rfl) (by decide) rfl rfl ⟨(Nat.le_of_ble_eq_true rfl), (Nat.le_of_ble_eq_true rfl)⟩ ⟨(Nat.le_of_ble_eq_true rfl), (Nat.le_of_ble_eq_true rfl)⟩ (Nat.le_of_ble_eq_true rfl) rfl dX6_won_81 (sv_kV (fun g_7 h => ?_))
      refine sv_aload_n (pc := 84) G dX6_won_84 0 rfl ?_
      refine sv_getR (pc := 85) G fw_X6_35 (hL.sh rfl) rfl (hL.rf 4 rfl) dX6_won_85 ?_
      refine sv_getR (pc := 88) G fw_X6_102 (hL.sh rfl) rfl (hL.rf 36 rfl) dX6_won_88 ?_
      refine sv_iload_n (pc := 91) G dX6_won_91 2 rfl ?_
      obtain ⟨s_8, h⟩ := h
      refine sv_ialdK (pc := 92) G (hL.sh rfl) s_8 v2.toNatClampNeg rfl dX6_won_92 ?_
      refine sv_iload (pc := 93) G dX6_won_93 5 rfl ?_
      refine sv_ic_le (pc := 95) G 113 (by decide) dX6_won_95 (fun c_9 => ?_) (fun c_9 => ?_)
      · have h := h.1 c_9
        refine sv_locs [0, 1, 2, 3, 4, 5, 6] [(0, .ref (b + 0)), (1, .int v1), (2, .int v2), (3, .int v3), (4, .int v4), (5, .int v5), (6, .int v6)] rfl ?_
        exact aw_X6_won_113 G RR T hL  ih v1 v2 v3 v4 v5 v6 g_7  h
      · have h := h.2 c_9
        refine sv_iload (pc := 98) G dX6_won_98 6 rfl ?_
        refine sv_istore (pc := 100) G dX6_won_100 [(4, .int v6), (0, .ref (b + 0)), (1, .int v1), (2, .int v2), (3, .int v3), (5, .int v5), (6, .int v6)] (by decide) rfl ?_
        refine sv_aload_n (pc := 102) G dX6_won_102 1 rfl ?_
        refine sv_getR (pc := 103) G fw_X6_35 (hL.sh rfl) rfl (hL.rf 4 rfl) dX6_won_103 ?_
        refine sv_getR (pc := 106) G fw_X6_102 (hL.sh rfl) rfl (hL.rf 36 rfl) dX6_won_106 ?_
        refine sv_iload_n (pc := 109) G dX6_won_109 3 rfl ?_
        obtain ⟨s_10, h⟩ := h
        refine sv_ialdK (pc := 110) G (hL.sh rfl) s_10 v2.toNatClampNeg rfl dX6_won_110 ?_
        refine sv_topi (fun v5_11 ev5_11 => ?_)
        have h := h v5_11 ev5_11
        refine sv_istore (pc := 111) G dX6_won_111 [(5, .int v5_11), (4, .int v6), (0, .ref (b + 0)), (1, .int v1), (2, .int v2), (3, .int v3), (6, .int v6)] (by decide) rfl ?_
        refine sv_locs [2, 3, 4, 5, 1, 0, 6] [(0, .ref (b + 0)), (1, .int v1), (2, .int v2), (3, .int v3), (4, .int v6), (5, .int v5_11), (6, .int v6)] rfl ?_
        exact aw_X6_won_113 G RR T hL  ih v1 v2 v3 v6 v5_11 v6 g_7  h
set_option maxRecDepth 100000 in
set_option maxHeartbeats 4000000 in
theorem c_X6_won {b : Nat} {xt : sv_Xt} {F : sv_Fr} {v1 : Int32} {v2 : Int32} {v3 : Int32} {g : sv_Mg} {Q : Int32 → sv_Mg → Prop} (hL : sv_Lay F) (h : wp_X6_won F v1 v2 v3 g Q) : sv_Cal yX6_won cX6_won 7 (some .int) 7 165 0 0 b xt [.ref (b + 0), .int v1, .int v2, .int v3] F g (sv_qI F Q) := by
  refine sv_intro mw_X6_won [(0, .ref (b + 0)), (1, .int v1), (2, .int v2), (3, .int v3)] rfl (Nat.le_of_ble_eq_true rfl) (fun x G RR T NM => ?_)
  have G : sv_G x b xt RX6 cX6_won 7 := G
  unfold wp_X6_won at h
  refine sv_iload_n (pc := 0) G dX6_won_0 1 rfl ?_
  refine sv_iconst (pc := 1) G dX6_won_1 1 ic_1 ?_
  refine sv_bipush (pc := 2) G dX6_won_2 40 bp_40 ?_
  refine sv_callS (cs := 0) (sl := 0) (st := []) (As := [.int v1, .int 1, .int 40]) (pc := 4) G RR (c_X6_isWithin hL  h) mw_X6_isWithin lk_X6_67 rfl ⟨(Nat.le_of_ble_eq_true rfl), (Nat.le_of_ble_eq_true rfl)⟩ ⟨(Nat.le_of_ble_eq_true rfl), (Nat.le_of_ble_eq_true rfl)⟩ (Nat.le_of_ble_eq_true rfl) rfl dX6_won_4 (sv_kI (fun r_13 g_12 h => ?_))
  refine sv_if_eq (pc := 7) G 30 (by decide) dX6_won_7 (fun c_14 => ?_) (fun c_14 => ?_)
  · have h := h.1 c_14
    refine sv_ldc (pc := 30) G dX6_won_30 cn_X6_71 ?_
    exact sv_ireturn (pc := 32) G T ⟨(Nat.le_of_ble_eq_true rfl), (Nat.le_of_ble_eq_true rfl)⟩ dX6_won_32 ⟨_, rfl, rfl, h⟩
  · have h := h.2 c_14
    refine sv_aload_n (pc := 10) G dX6_won_10 0 rfl ?_
    refine sv_getR (pc := 11) G fw_X6_28 (hL.sh rfl) rfl (hL.rf 2 rfl) dX6_won_11 ?_
    refine sv_iload_n (pc := 14) G dX6_won_14 2 rfl ?_
    refine sv_callV (cs := 0) (sl := 0) (st := []) (As := [.int v2]) (a := 7) (pc := 15) G RR (c_X0_isVoter hL sv_C7 h) mw_X0_isVoter lk_X6_80 (hL.sh rfl) (by decide) rfl rfl ⟨(Nat.le_of_ble_eq_true rfl), (Nat.le_of_ble_eq_true rfl)⟩ ⟨(Nat.le_of_ble_eq_true rfl), (Nat.le_of_ble_eq_true rfl)⟩ (Nat.le_of_ble_eq_true rfl) rfl dX6_won_15 (sv_kI (fun r_16 g_15 h => ?_))
    refine sv_if_eq (pc := 18) G 30 (by decide) dX6_won_18 (fun c_17 => ?_) (fun c_17 => ?_)
    · have h := h.1 c_17
      refine sv_ldc (pc := 30) G dX6_won_30 cn_X6_71 ?_
      exact sv_ireturn (pc := 32) G T ⟨(Nat.le_of_ble_eq_true rfl), (Nat.le_of_ble_eq_true rfl)⟩ dX6_won_32 ⟨_, rfl, rfl, h⟩
    · have h := h.2 c_17
      refine sv_iload_n (pc := 21) G dX6_won_21 3 rfl ?_
      refine sv_iconst (pc := 22) G dX6_won_22 0 ic_0 ?_
      refine sv_iconst (pc := 23) G dX6_won_23 1 ic_1 ?_
      refine sv_callS (cs := 0) (sl := 0) (st := []) (As := [.int v3, .int 0, .int 1]) (pc := 24) G RR (c_X6_isWithin hL  h) mw_X6_isWithin lk_X6_67 rfl ⟨(Nat.le_of_ble_eq_true rfl), (Nat.le_of_ble_eq_true rfl)⟩ ⟨(Nat.le_of_ble_eq_true rfl), (Nat.le_of_ble_eq_true rfl)⟩ (Nat.le_of_ble_eq_true rfl) rfl dX6_won_24 (sv_kI (fun r_19 g_18 h => ?_))
      refine sv_if_ne (pc := 27) G 33 (by decide) dX6_won_27 (fun c_20 => ?_) (fun c_20 => ?_)
      · have h := h.2 c_20
        refine sv_iconst (pc := 33) G dX6_won_33 0 ic_0 ?_
        refine sv_istore (pc := 34) G dX6_won_34 [(4, .int 0), (0, .ref (b + 0)), (1, .int v1), (2, .int v2), (3, .int v3)] (by decide) rfl ?_
        refine sv_iconst (pc := 36) G dX6_won_36 (-1) ic_m1 ?_
        refine sv_istore (pc := 37) G dX6_won_37 [(5, .int (-1)), (4, .int 0), (0, .ref (b + 0)), (1, .int v1), (2, .int v2), (3, .int v3)] (by decide) rfl ?_
        refine sv_iconst (pc := 39) G dX6_won_39 0 ic_0 ?_
        refine sv_istore (pc := 40) G dX6_won_40 [(6, .int 0), (5, .int (-1)), (4, .int 0), (0, .ref (b + 0)), (1, .int v1), (2, .int v2), (3, .int v3)] (by decide) rfl ?_
        refine sv_locs [3, 4, 5, 6, 2, 1, 0] [(0, .ref (b + 0)), (1, .int v1), (2, .int v2), (3, .int v3), (4, .int 0), (5, .int (-1)), (6, .int 0)] rfl ?_
        obtain ⟨n_21, h⟩ := h
        exact aw_X6_won_42 G RR T hL   n_21 v1 v2 v3 0 (-1) 0 g_18  h
      · have h := h.1 c_20
        refine sv_ldc (pc := 30) G dX6_won_30 cn_X6_71 ?_
        exact sv_ireturn (pc := 32) G T ⟨(Nat.le_of_ble_eq_true rfl), (Nat.le_of_ble_eq_true rfl)⟩ dX6_won_32 ⟨_, rfl, rfl, h⟩
def wp_X6_party_85 (F : sv_Fr) (Q : Int32 → sv_Mg → Prop) (K15 : Int32 → Int32 → sv_Mg → Prop) (v1 : Int32) (v2 : Int32) (g : sv_Mg) : Prop := ∀ v2_1 : Int32, v2_1 = v2 + 1 → K15 v1 v2_1 g
def wp_X6_party_15 (F : sv_Fr) (Q : Int32 → sv_Mg → Prop) : Nat → Int32 → Int32 → sv_Mg → Prop
  | 0, _, _, _ => False
  | n + 1, v1, v2, g => ((4 ≤ v2 → Q (-1000000005) g) ∧ (¬ 4 ≤ v2 → wp_X0_become F 23 7 g (fun g_3 => wp_X0_convince F 23 v2 g_3 (fun g_4 => wp_X0_go F 23 v1 g_4 (fun g_5 => wp_X0_isVoter F 23 (g_5 23 13) g_5 (fun r_7 g_6 => ((r_7 = 0 → wp_X6_party_85 F  Q (wp_X6_party_15 F Q  n) v1 v2 g_6) ∧ (¬ r_7 = 0 → vp_in (g_6 23 13) 10 ∧ (((g_6 26 (g_6 23 13).toNatClampNeg) = v2 → Q v2 g_6) ∧ (¬ (g_6 26 (g_6 23 13).toNatClampNeg) = v2 → wp_X6_party_85 F  Q (wp_X6_party_15 F Q  n) v1 v2 g_6))))))))))
def wp_X6_party (F : sv_Fr) (v1 : Int32) (g : sv_Mg) (Q : Int32 → sv_Mg → Prop) : Prop := wp_X6_isWithin F v1 1 40 g (fun r_12 g_11 => ((r_12 = 0 → Q (-1000000001) g_11) ∧ (¬ r_12 = 0 → ∃ n_14, wp_X6_party_15 F  Q  n_14 v1 0 g_11)))
set_option maxRecDepth 100000 in
set_option maxHeartbeats 4000000 in
theorem aw_X6_party_85 {x : sv_X} {b : Nat} {xt : sv_Xt} {F : sv_Fr} {Q : Int32 → sv_Mg → Prop} (G : sv_G x b xt RX6 cX6_party 3) (RR : sv_R x 7 165 0 0) (T : sv_RT x (some .int)) (hL : sv_Lay F) {K15 : Int32 → Int32 → sv_Mg → Prop} (hK15 : ∀ (v1 : Int32) (v2 : Int32) (g : sv_Mg), K15 v1 v2 g → sv_AW x (sv_Q x (sv_qI F Q) 0 0) F g 0 0 15 [(0, .ref (b + 0)), (1, .int v1), (2, .int v2)] []) : ∀ (v1 : Int32) (v2 : Int32) (g : sv_Mg), wp_X6_party_85 F Q K15 v1 v2 g → sv_AW x (sv_Q x (sv_qI F Q) 0 0) F g 0 0 85 [(0, .ref (b + 0)), (1, .int v1), (2, .int v2)] [] := by
  intro v1 v2 g h
  unfold wp_X6_party_85 at h
  obtain ⟨v2_1, ev2_1⟩ : ∃ y : Int32, y = v2 + 1 := ⟨_, rfl⟩
  have h := h v2_1 ev2_1
  refine sv_iinc (pc := 85) G dX6_party_85 2 v2_1 [(2, .int v2_1), (0, .ref (b + 0)), (1, .int v1)] (by rw [ev2_1, ic_1]) rfl (by decide) rfl ?_
  refine sv_goto (pc := 88) G dX6_party_88 15 (by decide) ?_
  refine sv_locs [1, 2, 0] [(0, .ref (b + 0)), (1, .int v1), (2, .int v2_1)] rfl ?_
  exact hK15 v1 v2_1 g  h
set_option maxRecDepth 100000 in
set_option maxHeartbeats 4000000 in
theorem aw_X6_party_15 {x : sv_X} {b : Nat} {xt : sv_Xt} {F : sv_Fr} {Q : Int32 → sv_Mg → Prop} (G : sv_G x b xt RX6 cX6_party 3) (RR : sv_R x 7 165 0 0) (T : sv_RT x (some .int)) (hL : sv_Lay F) : ∀ (n : Nat) (v1 : Int32) (v2 : Int32) (g : sv_Mg), wp_X6_party_15 F Q  n v1 v2 g → sv_AW x (sv_Q x (sv_qI F Q) 0 0) F g 0 0 15 [(0, .ref (b + 0)), (1, .int v1), (2, .int v2)] [] := by
  intro n
  induction n with
  | zero => intro v1 v2 g h; exact h.elim
  | succ n ih =>
    intro v1 v2 g h
    rw [wp_X6_party_15] at h
    refine sv_iload_n (pc := 15) G dX6_party_15 2 rfl ?_
    refine sv_iconst (pc := 16) G dX6_party_16 4 ic_4 ?_
    refine sv_ic_ge (pc := 17) G 91 (by decide) dX6_party_17 (fun c_2 => ?_) (fun c_2 => ?_)
    · have h := h.1 c_2
      refine sv_ldc (pc := 91) G dX6_party_91 cn_X6_184 ?_
      exact sv_ireturn (pc := 93) G T ⟨(Nat.le_of_ble_eq_true rfl), (Nat.le_of_ble_eq_true rfl)⟩ dX6_party_93 ⟨_, rfl, rfl, h⟩
    · have h := h.2 c_2
      refine sv_aload_n (pc := 20) G dX6_party_20 0 rfl ?_
      refine sv_getR (pc := 21) G fw_X6_35 (hL.sh rfl) rfl (hL.rf 4 rfl) dX6_party_21 ?_
      refine sv_aload_n (pc := 24) G dX6_party_24 0 rfl ?_
      refine sv_getR (pc := 25) G fw_X6_28 (hL.sh rfl) rfl (hL.rf 2 rfl) dX6_party_25 ?_
      refine sv_callV (cs := 0) (sl := 0) (st := []) (As := [.ref (b + 7)]) (a := 23) (pc := 28) G RR (c_X0_become hL sv_C23 sv_C7 h) mw_X0_become lk_X6_194 (hL.sh rfl) (by decide) rfl rfl ⟨(Nat.le_of_ble_eq_true rfl), (Nat.le_of_ble_eq_true rfl)⟩ ⟨(Nat.le_of_ble_eq_true rfl), (Nat.le_of_ble_eq_true rfl)⟩ (Nat.le_of_ble_eq_true rfl) rfl dX6_party_28 (sv_kV (fun g_3 h => ?_))
      refine sv_aload_n (pc := 31) G dX6_party_31 0 rfl ?_
      refine sv_getR (pc := 32) G fw_X6_35 (hL.sh rfl) rfl (hL.rf 4 rfl) dX6_party_32 ?_
      refine sv_iload_n (pc := 35) G dX6_party_35 2 rfl ?_
      refine sv_callV (cs := 0) (sl := 0) (st := []) (As := [.int v2]) (a := 23) (pc := 36) G RR (c_X0_convince hL sv_C23 h) mw_X0_convince lk_X6_201 (hL.sh rfl) (by decide) rfl rfl ⟨(Nat.le_of_ble_eq_true rfl), (Nat.le_of_ble_eq_true rfl)⟩ ⟨(Nat.le_of_ble_eq_true rfl), (Nat.le_of_ble_eq_true rfl)⟩ (Nat.le_of_ble_eq_true rfl) rfl dX6_party_36 (sv_kV (fun g_4 h => ?_))
      refine sv_aload_n (pc := 39) G dX6_party_39 0 rfl ?_
      refine sv_getR (pc := 40) G fw_X6_35 (hL.sh rfl) rfl (hL.rf 4 rfl) dX6_party_40 ?_
      refine sv_iload_n (pc := 43) G dX6_party_43 1 rfl ?_
      refine sv_callV (cs := 0) (sl := 0) (st := []) (As := [.int v1]) (a := 23) (pc := 44) G RR (c_X0_go hL sv_C23 h) mw_X0_go lk_X6_165 (hL.sh rfl) (by decide) rfl rfl ⟨(Nat.le_of_ble_eq_true rfl), (Nat.le_of_ble_eq_true rfl)⟩ ⟨(Nat.le_of_ble_eq_true rfl), (Nat.le_of_ble_eq_true rfl)⟩ (Nat.le_of_ble_eq_true rfl) rfl dX6_party_44 (sv_kV (fun g_5 h => ?_))
      refine sv_aload_n (pc := 47) G dX6_party_47 0 rfl ?_
      refine sv_getR (pc := 48) G fw_X6_35 (hL.sh rfl) rfl (hL.rf 4 rfl) dX6_party_48 ?_
      refine sv_aload_n (pc := 51) G dX6_party_51 0 rfl ?_
      refine sv_getR (pc := 52) G fw_X6_35 (hL.sh rfl) rfl (hL.rf 4 rfl) dX6_party_52 ?_
      refine sv_getI (pc := 55) G fw_X6_169 (hL.sh rfl) rfl dX6_party_55 ?_
      refine sv_callV (cs := 0) (sl := 0) (st := []) (As := [.int (g_5 23 13)]) (a := 23) (pc := 58) G RR (c_X0_isVoter hL sv_C23 h) mw_X0_isVoter lk_X6_80 (hL.sh rfl) (by decide) rfl rfl ⟨(Nat.le_of_ble_eq_true rfl), (Nat.le_of_ble_eq_true rfl)⟩ ⟨(Nat.le_of_ble_eq_true rfl), (Nat.le_of_ble_eq_true rfl)⟩ (Nat.le_of_ble_eq_true rfl) rfl dX6_party_58 (sv_kI (fun r_7 g_6 h => ?_))
      refine sv_if_eq (pc := 61) G 85 (by decide) dX6_party_61 (fun c_8 => ?_) (fun c_8 => ?_)
      · have h := h.1 c_8
        refine sv_locs [0, 1, 2] [(0, .ref (b + 0)), (1, .int v1), (2, .int v2)] rfl ?_
        exact aw_X6_party_85 G RR T hL  ih v1 v2 g_6  h
      · have h := h.2 c_8
        refine sv_aload_n (pc := 64) G dX6_party_64 0 rfl ?_
        refine sv_getR (pc := 65) G fw_X6_35 (hL.sh rfl) rfl (hL.rf 4 rfl) dX6_party_65 ?_
        refine sv_getR (pc := 68) G fw_X6_90 (hL.sh rfl) rfl (hL.rf 32 rfl) dX6_party_68 ?_
        refine sv_aload_n (pc := 71) G dX6_party_71 0 rfl ?_
        refine sv_getR (pc := 72) G fw_X6_35 (hL.sh rfl) rfl (hL.rf 4 rfl) dX6_party_72 ?_
        refine sv_getI (pc := 75) G fw_X6_169 (hL.sh rfl) rfl dX6_party_75 ?_
        obtain ⟨s_9, h⟩ := h
        refine sv_ialdK (pc := 78) G (hL.sh rfl) s_9 (g_6 23 13).toNatClampNeg rfl dX6_party_78 ?_
        refine sv_iload_n (pc := 79) G dX6_party_79 2 rfl ?_
        refine sv_ic_ne (pc := 80) G 85 (by decide) dX6_party_80 (fun c_10 => ?_) (fun c_10 => ?_)
        · have h := h.2 c_10
          refine sv_locs [0, 1, 2] [(0, .ref (b + 0)), (1, .int v1), (2, .int v2)] rfl ?_
          exact aw_X6_party_85 G RR T hL  ih v1 v2 g_6  h
        · have h := h.1 c_10
          refine sv_iload_n (pc := 83) G dX6_party_83 2 rfl ?_
          exact sv_ireturn (pc := 84) G T ⟨(Nat.le_of_ble_eq_true rfl), (Nat.le_of_ble_eq_true rfl)⟩ dX6_party_84 ⟨_, rfl, rfl, h⟩
set_option maxRecDepth 100000 in
set_option maxHeartbeats 4000000 in
theorem c_X6_party {b : Nat} {xt : sv_Xt} {F : sv_Fr} {v1 : Int32} {g : sv_Mg} {Q : Int32 → sv_Mg → Prop} (hL : sv_Lay F) (h : wp_X6_party F v1 g Q) : sv_Cal yX6_party cX6_party 3 (some .int) 7 165 0 0 b xt [.ref (b + 0), .int v1] F g (sv_qI F Q) := by
  refine sv_intro mw_X6_party [(0, .ref (b + 0)), (1, .int v1)] rfl (Nat.le_of_ble_eq_true rfl) (fun x G RR T NM => ?_)
  have G : sv_G x b xt RX6 cX6_party 3 := G
  unfold wp_X6_party at h
  refine sv_iload_n (pc := 0) G dX6_party_0 1 rfl ?_
  refine sv_iconst (pc := 1) G dX6_party_1 1 ic_1 ?_
  refine sv_bipush (pc := 2) G dX6_party_2 40 bp_40 ?_
  refine sv_callS (cs := 0) (sl := 0) (st := []) (As := [.int v1, .int 1, .int 40]) (pc := 4) G RR (c_X6_isWithin hL  h) mw_X6_isWithin lk_X6_67 rfl ⟨(Nat.le_of_ble_eq_true rfl), (Nat.le_of_ble_eq_true rfl)⟩ ⟨(Nat.le_of_ble_eq_true rfl), (Nat.le_of_ble_eq_true rfl)⟩ (Nat.le_of_ble_eq_true rfl) rfl dX6_party_4 (sv_kI (fun r_12 g_11 h => ?_))
  refine sv_if_ne (pc := 7) G 13 (by decide) dX6_party_7 (fun c_13 => ?_) (fun c_13 => ?_)
  · have h := h.2 c_13
    refine sv_iconst (pc := 13) G dX6_party_13 0 ic_0 ?_
    refine sv_istore_n (pc := 14) G dX6_party_14 [(2, .int 0), (0, .ref (b + 0)), (1, .int v1)] (by decide) rfl ?_
    refine sv_locs [1, 2, 0] [(0, .ref (b + 0)), (1, .int v1), (2, .int 0)] rfl ?_
    obtain ⟨n_14, h⟩ := h
    exact aw_X6_party_15 G RR T hL   n_14 v1 0 g_11  h
  · have h := h.1 c_13
    refine sv_ldc (pc := 10) G dX6_party_10 cn_X6_71 ?_
    exact sv_ireturn (pc := 12) G T ⟨(Nat.le_of_ble_eq_true rfl), (Nat.le_of_ble_eq_true rfl)⟩ dX6_party_12 ⟨_, rfl, rfl, h⟩
def wp_X6_smokes_28 (F : sv_Fr) (Q : Int32 → sv_Mg → Prop) : Nat → Int32 → Int32 → Int32 → sv_Mg → Prop
  | 0, _, _, _, _ => False
  | n + 1, v1, v2, v3, g => ((v1 ≤ v3 → Q v2 g) ∧ (¬ v1 ≤ v3 → wp_X0_round F 23 g (fun g_2 => ∀ v2_3 : Int32, v2_3 = ((v2 * 4) + (g_2 23 17)) → ∀ v3_4 : Int32, v3_4 = v3 + 1 → (wp_X6_smokes_28 F Q  n) v1 v2_3 v3_4 g_2)))
def wp_X6_smokes (F : sv_Fr) (v1 : Int32) (g : sv_Mg) (Q : Int32 → sv_Mg → Prop) : Prop := wp_X6_isWithin F v1 1 12 g (fun r_6 g_5 => ((r_6 = 0 → Q (-1000000001) g_5) ∧ (¬ r_6 = 0 → wp_X0_become F 23 7 g_5 (fun g_8 => ∃ n_9, wp_X6_smokes_28 F  Q  n_9 v1 0 0 g_8))))
set_option maxRecDepth 100000 in
set_option maxHeartbeats 4000000 in
theorem aw_X6_smokes_28 {x : sv_X} {b : Nat} {xt : sv_Xt} {F : sv_Fr} {Q : Int32 → sv_Mg → Prop} (G : sv_G x b xt RX6 cX6_smokes 4) (RR : sv_R x 6 143 0 0) (T : sv_RT x (some .int)) (hL : sv_Lay F) : ∀ (n : Nat) (v1 : Int32) (v2 : Int32) (v3 : Int32) (g : sv_Mg), wp_X6_smokes_28 F Q  n v1 v2 v3 g → sv_AW x (sv_Q x (sv_qI F Q) 0 0) F g 0 0 28 [(0, .ref (b + 0)), (1, .int v1), (2, .int v2), (3, .int v3)] [] := by
  intro n
  induction n with
  | zero => intro v1 v2 v3 g h; exact h.elim
  | succ n ih =>
    intro v1 v2 v3 g h
    rw [wp_X6_smokes_28] at h
    refine sv_iload_n (pc := 28) G dX6_smokes_28 3 rfl ?_
    refine sv_iload_n (pc := 29) G dX6_smokes_29 1 rfl ?_
    refine sv_ic_ge (pc := 30) G 58 (by decide) dX6_smokes_30 (fun c_1 => ?_) (fun c_1 => ?_)
    · have h := h.1 c_1
      refine sv_iload_n (pc := 58) G dX6_smokes_58 2 rfl ?_
      exact sv_ireturn (pc := 59) G T ⟨(Nat.le_of_ble_eq_true rfl), (Nat.le_of_ble_eq_true rfl)⟩ dX6_smokes_59 ⟨_, rfl, rfl, h⟩
    · have h := h.2 c_1
      refine sv_aload_n (pc := 33) G dX6_smokes_33 0 rfl ?_
      refine sv_getR (pc := 34) G fw_X6_35 (hL.sh rfl) rfl (hL.rf 4 rfl) dX6_smokes_34 ?_
      refine sv_callV (cs := 0) (sl := 0) (st := []) (As := []) (a := 23) (pc := 37) G RR (c_X0_round hL sv_C23 h) mw_X0_round lk_X6_198 (hL.sh rfl) (by decide) rfl rfl ⟨(Nat.le_of_ble_eq_true rfl), (Nat.le_of_ble_eq_true rfl)⟩ ⟨(Nat.le_of_ble_eq_true rfl), (Nat.le_of_ble_eq_true rfl)⟩ (Nat.le_of_ble_eq_true rfl) rfl dX6_smokes_37 (sv_kV (fun g_2 h => ?_))
      refine sv_iload_n (pc := 40) G dX6_smokes_40 2 rfl ?_
      refine sv_iconst (pc := 41) G dX6_smokes_41 4 ic_4 ?_
      refine sv_imul (pc := 42) G dX6_smokes_42 ?_
      refine sv_aload_n (pc := 43) G dX6_smokes_43 0 rfl ?_
      refine sv_getR (pc := 44) G fw_X6_35 (hL.sh rfl) rfl (hL.rf 4 rfl) dX6_smokes_44 ?_
      refine sv_getI (pc := 47) G fw_X6_175 (hL.sh rfl) rfl dX6_smokes_47 ?_
      refine sv_iadd (pc := 50) G dX6_smokes_50 ?_
      refine sv_topi (fun v2_3 ev2_3 => ?_)
      have h := h v2_3 ev2_3
      refine sv_istore_n (pc := 51) G dX6_smokes_51 [(2, .int v2_3), (0, .ref (b + 0)), (1, .int v1), (3, .int v3)] (by decide) rfl ?_
      obtain ⟨v3_4, ev3_4⟩ : ∃ y : Int32, y = v3 + 1 := ⟨_, rfl⟩
      have h := h v3_4 ev3_4
      refine sv_iinc (pc := 52) G dX6_smokes_52 3 v3_4 [(3, .int v3_4), (2, .int v2_3), (0, .ref (b + 0)), (1, .int v1)] (by rw [ev3_4, ic_1]) rfl (by decide) rfl ?_
      refine sv_goto (pc := 55) G dX6_smokes_55 28 (by decide) ?_
      refine sv_locs [2, 3, 1, 0] [(0, .ref (b + 0)), (1, .int v1), (2, .int v2_3), (3, .int v3_4)] rfl ?_
      exact ih v1 v2_3 v3_4 g_2  h
set_option maxRecDepth 100000 in
set_option maxHeartbeats 4000000 in
theorem c_X6_smokes {b : Nat} {xt : sv_Xt} {F : sv_Fr} {v1 : Int32} {g : sv_Mg} {Q : Int32 → sv_Mg → Prop} (hL : sv_Lay F) (h : wp_X6_smokes F v1 g Q) : sv_Cal yX6_smokes cX6_smokes 4 (some .int) 6 143 0 0 b xt [.ref (b + 0), .int v1] F g (sv_qI F Q) := by
  refine sv_intro mw_X6_smokes [(0, .ref (b + 0)), (1, .int v1)] rfl (Nat.le_of_ble_eq_true rfl) (fun x G RR T NM => ?_)
  have G : sv_G x b xt RX6 cX6_smokes 4 := G
  unfold wp_X6_smokes at h
  refine sv_iload_n (pc := 0) G dX6_smokes_0 1 rfl ?_
  refine sv_iconst (pc := 1) G dX6_smokes_1 1 ic_1 ?_
  refine sv_bipush (pc := 2) G dX6_smokes_2 12 bp_12 ?_
  refine sv_callS (cs := 0) (sl := 0) (st := []) (As := [.int v1, .int 1, .int 12]) (pc := 4) G RR (c_X6_isWithin hL  h) mw_X6_isWithin lk_X6_67 rfl ⟨(Nat.le_of_ble_eq_true rfl), (Nat.le_of_ble_eq_true rfl)⟩ ⟨(Nat.le_of_ble_eq_true rfl), (Nat.le_of_ble_eq_true rfl)⟩ (Nat.le_of_ble_eq_true rfl) rfl dX6_smokes_4 (sv_kI (fun r_6 g_5 h => ?_))
  refine sv_if_ne (pc := 7) G 13 (by decide) dX6_smokes_7 (fun c_7 => ?_) (fun c_7 => ?_)
  · have h := h.2 c_7
    refine sv_aload_n (pc := 13) G dX6_smokes_13 0 rfl ?_
    refine sv_getR (pc := 14) G fw_X6_35 (hL.sh rfl) rfl (hL.rf 4 rfl) dX6_smokes_14 ?_
    refine sv_aload_n (pc := 17) G dX6_smokes_17 0 rfl ?_
    refine sv_getR (pc := 18) G fw_X6_28 (hL.sh rfl) rfl (hL.rf 2 rfl) dX6_smokes_18 ?_
    refine sv_callV (cs := 0) (sl := 0) (st := []) (As := [.ref (b + 7)]) (a := 23) (pc := 21) G RR (c_X0_become hL sv_C23 sv_C7 h) mw_X0_become lk_X6_194 (hL.sh rfl) (by decide) rfl rfl ⟨(Nat.le_of_ble_eq_true rfl), (Nat.le_of_ble_eq_true rfl)⟩ ⟨(Nat.le_of_ble_eq_true rfl), (Nat.le_of_ble_eq_true rfl)⟩ (Nat.le_of_ble_eq_true rfl) rfl dX6_smokes_21 (sv_kV (fun g_8 h => ?_))
    refine sv_iconst (pc := 24) G dX6_smokes_24 0 ic_0 ?_
    refine sv_istore_n (pc := 25) G dX6_smokes_25 [(2, .int 0), (0, .ref (b + 0)), (1, .int v1)] (by decide) rfl ?_
    refine sv_iconst (pc := 26) G dX6_smokes_26 0 ic_0 ?_
    refine sv_istore_n (pc := 27) G dX6_smokes_27 [(3, .int 0), (2, .int 0), (0, .ref (b + 0)), (1, .int v1)] (by decide) rfl ?_
    refine sv_locs [2, 3, 1, 0] [(0, .ref (b + 0)), (1, .int v1), (2, .int 0), (3, .int 0)] rfl ?_
    obtain ⟨n_9, h⟩ := h
    exact aw_X6_smokes_28 G RR T hL   n_9 v1 0 0 g_8  h
  · have h := h.1 c_7
    refine sv_ldc (pc := 10) G dX6_smokes_10 cn_X6_71 ?_
    exact sv_ireturn (pc := 12) G T ⟨(Nat.le_of_ble_eq_true rfl), (Nat.le_of_ble_eq_true rfl)⟩ dX6_smokes_12 ⟨_, rfl, rfl, h⟩
def wp_X6_differenceWith_70 (F : sv_Fr) (a2 : Nat) (Q : Int32 → sv_Mg → Prop) (K24 : Int32 → Int32 → sv_Mg → Prop) (v3 : Int32) (v4 : Int32) (g : sv_Mg) : Prop := ∀ v4_1 : Int32, v4_1 = v4 + 1 → K24 v3 v4_1 g
def wp_X6_differenceWith_24 (F : sv_Fr) (a2 : Nat) (Q : Int32 → sv_Mg → Prop) : Nat → Int32 → Int32 → sv_Mg → Prop
  | 0, _, _, _ => False
  | n + 1, v3, v4, g => (((g a2 2) ≤ v4 → Q v3 g) ∧ (¬ (g a2 2) ≤ v4 → wp_X0_round F 23 g (fun g_3 => wp_X4_isNumber F a2 v4 g_3 (fun r_5 g_4 => ((r_5 = 0 → wp_X6_differenceWith_70 F a2 Q (wp_X6_differenceWith_24 F a2 Q  n) v3 v4 g_4) ∧ (¬ r_5 = 0 → vp_in v4 24 ∧ ∀ v3_8 : Int32, v3_8 = (v3 + (if 0 ≤ ((g_4 23 17) - (g_4 (a2 + 1) v4.toNatClampNeg)) then ((g_4 23 17) - (g_4 (a2 + 1) v4.toNatClampNeg)) else 0 - ((g_4 23 17) - (g_4 (a2 + 1) v4.toNatClampNeg)))) → wp_X6_differenceWith_70 F a2 Q (wp_X6_differenceWith_24 F a2 Q  n) v3_8 v4 g_4))))))
def wp_X6_differenceWith (F : sv_Fr) (a2 : Nat) (v1 : Int32) (g : sv_Mg) (Q : Int32 → sv_Mg → Prop) : Prop := wp_X0_become F 23 7 g (fun g_9 => ∀ g_10, g_10 = sv_st g_9 23 11 v1 → ∃ n_11, wp_X6_differenceWith_24 F a2 Q  n_11 0 0 g_10)
set_option maxRecDepth 100000 in
set_option maxHeartbeats 4000000 in
theorem aw_X6_differenceWith_70 {x : sv_X} {b : Nat} {xt : sv_Xt} {F : sv_Fr} {a2 : Nat} {Q : Int32 → sv_Mg → Prop} (G : sv_G x b xt RX6 cX6_differenceWith 5) (RR : sv_R x 6 143 0 0) (T : sv_RT x (some .int)) (hL : sv_Lay F) (ha2 : sv_isS a2) {K24 : Int32 → Int32 → sv_Mg → Prop} (hK24 : ∀ (v3 : Int32) (v4 : Int32) (g : sv_Mg), K24 v3 v4 g → sv_AW x (sv_Q x (sv_qI F Q) 0 0) F g 0 0 24 [(0, .ref (b + 0)), (2, .ref (b + a2)), (3, .int v3), (4, .int v4)] []) : ∀ (v3 : Int32) (v4 : Int32) (g : sv_Mg), wp_X6_differenceWith_70 F a2 Q K24 v3 v4 g → sv_AW x (sv_Q x (sv_qI F Q) 0 0) F g 0 0 70 [(0, .ref (b + 0)), (2, .ref (b + a2)), (3, .int v3), (4, .int v4)] [] := by
  intro v3 v4 g h
  unfold wp_X6_differenceWith_70 at h
  obtain ⟨v4_1, ev4_1⟩ : ∃ y : Int32, y = v4 + 1 := ⟨_, rfl⟩
  have h := h v4_1 ev4_1
  refine sv_iinc (pc := 70) G dX6_differenceWith_70 3 v4_1 [(4, .int v4_1), (0, .ref (b + 0)), (2, .ref (b + a2)), (3, .int v3)] (by rw [ev4_1, ic_1]) rfl (by decide) rfl ?_
  refine sv_goto (pc := 73) G dX6_differenceWith_73 24 (by decide) ?_
  refine sv_locs [1, 2, 3, 0] [(0, .ref (b + 0)), (2, .ref (b + a2)), (3, .int v3), (4, .int v4_1)] rfl ?_
  exact hK24 v3 v4_1 g  h
set_option maxRecDepth 100000 in
set_option maxHeartbeats 4000000 in
theorem aw_X6_differenceWith_24 {x : sv_X} {b : Nat} {xt : sv_Xt} {F : sv_Fr} {a2 : Nat} {Q : Int32 → sv_Mg → Prop} (G : sv_G x b xt RX6 cX6_differenceWith 5) (RR : sv_R x 6 143 0 0) (T : sv_RT x (some .int)) (hL : sv_Lay F) (ha2 : sv_isS a2) : ∀ (n : Nat) (v3 : Int32) (v4 : Int32) (g : sv_Mg), wp_X6_differenceWith_24 F a2 Q  n v3 v4 g → sv_AW x (sv_Q x (sv_qI F Q) 0 0) F g 0 0 24 [(0, .ref (b + 0)), (2, .ref (b + a2)), (3, .int v3), (4, .int v4)] [] := by
  intro n
  induction n with
  | zero => intro v3 v4 g h; exact h.elim
  | succ n ih =>
    intro v3 v4 g h
    rw [wp_X6_differenceWith_24] at h
    refine sv_iload (pc := 24) G dX6_differenceWith_24 3 rfl ?_
    refine sv_aload_n (pc := 26) G dX6_differenceWith_26 1 rfl ?_
    refine sv_getI (pc := 27) G fw_X6_268 (hL.sS ha2) rfl dX6_differenceWith_27 ?_
    refine sv_ic_ge (pc := 30) G 76 (by decide) dX6_differenceWith_30 (fun c_2 => ?_) (fun c_2 => ?_)
    · have h := h.1 c_2
      refine sv_iload_n (pc := 76) G dX6_differenceWith_76 2 rfl ?_
      exact sv_ireturn (pc := 77) G T ⟨(Nat.le_of_ble_eq_true rfl), (Nat.le_of_ble_eq_true rfl)⟩ dX6_differenceWith_77 ⟨_, rfl, rfl, h⟩
    · have h := h.2 c_2
      refine sv_aload_n (pc := 33) G dX6_differenceWith_33 0 rfl ?_
      refine sv_getR (pc := 34) G fw_X6_35 (hL.sh rfl) rfl (hL.rf 4 rfl) dX6_differenceWith_34 ?_
      refine sv_callV (cs := 0) (sl := 0) (st := []) (As := []) (a := 23) (pc := 37) G RR (c_X0_round hL sv_C23 h) mw_X0_round lk_X6_198 (hL.sh rfl) (by decide) rfl rfl ⟨(Nat.le_of_ble_eq_true rfl), (Nat.le_of_ble_eq_true rfl)⟩ ⟨(Nat.le_of_ble_eq_true rfl), (Nat.le_of_ble_eq_true rfl)⟩ (Nat.le_of_ble_eq_true rfl) rfl dX6_differenceWith_37 (sv_kV (fun g_3 h => ?_))
      refine sv_aload_n (pc := 40) G dX6_differenceWith_40 1 rfl ?_
      refine sv_iload (pc := 41) G dX6_differenceWith_41 3 rfl ?_
      refine sv_callV (cs := 0) (sl := 0) (st := []) (As := [.int v4]) (a := a2) (pc := 43) G RR (c_X4_isNumber hL ha2 h) mw_X4_isNumber lk_X6_271 (hL.sS ha2) (by decide) rfl rfl ⟨(Nat.le_of_ble_eq_true rfl), (Nat.le_of_ble_eq_true rfl)⟩ ⟨(Nat.le_of_ble_eq_true rfl), (Nat.le_of_ble_eq_true rfl)⟩ (Nat.le_of_ble_eq_true rfl) rfl dX6_differenceWith_43 (sv_kI (fun r_5 g_4 h => ?_))
      refine sv_if_eq (pc := 46) G 70 (by decide) dX6_differenceWith_46 (fun c_6 => ?_) (fun c_6 => ?_)
      · have h := h.1 c_6
        refine sv_locs [0, 1, 2, 3] [(0, .ref (b + 0)), (2, .ref (b + a2)), (3, .int v3), (4, .int v4)] rfl ?_
        exact aw_X6_differenceWith_70 G RR T hL ha2 ih v3 v4 g_4  h
      · have h := h.2 c_6
        refine sv_iload_n (pc := 49) G dX6_differenceWith_49 2 rfl ?_
        refine sv_aload_n (pc := 50) G dX6_differenceWith_50 0 rfl ?_
        refine sv_getR (pc := 51) G fw_X6_35 (hL.sh rfl) rfl (hL.rf 4 rfl) dX6_differenceWith_51 ?_
        refine sv_getI (pc := 54) G fw_X6_175 (hL.sh rfl) rfl dX6_differenceWith_54 ?_
        refine sv_aload_n (pc := 57) G dX6_differenceWith_57 1 rfl ?_
        refine sv_getR (pc := 58) G fw_X6_263 (hL.sS ha2) rfl (hL.sR ha2) dX6_differenceWith_58 ?_
        refine sv_iload (pc := 61) G dX6_differenceWith_61 3 rfl ?_
        obtain ⟨s_7, h⟩ := h
        refine sv_ialdK (pc := 63) G (hL.sA ha2) s_7 v4.toNatClampNeg rfl dX6_differenceWith_63 ?_
        refine sv_isub (pc := 64) G dX6_differenceWith_64 ?_
        refine sv_abs (pc := 65) G RR lk_X6_312 wd_abs1 wd_math wd_abs2 (Nat.le_of_ble_eq_true rfl) (Nat.le_of_ble_eq_true rfl) (Nat.le_of_ble_eq_true rfl) ⟨(Nat.le_of_ble_eq_true rfl), (Nat.le_of_ble_eq_true rfl)⟩ dX6_differenceWith_65 ?_
        refine sv_iadd (pc := 68) G dX6_differenceWith_68 ?_
        refine sv_topi (fun v3_8 ev3_8 => ?_)
        have h := h v3_8 ev3_8
        refine sv_istore_n (pc := 69) G dX6_differenceWith_69 [(3, .int v3_8), (0, .ref (b + 0)), (2, .ref (b + a2)), (4, .int v4)] (by decide) rfl ?_
        refine sv_locs [1, 2, 0, 3] [(0, .ref (b + 0)), (2, .ref (b + a2)), (3, .int v3_8), (4, .int v4)] rfl ?_
        exact aw_X6_differenceWith_70 G RR T hL ha2 ih v3_8 v4 g_4  h
set_option maxRecDepth 100000 in
set_option maxHeartbeats 4000000 in
theorem c_X6_differenceWith {b : Nat} {xt : sv_Xt} {F : sv_Fr} {a2 : Nat} {v1 : Int32} {g : sv_Mg} {Q : Int32 → sv_Mg → Prop} (hL : sv_Lay F) (ha2 : sv_isS a2) (h : wp_X6_differenceWith F a2 v1 g Q) : sv_Cal yX6_differenceWith cX6_differenceWith 5 (some .int) 6 143 0 0 b xt [.ref (b + 0), .int v1, .ref (b + a2)] F g (sv_qI F Q) := by
  refine sv_intro mw_X6_differenceWith [(0, .ref (b + 0)), (1, .int v1), (2, .ref (b + a2))] rfl (Nat.le_of_ble_eq_true rfl) (fun x G RR T NM => ?_)
  have G : sv_G x b xt RX6 cX6_differenceWith 5 := G
  unfold wp_X6_differenceWith at h
  refine sv_aload_n (pc := 0) G dX6_differenceWith_0 0 rfl ?_
  refine sv_getR (pc := 1) G fw_X6_35 (hL.sh rfl) rfl (hL.rf 4 rfl) dX6_differenceWith_1 ?_
  refine sv_aload_n (pc := 4) G dX6_differenceWith_4 0 rfl ?_
  refine sv_getR (pc := 5) G fw_X6_28 (hL.sh rfl) rfl (hL.rf 2 rfl) dX6_differenceWith_5 ?_
  refine sv_callV (cs := 0) (sl := 0) (st := []) (As := [.ref (b + 7)]) (a := 23) (pc := 8) G RR (c_X0_become hL sv_C23 sv_C7 h) mw_X0_become lk_X6_194 (hL.sh rfl) (by decide) rfl rfl ⟨(Nat.le_of_ble_eq_true rfl), (Nat.le_of_ble_eq_true rfl)⟩ ⟨(Nat.le_of_ble_eq_true rfl), (Nat.le_of_ble_eq_true rfl)⟩ (Nat.le_of_ble_eq_true rfl) rfl dX6_differenceWith_8 (sv_kV (fun g_9 h => ?_))
  refine sv_aload_n (pc := 11) G dX6_differenceWith_11 0 rfl ?_
  refine sv_getR (pc := 12) G fw_X6_35 (hL.sh rfl) rfl (hL.rf 4 rfl) dX6_differenceWith_12 ?_
  refine sv_iload_n (pc := 15) G dX6_differenceWith_15 1 rfl ?_
  refine sv_putI (pc := 16) G fw_X6_142 (hL.sh rfl) rfl dX6_differenceWith_16 (fun g_10 eg_10 => ?_)
  have h := h g_10 eg_10
  refine sv_iconst (pc := 19) G dX6_differenceWith_19 0 ic_0 ?_
  refine sv_istore_n (pc := 20) G dX6_differenceWith_20 [(3, .int 0), (0, .ref (b + 0)), (1, .int v1), (2, .ref (b + a2))] (by decide) rfl ?_
  refine sv_iconst (pc := 21) G dX6_differenceWith_21 0 ic_0 ?_
  refine sv_istore (pc := 22) G dX6_differenceWith_22 [(4, .int 0), (3, .int 0), (0, .ref (b + 0)), (1, .int v1), (2, .ref (b + a2))] (by decide) rfl ?_
  refine sv_locs [2, 4, 1, 0] [(0, .ref (b + 0)), (2, .ref (b + a2)), (3, .int 0), (4, .int 0)] rfl ?_
  obtain ⟨n_11, h⟩ := h
  exact aw_X6_differenceWith_24 G RR T hL ha2  n_11 0 0 g_10  h
def wp_X6_isSheet (F : sv_Fr) (v0 : Int32) (g : sv_Mg) (Q : Int32 → sv_Mg → Prop) : Prop := wp_X6_isWithin F v0 0 3 g (fun r_2 g_1 => (r_2 = 0 ∨ r_2 = 1) ∧ Q r_2 g_1)
set_option maxRecDepth 100000 in
set_option maxHeartbeats 4000000 in
theorem c_X6_isSheet {b : Nat} {xt : sv_Xt} {F : sv_Fr} {v0 : Int32} {g : sv_Mg} {Q : Int32 → sv_Mg → Prop} (hL : sv_Lay F) (h : wp_X6_isSheet F v0 g Q) : sv_Cal yX6_isSheet cX6_isSheet 1 (some .boolean) 1 22 0 0 b xt [.int v0] F g (sv_qI F Q) := by
  refine sv_intro mw_X6_isSheet [(0, .int v0)] rfl (Nat.le_of_ble_eq_true rfl) (fun x G RR T NM => ?_)
  have G : sv_G x b xt RX6 cX6_isSheet 1 := G
  unfold wp_X6_isSheet at h
  refine sv_iload_n (pc := 0) G dX6_isSheet_0 0 rfl ?_
  refine sv_iconst (pc := 1) G dX6_isSheet_1 0 ic_0 ?_
  refine sv_iconst (pc := 2) G dX6_isSheet_2 3 ic_3 ?_
  refine sv_callS (cs := 0) (sl := 0) (st := []) (As := [.int v0, .int 0, .int 3]) (pc := 3) G RR (c_X6_isWithin hL  h) mw_X6_isWithin lk_X6_67 rfl ⟨(Nat.le_of_ble_eq_true rfl), (Nat.le_of_ble_eq_true rfl)⟩ ⟨(Nat.le_of_ble_eq_true rfl), (Nat.le_of_ble_eq_true rfl)⟩ (Nat.le_of_ble_eq_true rfl) rfl dX6_isSheet_3 (sv_kI (fun r_2 g_1 h => ?_))
  obtain ⟨s_3, h⟩ := h
  exact sv_zreturn (pc := 6) G T s_3 ⟨(Nat.le_of_ble_eq_true rfl), (Nat.le_of_ble_eq_true rfl)⟩ dX6_isSheet_6 ⟨_, rfl, rfl, h⟩
def wp_X6_fits_81 (F : sv_Fr) (Q : Int32 → sv_Mg → Prop) (K50 : Int32 → Nat → Int32 → Int32 → Int32 → sv_Mg → Prop) (v2 : Int32) (r3 : Nat) (v4 : Int32) (v5 : Int32) (v6 : Int32) (g : sv_Mg) : Prop := ∀ v6_1 : Int32, v6_1 = v6 + 1 → K50 v2 r3 v4 v5 v6_1 g
def wp_X6_fits_50 (F : sv_Fr) (Q : Int32 → sv_Mg → Prop) : Nat → Int32 → Nat → Int32 → Int32 → Int32 → sv_Mg → Prop
  | 0, _, _, _, _, _, _ => False
  | n + 1, v2, r3, v4, v5, v6, g => ((20 < v6 → ((v2 = 0 → Q v4 g) ∧ (¬ v2 = 0 → Q v5 g))) ∧ (¬ 20 < v6 → wp_X6_differenceWith F r3 v6 g (fun r_5 g_4 => ((v5 ≤ r_5 → wp_X6_fits_81 F  Q (wp_X6_fits_50 F Q  n) v2 r3 v4 v5 v6 g_4) ∧ (¬ v5 ≤ r_5 → wp_X6_fits_81 F  Q (wp_X6_fits_50 F Q  n) v2 r3 v6 r_5 v6 g_4)))))
def wp_X6_fits (F : sv_Fr) (v1 : Int32) (v2 : Int32) (g : sv_Mg) (Q : Int32 → sv_Mg → Prop) : Prop := wp_X6_isSheet F v1 g (fun r_8 g_7 => ((r_8 = 0 → Q (-1000000001) g_7) ∧ (¬ r_8 = 0 → wp_X6_isWithin F v2 0 1 g_7 (fun r_11 g_10 => ((r_11 = 0 → Q (-1000000001) g_10) ∧ (¬ r_11 = 0 → vp_in v1 4 ∧ wp_X4_isMissing F (32 + 2 * v1.toNatClampNeg) g_10 (fun r_15 g_14 => ((r_15 = 0 → wp_X6_differenceWith F (32 + 2 * v1.toNatClampNeg) 1 g_14 (fun r_18 g_17 => ∃ n_19, wp_X6_fits_50 F  Q  n_19 v2 (32 + 2 * v1.toNatClampNeg) 1 r_18 2 g_17)) ∧ (¬ r_15 = 0 → Q (-1000000011) g_14)))))))))
set_option maxRecDepth 100000 in
set_option maxHeartbeats 4000000 in
theorem aw_X6_fits_81 {x : sv_X} {b : Nat} {xt : sv_Xt} {F : sv_Fr} {Q : Int32 → sv_Mg → Prop} (G : sv_G x b xt RX6 cX6_fits 8) (RR : sv_R x 7 167 0 0) (T : sv_RT x (some .int)) (hL : sv_Lay F) {K50 : Int32 → Nat → Int32 → Int32 → Int32 → sv_Mg → Prop} (hK50 : ∀ (v2 : Int32) (r3 : Nat) (v4 : Int32) (v5 : Int32) (v6 : Int32) (g : sv_Mg), (sv_isS r3) → K50 v2 r3 v4 v5 v6 g → sv_AW x (sv_Q x (sv_qI F Q) 0 0) F g 0 0 50 [(0, .ref (b + 0)), (2, .int v2), (3, .ref (b + r3)), (4, .int v4), (5, .int v5), (6, .int v6)] []) : ∀ (v2 : Int32) (r3 : Nat) (v4 : Int32) (v5 : Int32) (v6 : Int32) (g : sv_Mg), (sv_isS r3) → wp_X6_fits_81 F Q K50 v2 r3 v4 v5 v6 g → sv_AW x (sv_Q x (sv_qI F Q) 0 0) F g 0 0 81 [(0, .ref (b + 0)), (2, .int v2), (3, .ref (b + r3)), (4, .int v4), (5, .int v5), (6, .int v6)] [] := by
  intro v2 r3 v4 v5 v6 g hr3 h
  unfold wp_X6_fits_81 at h
  obtain ⟨v6_1, ev6_1⟩ : ∃ y : Int32, y = v6 + 1 := ⟨_, rfl⟩
  have h := h v6_1 ev6_1
  refine sv_iinc (pc := 81) G dX6_fits_81 5 v6_1 [(6, .int v6_1), (0, .ref (b + 0)), (2, .int v2), (3, .ref (b + r3)), (4, .int v4), (5, .int v5)] (by rw [ev6_1, ic_1]) rfl (by decide) rfl ?_
  refine sv_goto (pc := 84) G dX6_fits_84 50 (by decide) ?_
  refine sv_locs [1, 2, 3, 4, 5, 0] [(0, .ref (b + 0)), (2, .int v2), (3, .ref (b + r3)), (4, .int v4), (5, .int v5), (6, .int v6_1)] rfl ?_
  exact hK50 v2 r3 v4 v5 v6_1 g hr3 h
set_option maxRecDepth 100000 in
set_option maxHeartbeats 4000000 in
theorem aw_X6_fits_50 {x : sv_X} {b : Nat} {xt : sv_Xt} {F : sv_Fr} {Q : Int32 → sv_Mg → Prop} (G : sv_G x b xt RX6 cX6_fits 8) (RR : sv_R x 7 167 0 0) (T : sv_RT x (some .int)) (hL : sv_Lay F) : ∀ (n : Nat) (v2 : Int32) (r3 : Nat) (v4 : Int32) (v5 : Int32) (v6 : Int32) (g : sv_Mg), (sv_isS r3) → wp_X6_fits_50 F Q  n v2 r3 v4 v5 v6 g → sv_AW x (sv_Q x (sv_qI F Q) 0 0) F g 0 0 50 [(0, .ref (b + 0)), (2, .int v2), (3, .ref (b + r3)), (4, .int v4), (5, .int v5), (6, .int v6)] [] := by
  intro n
  induction n with
  | zero => intro v2 r3 v4 v5 v6 g hr3 h; exact h.elim
  | succ n ih =>
    intro v2 r3 v4 v5 v6 g hr3 h
    rw [wp_X6_fits_50] at h
    refine sv_iload (pc := 50) G dX6_fits_50 5 rfl ?_
    refine sv_bipush (pc := 52) G dX6_fits_52 20 bp_20 ?_
    refine sv_ic_gt (pc := 54) G 87 (by decide) dX6_fits_54 (fun c_2 => ?_) (fun c_2 => ?_)
    · have h := h.1 c_2
      refine sv_iload_n (pc := 87) G dX6_fits_87 1 rfl ?_
      refine sv_if_ne (pc := 88) G 96 (by decide) dX6_fits_88 (fun c_3 => ?_) (fun c_3 => ?_)
      · have h := h.2 c_3
        refine sv_iload (pc := 96) G dX6_fits_96 4 rfl ?_
        exact sv_ireturn (pc := 98) G T ⟨(Nat.le_of_ble_eq_true rfl), (Nat.le_of_ble_eq_true rfl)⟩ dX6_fits_98 ⟨_, rfl, rfl, h⟩
      · have h := h.1 c_3
        refine sv_iload (pc := 91) G dX6_fits_91 3 rfl ?_
        refine sv_goto (pc := 93) G dX6_fits_93 98 (by decide) ?_
        exact sv_ireturn (pc := 98) G T ⟨(Nat.le_of_ble_eq_true rfl), (Nat.le_of_ble_eq_true rfl)⟩ dX6_fits_98 ⟨_, rfl, rfl, h⟩
    · have h := h.2 c_2
      refine sv_aload_n (pc := 57) G dX6_fits_57 0 rfl ?_
      refine sv_iload (pc := 58) G dX6_fits_58 5 rfl ?_
      refine sv_aload_n (pc := 60) G dX6_fits_60 2 rfl ?_
      refine sv_callV (cs := 0) (sl := 0) (st := []) (As := [.int v6, .ref (b + r3)]) (a := 0) (pc := 61) G RR (c_X6_differenceWith hL hr3 h) mw_X6_differenceWith lk_X6_212 (hL.sh rfl) (by decide) rfl rfl ⟨(Nat.le_of_ble_eq_true rfl), (Nat.le_of_ble_eq_true rfl)⟩ ⟨(Nat.le_of_ble_eq_true rfl), (Nat.le_of_ble_eq_true rfl)⟩ (Nat.le_of_ble_eq_true rfl) rfl dX6_fits_61 (sv_kI (fun r_5 g_4 h => ?_))
      refine sv_istore (pc := 64) G dX6_fits_64 [(7, .int r_5), (0, .ref (b + 0)), (2, .int v2), (3, .ref (b + r3)), (4, .int v4), (5, .int v5), (6, .int v6)] (by decide) rfl ?_
      refine sv_iload (pc := 66) G dX6_fits_66 0 rfl ?_
      refine sv_iload (pc := 68) G dX6_fits_68 5 rfl ?_
      refine sv_ic_ge (pc := 70) G 81 (by decide) dX6_fits_70 (fun c_6 => ?_) (fun c_6 => ?_)
      · have h := h.1 c_6
        refine sv_locs [1, 2, 3, 4, 5, 6] [(0, .ref (b + 0)), (2, .int v2), (3, .ref (b + r3)), (4, .int v4), (5, .int v5), (6, .int v6)] rfl ?_
        exact aw_X6_fits_81 G RR T hL  ih v2 r3 v4 v5 v6 g_4 hr3 h
      · have h := h.2 c_6
        refine sv_iload (pc := 73) G dX6_fits_73 6 rfl ?_
        refine sv_istore (pc := 75) G dX6_fits_75 [(4, .int v6), (7, .int r_5), (0, .ref (b + 0)), (2, .int v2), (3, .ref (b + r3)), (5, .int v5), (6, .int v6)] (by decide) rfl ?_
        refine sv_iload (pc := 77) G dX6_fits_77 1 rfl ?_
        refine sv_istore (pc := 79) G dX6_fits_79 [(5, .int r_5), (4, .int v6), (7, .int r_5), (0, .ref (b + 0)), (2, .int v2), (3, .ref (b + r3)), (6, .int v6)] (by decide) rfl ?_
        refine sv_locs [3, 4, 5, 1, 0, 6] [(0, .ref (b + 0)), (2, .int v2), (3, .ref (b + r3)), (4, .int v6), (5, .int r_5), (6, .int v6)] rfl ?_
        exact aw_X6_fits_81 G RR T hL  ih v2 r3 v6 r_5 v6 g_4 hr3 h
set_option maxRecDepth 100000 in
set_option maxHeartbeats 4000000 in
theorem c_X6_fits {b : Nat} {xt : sv_Xt} {F : sv_Fr} {v1 : Int32} {v2 : Int32} {g : sv_Mg} {Q : Int32 → sv_Mg → Prop} (hL : sv_Lay F) (h : wp_X6_fits F v1 v2 g Q) : sv_Cal yX6_fits cX6_fits 8 (some .int) 7 167 0 0 b xt [.ref (b + 0), .int v1, .int v2] F g (sv_qI F Q) := by
  refine sv_intro mw_X6_fits [(0, .ref (b + 0)), (1, .int v1), (2, .int v2)] rfl (Nat.le_of_ble_eq_true rfl) (fun x G RR T NM => ?_)
  have G : sv_G x b xt RX6 cX6_fits 8 := G
  unfold wp_X6_fits at h
  refine sv_iload_n (pc := 0) G dX6_fits_0 1 rfl ?_
  refine sv_callS (cs := 0) (sl := 0) (st := []) (As := [.int v1]) (pc := 1) G RR (c_X6_isSheet hL  h) mw_X6_isSheet lk_X6_204 rfl ⟨(Nat.le_of_ble_eq_true rfl), (Nat.le_of_ble_eq_true rfl)⟩ ⟨(Nat.le_of_ble_eq_true rfl), (Nat.le_of_ble_eq_true rfl)⟩ (Nat.le_of_ble_eq_true rfl) rfl dX6_fits_1 (sv_kI (fun r_8 g_7 h => ?_))
  refine sv_if_eq (pc := 4) G 16 (by decide) dX6_fits_4 (fun c_9 => ?_) (fun c_9 => ?_)
  · have h := h.1 c_9
    refine sv_ldc (pc := 16) G dX6_fits_16 cn_X6_71 ?_
    exact sv_ireturn (pc := 18) G T ⟨(Nat.le_of_ble_eq_true rfl), (Nat.le_of_ble_eq_true rfl)⟩ dX6_fits_18 ⟨_, rfl, rfl, h⟩
  · have h := h.2 c_9
    refine sv_iload_n (pc := 7) G dX6_fits_7 2 rfl ?_
    refine sv_iconst (pc := 8) G dX6_fits_8 0 ic_0 ?_
    refine sv_iconst (pc := 9) G dX6_fits_9 1 ic_1 ?_
    refine sv_callS (cs := 0) (sl := 0) (st := []) (As := [.int v2, .int 0, .int 1]) (pc := 10) G RR (c_X6_isWithin hL  h) mw_X6_isWithin lk_X6_67 rfl ⟨(Nat.le_of_ble_eq_true rfl), (Nat.le_of_ble_eq_true rfl)⟩ ⟨(Nat.le_of_ble_eq_true rfl), (Nat.le_of_ble_eq_true rfl)⟩ (Nat.le_of_ble_eq_true rfl) rfl dX6_fits_10 (sv_kI (fun r_11 g_10 h => ?_))
    refine sv_if_ne (pc := 13) G 19 (by decide) dX6_fits_13 (fun c_12 => ?_) (fun c_12 => ?_)
    · have h := h.2 c_12
      refine sv_aload_n (pc := 19) G dX6_fits_19 0 rfl ?_
      refine sv_getR (pc := 20) G fw_X6_40 (hL.sh rfl) rfl (hL.rf 5 rfl) dX6_fits_20 ?_
      refine sv_iload_n (pc := 23) G dX6_fits_23 1 rfl ?_
      obtain ⟨s_13, h⟩ := h
      refine sv_aaldR (pc := 24) G 4 (fun _ => rfl) (by decide) (hL.sh rfl) s_13 (hL.qS s_13) dX6_fits_24 ?_
      refine sv_astore_n (pc := 25) G dX6_fits_25 [(3, .ref (b + (32 + 2 * v1.toNatClampNeg))), (0, .ref (b + 0)), (1, .int v1), (2, .int v2)] (by decide) rfl ?_
      refine sv_aload_n (pc := 26) G dX6_fits_26 0 rfl ?_
      refine sv_callV (cs := 0) (sl := 0) (st := []) (As := []) (a := (32 + 2 * v1.toNatClampNeg)) (pc := 27) G RR (c_X4_isMissing hL (sv_qS_is s_13) h) mw_X4_isMissing lk_X6_207 (hL.sS (sv_qS_is s_13)) (by decide) rfl rfl ⟨(Nat.le_of_ble_eq_true rfl), (Nat.le_of_ble_eq_true rfl)⟩ ⟨(Nat.le_of_ble_eq_true rfl), (Nat.le_of_ble_eq_true rfl)⟩ (Nat.le_of_ble_eq_true rfl) rfl dX6_fits_27 (sv_kI (fun r_15 g_14 h => ?_))
      refine sv_if_eq (pc := 30) G 36 (by decide) dX6_fits_30 (fun c_16 => ?_) (fun c_16 => ?_)
      · have h := h.1 c_16
        refine sv_iconst (pc := 36) G dX6_fits_36 1 ic_1 ?_
        refine sv_istore (pc := 37) G dX6_fits_37 [(4, .int 1), (3, .ref (b + (32 + 2 * v1.toNatClampNeg))), (0, .ref (b + 0)), (1, .int v1), (2, .int v2)] (by decide) rfl ?_
        refine sv_aload_n (pc := 39) G dX6_fits_39 2 rfl ?_
        refine sv_iconst (pc := 40) G dX6_fits_40 1 ic_1 ?_
        refine sv_aload_n (pc := 41) G dX6_fits_41 1 rfl ?_
        refine sv_callV (cs := 0) (sl := 0) (st := []) (As := [.int 1, .ref (b + (32 + 2 * v1.toNatClampNeg))]) (a := 0) (pc := 42) G RR (c_X6_differenceWith hL (sv_qS_is s_13) h) mw_X6_differenceWith lk_X6_212 (hL.sh rfl) (by decide) rfl rfl ⟨(Nat.le_of_ble_eq_true rfl), (Nat.le_of_ble_eq_true rfl)⟩ ⟨(Nat.le_of_ble_eq_true rfl), (Nat.le_of_ble_eq_true rfl)⟩ (Nat.le_of_ble_eq_true rfl) rfl dX6_fits_42 (sv_kI (fun r_18 g_17 h => ?_))
        refine sv_istore (pc := 45) G dX6_fits_45 [(5, .int r_18), (4, .int 1), (3, .ref (b + (32 + 2 * v1.toNatClampNeg))), (0, .ref (b + 0)), (1, .int v1), (2, .int v2)] (by decide) rfl ?_
        refine sv_iconst (pc := 47) G dX6_fits_47 2 ic_2 ?_
        refine sv_istore (pc := 48) G dX6_fits_48 [(6, .int 2), (5, .int r_18), (4, .int 1), (3, .ref (b + (32 + 2 * v1.toNatClampNeg))), (0, .ref (b + 0)), (1, .int v1), (2, .int v2)] (by decide) rfl ?_
        refine sv_locs [4, 6, 3, 2, 1, 0] [(0, .ref (b + 0)), (2, .int v2), (3, .ref (b + (32 + 2 * v1.toNatClampNeg))), (4, .int 1), (5, .int r_18), (6, .int 2)] rfl ?_
        obtain ⟨n_19, h⟩ := h
        exact aw_X6_fits_50 G RR T hL   n_19 v2 (32 + 2 * v1.toNatClampNeg) 1 r_18 2 g_17 (sv_qS_is s_13) h
      · have h := h.2 c_16
        refine sv_ldc (pc := 33) G dX6_fits_33 cn_X6_211 ?_
        exact sv_ireturn (pc := 35) G T ⟨(Nat.le_of_ble_eq_true rfl), (Nat.le_of_ble_eq_true rfl)⟩ dX6_fits_35 ⟨_, rfl, rfl, h⟩
    · have h := h.1 c_12
      refine sv_ldc (pc := 16) G dX6_fits_16 cn_X6_71 ?_
      exact sv_ireturn (pc := 18) G T ⟨(Nat.le_of_ble_eq_true rfl), (Nat.le_of_ble_eq_true rfl)⟩ dX6_fits_18 ⟨_, rfl, rfl, h⟩
def wp_X6_fee (F : sv_Fr) (g : sv_Mg) (Q : Int32 → sv_Mg → Prop) : Prop := wp_X2_latest F 1 (g 7 18) g (fun r_2 g_1 => ((0 ≤ r_2 → wp_X2_value F r_2 (g_1 7 14) (g_1 7 12) 0 g_1 (fun r_5 g_4 => Q r_5 g_4)) ∧ (¬ 0 ≤ r_2 → Q (g_1 7 14) g_1)))
set_option maxRecDepth 100000 in
set_option maxHeartbeats 4000000 in
theorem c_X6_fee {b : Nat} {xt : sv_Xt} {F : sv_Fr} {g : sv_Mg} {Q : Int32 → sv_Mg → Prop} (hL : sv_Lay F) (h : wp_X6_fee F g Q) : sv_Cal yX6_fee cX6_fee 2 (some .int) 3 70 0 0 b xt [.ref (b + 0)] F g (sv_qI F Q) := by
  refine sv_intro mw_X6_fee [(0, .ref (b + 0))] rfl (Nat.le_of_ble_eq_true rfl) (fun x G RR T NM => ?_)
  have G : sv_G x b xt RX6 cX6_fee 2 := G
  unfold wp_X6_fee at h
  refine sv_aload_n (pc := 0) G dX6_fee_0 0 rfl ?_
  refine sv_getR (pc := 1) G fw_X6_10 (hL.sh rfl) rfl (hL.rf 0 rfl) dX6_fee_1 ?_
  refine sv_iconst (pc := 4) G dX6_fee_4 1 ic_1 ?_
  refine sv_aload_n (pc := 5) G dX6_fee_5 0 rfl ?_
  refine sv_getR (pc := 6) G fw_X6_28 (hL.sh rfl) rfl (hL.rf 2 rfl) dX6_fee_6 ?_
  refine sv_getI (pc := 9) G fw_X6_216 (hL.sh rfl) rfl dX6_fee_9 ?_
  refine sv_callV (cs := 0) (sl := 0) (st := []) (As := [.int 1, .int (g 7 18)]) (a := 1) (pc := 12) G RR (c_X2_latest hL  h) mw_X2_latest lk_X6_219 (hL.sh rfl) (by decide) rfl rfl ⟨(Nat.le_of_ble_eq_true rfl), (Nat.le_of_ble_eq_true rfl)⟩ ⟨(Nat.le_of_ble_eq_true rfl), (Nat.le_of_ble_eq_true rfl)⟩ (Nat.le_of_ble_eq_true rfl) rfl dX6_fee_12 (sv_kI (fun r_2 g_1 h => ?_))
  refine sv_istore_n (pc := 15) G dX6_fee_15 [(1, .int r_2), (0, .ref (b + 0))] (by decide) rfl ?_
  refine sv_iload_n (pc := 16) G dX6_fee_16 0 rfl ?_
  refine sv_if_ge (pc := 17) G 30 (by decide) dX6_fee_17 (fun c_3 => ?_) (fun c_3 => ?_)
  · have h := h.1 c_3
    refine sv_aload_n (pc := 30) G dX6_fee_30 1 rfl ?_
    refine sv_getR (pc := 31) G fw_X6_10 (hL.sh rfl) rfl (hL.rf 0 rfl) dX6_fee_31 ?_
    refine sv_iload_n (pc := 34) G dX6_fee_34 0 rfl ?_
    refine sv_aload_n (pc := 35) G dX6_fee_35 1 rfl ?_
    refine sv_getR (pc := 36) G fw_X6_28 (hL.sh rfl) rfl (hL.rf 2 rfl) dX6_fee_36 ?_
    refine sv_getI (pc := 39) G fw_X6_145 (hL.sh rfl) rfl dX6_fee_39 ?_
    refine sv_aload_n (pc := 42) G dX6_fee_42 1 rfl ?_
    refine sv_getR (pc := 43) G fw_X6_28 (hL.sh rfl) rfl (hL.rf 2 rfl) dX6_fee_43 ?_
    refine sv_getI (pc := 46) G fw_X6_178 (hL.sh rfl) rfl dX6_fee_46 ?_
    refine sv_iconst (pc := 49) G dX6_fee_49 0 ic_0 ?_
    refine sv_callV (cs := 0) (sl := 0) (st := []) (As := [.int r_2, .int (g_1 7 14), .int (g_1 7 12), .int 0]) (a := 1) (pc := 50) G RR (c_X2_value hL  h) mw_X2_value lk_X6_222 (hL.sh rfl) (by decide) rfl rfl ⟨(Nat.le_of_ble_eq_true rfl), (Nat.le_of_ble_eq_true rfl)⟩ ⟨(Nat.le_of_ble_eq_true rfl), (Nat.le_of_ble_eq_true rfl)⟩ (Nat.le_of_ble_eq_true rfl) rfl dX6_fee_50 (sv_kI (fun r_5 g_4 h => ?_))
    exact sv_ireturn (pc := 53) G T ⟨(Nat.le_of_ble_eq_true rfl), (Nat.le_of_ble_eq_true rfl)⟩ dX6_fee_53 ⟨_, rfl, rfl, h⟩
  · have h := h.2 c_3
    refine sv_aload_n (pc := 20) G dX6_fee_20 1 rfl ?_
    refine sv_getR (pc := 21) G fw_X6_28 (hL.sh rfl) rfl (hL.rf 2 rfl) dX6_fee_21 ?_
    refine sv_getI (pc := 24) G fw_X6_145 (hL.sh rfl) rfl dX6_fee_24 ?_
    refine sv_goto (pc := 27) G dX6_fee_27 53 (by decide) ?_
    exact sv_ireturn (pc := 53) G T ⟨(Nat.le_of_ble_eq_true rfl), (Nat.le_of_ble_eq_true rfl)⟩ dX6_fee_53 ⟨_, rfl, rfl, h⟩
def wp_X6_fine (F : sv_Fr) (v1 : Int32) (g : sv_Mg) (Q : Int32 → sv_Mg → Prop) : Prop := wp_X0_isVoter F 7 v1 g (fun r_2 g_1 => ((r_2 = 0 → Q (-1000000001) g_1) ∧ (¬ r_2 = 0 → vp_in v1 10 ∧ ∀ v2_5 : Int32, v2_5 = (g_1 12 v1.toNatClampNeg) → wp_X2_latest F 2 (g_1 7 18) g_1 (fun r_7 g_6 => ((0 ≤ r_7 → vp_in v1 10 ∧ wp_X2_value F r_7 (g_6 11 v1.toNatClampNeg) v2_5 0 g_6 (fun r_11 g_10 => Q r_11 g_10)) ∧ (¬ 0 ≤ r_7 → Q v2_5 g_6))))))
set_option maxRecDepth 100000 in
set_option maxHeartbeats 4000000 in
theorem c_X6_fine {b : Nat} {xt : sv_Xt} {F : sv_Fr} {v1 : Int32} {g : sv_Mg} {Q : Int32 → sv_Mg → Prop} (hL : sv_Lay F) (h : wp_X6_fine F v1 g Q) : sv_Cal yX6_fine cX6_fine 4 (some .int) 3 70 0 0 b xt [.ref (b + 0), .int v1] F g (sv_qI F Q) := by
  refine sv_intro mw_X6_fine [(0, .ref (b + 0)), (1, .int v1)] rfl (Nat.le_of_ble_eq_true rfl) (fun x G RR T NM => ?_)
  have G : sv_G x b xt RX6 cX6_fine 4 := G
  unfold wp_X6_fine at h
  refine sv_aload_n (pc := 0) G dX6_fine_0 0 rfl ?_
  refine sv_getR (pc := 1) G fw_X6_28 (hL.sh rfl) rfl (hL.rf 2 rfl) dX6_fine_1 ?_
  refine sv_iload_n (pc := 4) G dX6_fine_4 1 rfl ?_
  refine sv_callV (cs := 0) (sl := 0) (st := []) (As := [.int v1]) (a := 7) (pc := 5) G RR (c_X0_isVoter hL sv_C7 h) mw_X0_isVoter lk_X6_80 (hL.sh rfl) (by decide) rfl rfl ⟨(Nat.le_of_ble_eq_true rfl), (Nat.le_of_ble_eq_true rfl)⟩ ⟨(Nat.le_of_ble_eq_true rfl), (Nat.le_of_ble_eq_true rfl)⟩ (Nat.le_of_ble_eq_true rfl) rfl dX6_fine_5 (sv_kI (fun r_2 g_1 h => ?_))
  refine sv_if_ne (pc := 8) G 14 (by decide) dX6_fine_8 (fun c_3 => ?_) (fun c_3 => ?_)
  · have h := h.2 c_3
    refine sv_aload_n (pc := 14) G dX6_fine_14 0 rfl ?_
    refine sv_getR (pc := 15) G fw_X6_28 (hL.sh rfl) rfl (hL.rf 2 rfl) dX6_fine_15 ?_
    refine sv_getR (pc := 18) G fw_X6_96 (hL.sh rfl) rfl (hL.rf 18 rfl) dX6_fine_18 ?_
    refine sv_iload_n (pc := 21) G dX6_fine_21 1 rfl ?_
    obtain ⟨s_4, h⟩ := h
    refine sv_ialdK (pc := 22) G (hL.sh rfl) s_4 v1.toNatClampNeg rfl dX6_fine_22 ?_
    refine sv_topi (fun v2_5 ev2_5 => ?_)
    have h := h v2_5 ev2_5
    refine sv_istore_n (pc := 23) G dX6_fine_23 [(2, .int v2_5), (0, .ref (b + 0)), (1, .int v1)] (by decide) rfl ?_
    refine sv_aload_n (pc := 24) G dX6_fine_24 1 rfl ?_
    refine sv_getR (pc := 25) G fw_X6_10 (hL.sh rfl) rfl (hL.rf 0 rfl) dX6_fine_25 ?_
    refine sv_iconst (pc := 28) G dX6_fine_28 2 ic_2 ?_
    refine sv_aload_n (pc := 29) G dX6_fine_29 1 rfl ?_
    refine sv_getR (pc := 30) G fw_X6_28 (hL.sh rfl) rfl (hL.rf 2 rfl) dX6_fine_30 ?_
    refine sv_getI (pc := 33) G fw_X6_216 (hL.sh rfl) rfl dX6_fine_33 ?_
    refine sv_callV (cs := 0) (sl := 0) (st := []) (As := [.int 2, .int (g_1 7 18)]) (a := 1) (pc := 36) G RR (c_X2_latest hL  h) mw_X2_latest lk_X6_219 (hL.sh rfl) (by decide) rfl rfl ⟨(Nat.le_of_ble_eq_true rfl), (Nat.le_of_ble_eq_true rfl)⟩ ⟨(Nat.le_of_ble_eq_true rfl), (Nat.le_of_ble_eq_true rfl)⟩ (Nat.le_of_ble_eq_true rfl) rfl dX6_fine_36 (sv_kI (fun r_7 g_6 h => ?_))
    refine sv_istore_n (pc := 39) G dX6_fine_39 [(3, .int r_7), (2, .int v2_5), (0, .ref (b + 0)), (1, .int v1)] (by decide) rfl ?_
    refine sv_iload_n (pc := 40) G dX6_fine_40 0 rfl ?_
    refine sv_if_ge (pc := 41) G 48 (by decide) dX6_fine_41 (fun c_8 => ?_) (fun c_8 => ?_)
    · have h := h.1 c_8
      refine sv_aload_n (pc := 48) G dX6_fine_48 2 rfl ?_
      refine sv_getR (pc := 49) G fw_X6_10 (hL.sh rfl) rfl (hL.rf 0 rfl) dX6_fine_49 ?_
      refine sv_iload_n (pc := 52) G dX6_fine_52 0 rfl ?_
      refine sv_aload_n (pc := 53) G dX6_fine_53 2 rfl ?_
      refine sv_getR (pc := 54) G fw_X6_28 (hL.sh rfl) rfl (hL.rf 2 rfl) dX6_fine_54 ?_
      refine sv_getR (pc := 57) G fw_X6_93 (hL.sh rfl) rfl (hL.rf 17 rfl) dX6_fine_57 ?_
      refine sv_iload_n (pc := 60) G dX6_fine_60 3 rfl ?_
      obtain ⟨s_9, h⟩ := h
      refine sv_ialdK (pc := 61) G (hL.sh rfl) s_9 v1.toNatClampNeg rfl dX6_fine_61 ?_
      refine sv_iload_n (pc := 62) G dX6_fine_62 1 rfl ?_
      refine sv_iconst (pc := 63) G dX6_fine_63 0 ic_0 ?_
      refine sv_callV (cs := 0) (sl := 0) (st := []) (As := [.int r_7, .int (g_6 11 v1.toNatClampNeg), .int v2_5, .int 0]) (a := 1) (pc := 64) G RR (c_X2_value hL  h) mw_X2_value lk_X6_222 (hL.sh rfl) (by decide) rfl rfl ⟨(Nat.le_of_ble_eq_true rfl), (Nat.le_of_ble_eq_true rfl)⟩ ⟨(Nat.le_of_ble_eq_true rfl), (Nat.le_of_ble_eq_true rfl)⟩ (Nat.le_of_ble_eq_true rfl) rfl dX6_fine_64 (sv_kI (fun r_11 g_10 h => ?_))
      exact sv_ireturn (pc := 67) G T ⟨(Nat.le_of_ble_eq_true rfl), (Nat.le_of_ble_eq_true rfl)⟩ dX6_fine_67 ⟨_, rfl, rfl, h⟩
    · have h := h.2 c_8
      refine sv_iload_n (pc := 44) G dX6_fine_44 1 rfl ?_
      refine sv_goto (pc := 45) G dX6_fine_45 67 (by decide) ?_
      exact sv_ireturn (pc := 67) G T ⟨(Nat.le_of_ble_eq_true rfl), (Nat.le_of_ble_eq_true rfl)⟩ dX6_fine_67 ⟨_, rfl, rfl, h⟩
  · have h := h.1 c_3
    refine sv_ldc (pc := 11) G dX6_fine_11 cn_X6_71 ?_
    exact sv_ireturn (pc := 13) G T ⟨(Nat.le_of_ble_eq_true rfl), (Nat.le_of_ble_eq_true rfl)⟩ dX6_fine_13 ⟨_, rfl, rfl, h⟩
def wp_X6_feed (F : sv_Fr) (v1 : Int32) (v2 : Int32) (v3 : Int32) (g : sv_Mg) (Q : Int32 → sv_Mg → Prop) : Prop := ((((g 4 1) + 12) ≤ 96 → wp_X3_addFour F v1 g (fun g_2 => wp_X3_addFour F v2 g_2 (fun g_3 => wp_X3_addFour F v3 g_3 (fun g_4 => Q (g_4 4 1) g_4)))) ∧ (¬ ((g 4 1) + 12) ≤ 96 → Q (-1000000003) g))
set_option maxRecDepth 100000 in
set_option maxHeartbeats 4000000 in
theorem c_X6_feed {b : Nat} {xt : sv_Xt} {F : sv_Fr} {v1 : Int32} {v2 : Int32} {v3 : Int32} {g : sv_Mg} {Q : Int32 → sv_Mg → Prop} (hL : sv_Lay F) (h : wp_X6_feed F v1 v2 v3 g Q) : sv_Cal yX6_feed cX6_feed 4 (some .int) 1 22 0 0 b xt [.ref (b + 0), .int v1, .int v2, .int v3] F g (sv_qI F Q) := by
  refine sv_intro mw_X6_feed [(0, .ref (b + 0)), (1, .int v1), (2, .int v2), (3, .int v3)] rfl (Nat.le_of_ble_eq_true rfl) (fun x G RR T NM => ?_)
  have G : sv_G x b xt RX6 cX6_feed 4 := G
  unfold wp_X6_feed at h
  refine sv_aload_n (pc := 0) G dX6_feed_0 0 rfl ?_
  refine sv_getR (pc := 1) G fw_X6_19 (hL.sh rfl) rfl (hL.rf 1 rfl) dX6_feed_1 ?_
  refine sv_getI (pc := 4) G fw_X6_226 (hL.sh rfl) rfl dX6_feed_4 ?_
  refine sv_bipush (pc := 7) G dX6_feed_7 12 bp_12 ?_
  refine sv_iadd (pc := 9) G dX6_feed_9 ?_
  refine sv_bipush (pc := 10) G dX6_feed_10 96 bp_96 ?_
  refine sv_ic_le (pc := 12) G 18 (by decide) dX6_feed_12 (fun c_1 => ?_) (fun c_1 => ?_)
  · have h := h.1 c_1
    refine sv_aload_n (pc := 18) G dX6_feed_18 0 rfl ?_
    refine sv_getR (pc := 19) G fw_X6_19 (hL.sh rfl) rfl (hL.rf 1 rfl) dX6_feed_19 ?_
    refine sv_iload_n (pc := 22) G dX6_feed_22 1 rfl ?_
    refine sv_callV (cs := 0) (sl := 0) (st := []) (As := [.int v1]) (a := 4) (pc := 23) G RR (c_X3_addFour hL  h) mw_X3_addFour lk_X6_229 (hL.sh rfl) (by decide) rfl rfl ⟨(Nat.le_of_ble_eq_true rfl), (Nat.le_of_ble_eq_true rfl)⟩ ⟨(Nat.le_of_ble_eq_true rfl), (Nat.le_of_ble_eq_true rfl)⟩ (Nat.le_of_ble_eq_true rfl) rfl dX6_feed_23 (sv_kV (fun g_2 h => ?_))
    refine sv_aload_n (pc := 26) G dX6_feed_26 0 rfl ?_
    refine sv_getR (pc := 27) G fw_X6_19 (hL.sh rfl) rfl (hL.rf 1 rfl) dX6_feed_27 ?_
    refine sv_iload_n (pc := 30) G dX6_feed_30 2 rfl ?_
    refine sv_callV (cs := 0) (sl := 0) (st := []) (As := [.int v2]) (a := 4) (pc := 31) G RR (c_X3_addFour hL  h) mw_X3_addFour lk_X6_229 (hL.sh rfl) (by decide) rfl rfl ⟨(Nat.le_of_ble_eq_true rfl), (Nat.le_of_ble_eq_true rfl)⟩ ⟨(Nat.le_of_ble_eq_true rfl), (Nat.le_of_ble_eq_true rfl)⟩ (Nat.le_of_ble_eq_true rfl) rfl dX6_feed_31 (sv_kV (fun g_3 h => ?_))
    refine sv_aload_n (pc := 34) G dX6_feed_34 0 rfl ?_
    refine sv_getR (pc := 35) G fw_X6_19 (hL.sh rfl) rfl (hL.rf 1 rfl) dX6_feed_35 ?_
    refine sv_iload_n (pc := 38) G dX6_feed_38 3 rfl ?_
    refine sv_callV (cs := 0) (sl := 0) (st := []) (As := [.int v3]) (a := 4) (pc := 39) G RR (c_X3_addFour hL  h) mw_X3_addFour lk_X6_229 (hL.sh rfl) (by decide) rfl rfl ⟨(Nat.le_of_ble_eq_true rfl), (Nat.le_of_ble_eq_true rfl)⟩ ⟨(Nat.le_of_ble_eq_true rfl), (Nat.le_of_ble_eq_true rfl)⟩ (Nat.le_of_ble_eq_true rfl) rfl dX6_feed_39 (sv_kV (fun g_4 h => ?_))
    refine sv_aload_n (pc := 42) G dX6_feed_42 0 rfl ?_
    refine sv_getR (pc := 43) G fw_X6_19 (hL.sh rfl) rfl (hL.rf 1 rfl) dX6_feed_43 ?_
    refine sv_getI (pc := 46) G fw_X6_226 (hL.sh rfl) rfl dX6_feed_46 ?_
    exact sv_ireturn (pc := 49) G T ⟨(Nat.le_of_ble_eq_true rfl), (Nat.le_of_ble_eq_true rfl)⟩ dX6_feed_49 ⟨_, rfl, rfl, h⟩
  · have h := h.2 c_1
    refine sv_ldc (pc := 15) G dX6_feed_15 cn_X6_75 ?_
    exact sv_ireturn (pc := 17) G T ⟨(Nat.le_of_ble_eq_true rfl), (Nat.le_of_ble_eq_true rfl)⟩ dX6_feed_17 ⟨_, rfl, rfl, h⟩
def wp_X6_trim (F : sv_Fr) (v1 : Int32) (g : sv_Mg) (Q : Int32 → sv_Mg → Prop) : Prop := wp_X6_isWithin F v1 0 (g 4 1) g (fun r_2 g_1 => ((r_2 = 0 → Q (-1000000001) g_1) ∧ (¬ r_2 = 0 → ∀ g_4, g_4 = sv_st g_1 4 1 v1 → Q v1 g_4)))
set_option maxRecDepth 100000 in
set_option maxHeartbeats 4000000 in
theorem c_X6_trim {b : Nat} {xt : sv_Xt} {F : sv_Fr} {v1 : Int32} {g : sv_Mg} {Q : Int32 → sv_Mg → Prop} (hL : sv_Lay F) (h : wp_X6_trim F v1 g Q) : sv_Cal yX6_trim cX6_trim 2 (some .int) 1 22 0 0 b xt [.ref (b + 0), .int v1] F g (sv_qI F Q) := by
  refine sv_intro mw_X6_trim [(0, .ref (b + 0)), (1, .int v1)] rfl (Nat.le_of_ble_eq_true rfl) (fun x G RR T NM => ?_)
  have G : sv_G x b xt RX6 cX6_trim 2 := G
  unfold wp_X6_trim at h
  refine sv_iload_n (pc := 0) G dX6_trim_0 1 rfl ?_
  refine sv_iconst (pc := 1) G dX6_trim_1 0 ic_0 ?_
  refine sv_aload_n (pc := 2) G dX6_trim_2 0 rfl ?_
  refine sv_getR (pc := 3) G fw_X6_19 (hL.sh rfl) rfl (hL.rf 1 rfl) dX6_trim_3 ?_
  refine sv_getI (pc := 6) G fw_X6_226 (hL.sh rfl) rfl dX6_trim_6 ?_
  refine sv_callS (cs := 0) (sl := 0) (st := []) (As := [.int v1, .int 0, .int (g 4 1)]) (pc := 9) G RR (c_X6_isWithin hL  h) mw_X6_isWithin lk_X6_67 rfl ⟨(Nat.le_of_ble_eq_true rfl), (Nat.le_of_ble_eq_true rfl)⟩ ⟨(Nat.le_of_ble_eq_true rfl), (Nat.le_of_ble_eq_true rfl)⟩ (Nat.le_of_ble_eq_true rfl) rfl dX6_trim_9 (sv_kI (fun r_2 g_1 h => ?_))
  refine sv_if_ne (pc := 12) G 18 (by decide) dX6_trim_12 (fun c_3 => ?_) (fun c_3 => ?_)
  · have h := h.2 c_3
    refine sv_aload_n (pc := 18) G dX6_trim_18 0 rfl ?_
    refine sv_getR (pc := 19) G fw_X6_19 (hL.sh rfl) rfl (hL.rf 1 rfl) dX6_trim_19 ?_
    refine sv_iload_n (pc := 22) G dX6_trim_22 1 rfl ?_
    refine sv_putI (pc := 23) G fw_X6_226 (hL.sh rfl) rfl dX6_trim_23 (fun g_4 eg_4 => ?_)
    have h := h g_4 eg_4
    refine sv_iload_n (pc := 26) G dX6_trim_26 1 rfl ?_
    exact sv_ireturn (pc := 27) G T ⟨(Nat.le_of_ble_eq_true rfl), (Nat.le_of_ble_eq_true rfl)⟩ dX6_trim_27 ⟨_, rfl, rfl, h⟩
  · have h := h.1 c_3
    refine sv_ldc (pc := 15) G dX6_trim_15 cn_X6_71 ?_
    exact sv_ireturn (pc := 17) G T ⟨(Nat.le_of_ble_eq_true rfl), (Nat.le_of_ble_eq_true rfl)⟩ dX6_trim_17 ⟨_, rfl, rfl, h⟩
def wp_X6_textTold (F : sv_Fr) (v1 : Int32) (v2 : Int32) (g : sv_Mg) (Q : Int32 → sv_Mg → Prop) : Prop := wp_X6_isWithin F v1 0 ((g 7 18) - 1) g (fun r_2 g_1 => ((r_2 = 0 → Q (-1000000001) g_1) ∧ (¬ r_2 = 0 → wp_X6_isWithin F v2 0 1 g_1 (fun r_5 g_4 => ((r_5 = 0 → Q (-1000000001) g_4) ∧ (¬ r_5 = 0 → vp_in v1 14 ∧ ((F.2 2 v1.toNatClampNeg = none → Q (-1000000001) g_4) ∧ (∀ q_8, F.2 2 v1.toNatClampNeg = some q_8 → ((v2 = 0 → Q (g_4 q_8 0) g_4) ∧ (¬ v2 = 0 → Q (g_4 q_8 1) g_4))))))))))
set_option maxRecDepth 100000 in
set_option maxHeartbeats 4000000 in
theorem c_X6_textTold {b : Nat} {xt : sv_Xt} {F : sv_Fr} {v1 : Int32} {v2 : Int32} {g : sv_Mg} {Q : Int32 → sv_Mg → Prop} (hL : sv_Lay F) (h : wp_X6_textTold F v1 v2 g Q) : sv_Cal yX6_textTold cX6_textTold 4 (some .int) 1 22 0 0 b xt [.ref (b + 0), .int v1, .int v2] F g (sv_qI F Q) := by
  refine sv_intro mw_X6_textTold [(0, .ref (b + 0)), (1, .int v1), (2, .int v2)] rfl (Nat.le_of_ble_eq_true rfl) (fun x G RR T NM => ?_)
  have G : sv_G x b xt RX6 cX6_textTold 4 := G
  unfold wp_X6_textTold at h
  refine sv_iload_n (pc := 0) G dX6_textTold_0 1 rfl ?_
  refine sv_iconst (pc := 1) G dX6_textTold_1 0 ic_0 ?_
  refine sv_aload_n (pc := 2) G dX6_textTold_2 0 rfl ?_
  refine sv_getR (pc := 3) G fw_X6_28 (hL.sh rfl) rfl (hL.rf 2 rfl) dX6_textTold_3 ?_
  refine sv_getI (pc := 6) G fw_X6_216 (hL.sh rfl) rfl dX6_textTold_6 ?_
  refine sv_iconst (pc := 9) G dX6_textTold_9 1 ic_1 ?_
  refine sv_isub (pc := 10) G dX6_textTold_10 ?_
  refine sv_callS (cs := 0) (sl := 0) (st := []) (As := [.int v1, .int 0, .int ((g 7 18) - 1)]) (pc := 11) G RR (c_X6_isWithin hL  h) mw_X6_isWithin lk_X6_67 rfl ⟨(Nat.le_of_ble_eq_true rfl), (Nat.le_of_ble_eq_true rfl)⟩ ⟨(Nat.le_of_ble_eq_true rfl), (Nat.le_of_ble_eq_true rfl)⟩ (Nat.le_of_ble_eq_true rfl) rfl dX6_textTold_11 (sv_kI (fun r_2 g_1 h => ?_))
  refine sv_if_eq (pc := 14) G 26 (by decide) dX6_textTold_14 (fun c_3 => ?_) (fun c_3 => ?_)
  · have h := h.1 c_3
    refine sv_ldc (pc := 26) G dX6_textTold_26 cn_X6_71 ?_
    exact sv_ireturn (pc := 28) G T ⟨(Nat.le_of_ble_eq_true rfl), (Nat.le_of_ble_eq_true rfl)⟩ dX6_textTold_28 ⟨_, rfl, rfl, h⟩
  · have h := h.2 c_3
    refine sv_iload_n (pc := 17) G dX6_textTold_17 2 rfl ?_
    refine sv_iconst (pc := 18) G dX6_textTold_18 0 ic_0 ?_
    refine sv_iconst (pc := 19) G dX6_textTold_19 1 ic_1 ?_
    refine sv_callS (cs := 0) (sl := 0) (st := []) (As := [.int v2, .int 0, .int 1]) (pc := 20) G RR (c_X6_isWithin hL  h) mw_X6_isWithin lk_X6_67 rfl ⟨(Nat.le_of_ble_eq_true rfl), (Nat.le_of_ble_eq_true rfl)⟩ ⟨(Nat.le_of_ble_eq_true rfl), (Nat.le_of_ble_eq_true rfl)⟩ (Nat.le_of_ble_eq_true rfl) rfl dX6_textTold_20 (sv_kI (fun r_5 g_4 h => ?_))
    refine sv_if_ne (pc := 23) G 29 (by decide) dX6_textTold_23 (fun c_6 => ?_) (fun c_6 => ?_)
    · have h := h.2 c_6
      refine sv_aload_n (pc := 29) G dX6_textTold_29 0 rfl ?_
      refine sv_getR (pc := 30) G fw_X6_10 (hL.sh rfl) rfl (hL.rf 0 rfl) dX6_textTold_30 ?_
      refine sv_getR (pc := 33) G fw_X6_235 (hL.sh rfl) rfl (hL.rf 9 rfl) dX6_textTold_33 ?_
      refine sv_iload_n (pc := 36) G dX6_textTold_36 1 rfl ?_
      obtain ⟨s_7, h⟩ := h
      rcases eq_8 : F.2 2 v1.toNatClampNeg with _ | q_8
      · have h := h.1 eq_8
        refine sv_aaldN (pc := 37) G 3 (fun _ => rfl) (by decide) (hL.sh rfl) s_7 eq_8 dX6_textTold_37 ?_
        refine sv_astore_nN (pc := 38) G dX6_textTold_38 [(3, .null), (0, .ref (b + 0)), (1, .int v1), (2, .int v2)] (by decide) rfl ?_
        refine sv_aload_nN (pc := 39) G dX6_textTold_39 0 rfl ?_
        refine sv_ifnnN (pc := 40) G dX6_textTold_40 ?_
        refine sv_ldc (pc := 43) G dX6_textTold_43 cn_X6_71 ?_
        exact sv_ireturn (pc := 45) G T ⟨(Nat.le_of_ble_eq_true rfl), (Nat.le_of_ble_eq_true rfl)⟩ dX6_textTold_45 ⟨_, rfl, rfl, h⟩
      · have h := h.2 q_8 eq_8
        refine sv_aaldR (pc := 37) G 3 (fun _ => rfl) (by decide) (hL.sh rfl) s_7 eq_8 dX6_textTold_37 ?_
        refine sv_astore_n (pc := 38) G dX6_textTold_38 [(3, .ref (b + q_8)), (0, .ref (b + 0)), (1, .int v1), (2, .int v2)] (by decide) rfl ?_
        refine sv_aload_n (pc := 39) G dX6_textTold_39 0 rfl ?_
        refine sv_ifnn (pc := 40) G dX6_textTold_40 46 (by decide) ?_
        refine sv_iload_n (pc := 46) G dX6_textTold_46 3 rfl ?_
        refine sv_if_ne (pc := 47) G 57 (by decide) dX6_textTold_47 (fun c_9 => ?_) (fun c_9 => ?_)
        · have h := h.2 c_9
          refine sv_aload_n (pc := 57) G dX6_textTold_57 0 rfl ?_
          refine sv_getI (pc := 58) G fw_X6_248 (hL.2.2 _ _ eq_8).2.1 rfl dX6_textTold_58 ?_
          exact sv_ireturn (pc := 61) G T ⟨(Nat.le_of_ble_eq_true rfl), (Nat.le_of_ble_eq_true rfl)⟩ dX6_textTold_61 ⟨_, rfl, rfl, h⟩
        · have h := h.1 c_9
          refine sv_aload_n (pc := 50) G dX6_textTold_50 0 rfl ?_
          refine sv_getI (pc := 51) G fw_X6_243 (hL.2.2 _ _ eq_8).2.1 rfl dX6_textTold_51 ?_
          refine sv_goto (pc := 54) G dX6_textTold_54 61 (by decide) ?_
          exact sv_ireturn (pc := 61) G T ⟨(Nat.le_of_ble_eq_true rfl), (Nat.le_of_ble_eq_true rfl)⟩ dX6_textTold_61 ⟨_, rfl, rfl, h⟩
    · have h := h.1 c_6
      refine sv_ldc (pc := 26) G dX6_textTold_26 cn_X6_71 ?_
      exact sv_ireturn (pc := 28) G T ⟨(Nat.le_of_ble_eq_true rfl), (Nat.le_of_ble_eq_true rfl)⟩ dX6_textTold_28 ⟨_, rfl, rfl, h⟩
def wp_X6_why (F : sv_Fr) (v1 : Int32) (g : sv_Mg) (Q : Int32 → sv_Mg → Prop) : Prop := wp_X6_isWithin F v1 0 2 g (fun r_2 g_1 => ((r_2 = 0 → Q (-1000000001) g_1) ∧ (¬ r_2 = 0 → wp_X2_latest F v1 (g_1 7 18) g_1 (fun r_5 g_4 => ((0 ≤ r_5 → Q r_5 g_4) ∧ (¬ 0 ≤ r_5 → Q (-1000000005) g_4))))))
set_option maxRecDepth 100000 in
set_option maxHeartbeats 4000000 in
theorem c_X6_why {b : Nat} {xt : sv_Xt} {F : sv_Fr} {v1 : Int32} {g : sv_Mg} {Q : Int32 → sv_Mg → Prop} (hL : sv_Lay F) (h : wp_X6_why F v1 g Q) : sv_Cal yX6_why cX6_why 3 (some .int) 2 45 0 0 b xt [.ref (b + 0), .int v1] F g (sv_qI F Q) := by
  refine sv_intro mw_X6_why [(0, .ref (b + 0)), (1, .int v1)] rfl (Nat.le_of_ble_eq_true rfl) (fun x G RR T NM => ?_)
  have G : sv_G x b xt RX6 cX6_why 3 := G
  unfold wp_X6_why at h
  refine sv_iload_n (pc := 0) G dX6_why_0 1 rfl ?_
  refine sv_iconst (pc := 1) G dX6_why_1 0 ic_0 ?_
  refine sv_iconst (pc := 2) G dX6_why_2 2 ic_2 ?_
  refine sv_callS (cs := 0) (sl := 0) (st := []) (As := [.int v1, .int 0, .int 2]) (pc := 3) G RR (c_X6_isWithin hL  h) mw_X6_isWithin lk_X6_67 rfl ⟨(Nat.le_of_ble_eq_true rfl), (Nat.le_of_ble_eq_true rfl)⟩ ⟨(Nat.le_of_ble_eq_true rfl), (Nat.le_of_ble_eq_true rfl)⟩ (Nat.le_of_ble_eq_true rfl) rfl dX6_why_3 (sv_kI (fun r_2 g_1 h => ?_))
  refine sv_if_ne (pc := 6) G 12 (by decide) dX6_why_6 (fun c_3 => ?_) (fun c_3 => ?_)
  · have h := h.2 c_3
    refine sv_aload_n (pc := 12) G dX6_why_12 0 rfl ?_
    refine sv_getR (pc := 13) G fw_X6_10 (hL.sh rfl) rfl (hL.rf 0 rfl) dX6_why_13 ?_
    refine sv_iload_n (pc := 16) G dX6_why_16 1 rfl ?_
    refine sv_aload_n (pc := 17) G dX6_why_17 0 rfl ?_
    refine sv_getR (pc := 18) G fw_X6_28 (hL.sh rfl) rfl (hL.rf 2 rfl) dX6_why_18 ?_
    refine sv_getI (pc := 21) G fw_X6_216 (hL.sh rfl) rfl dX6_why_21 ?_
    refine sv_callV (cs := 0) (sl := 0) (st := []) (As := [.int v1, .int (g_1 7 18)]) (a := 1) (pc := 24) G RR (c_X2_latest hL  h) mw_X2_latest lk_X6_219 (hL.sh rfl) (by decide) rfl rfl ⟨(Nat.le_of_ble_eq_true rfl), (Nat.le_of_ble_eq_true rfl)⟩ ⟨(Nat.le_of_ble_eq_true rfl), (Nat.le_of_ble_eq_true rfl)⟩ (Nat.le_of_ble_eq_true rfl) rfl dX6_why_24 (sv_kI (fun r_5 g_4 h => ?_))
    refine sv_istore_n (pc := 27) G dX6_why_27 [(2, .int r_5), (0, .ref (b + 0)), (1, .int v1)] (by decide) rfl ?_
    refine sv_iload_n (pc := 28) G dX6_why_28 0 rfl ?_
    refine sv_if_ge (pc := 29) G 37 (by decide) dX6_why_29 (fun c_6 => ?_) (fun c_6 => ?_)
    · have h := h.1 c_6
      refine sv_iload_n (pc := 37) G dX6_why_37 0 rfl ?_
      exact sv_ireturn (pc := 38) G T ⟨(Nat.le_of_ble_eq_true rfl), (Nat.le_of_ble_eq_true rfl)⟩ dX6_why_38 ⟨_, rfl, rfl, h⟩
    · have h := h.2 c_6
      refine sv_ldc (pc := 32) G dX6_why_32 cn_X6_184 ?_
      refine sv_goto (pc := 34) G dX6_why_34 38 (by decide) ?_
      exact sv_ireturn (pc := 38) G T ⟨(Nat.le_of_ble_eq_true rfl), (Nat.le_of_ble_eq_true rfl)⟩ dX6_why_38 ⟨_, rfl, rfl, h⟩
  · have h := h.1 c_3
    refine sv_ldc (pc := 9) G dX6_why_9 cn_X6_71 ?_
    exact sv_ireturn (pc := 11) G T ⟨(Nat.le_of_ble_eq_true rfl), (Nat.le_of_ble_eq_true rfl)⟩ dX6_why_11 ⟨_, rfl, rfl, h⟩
def wp_X6_sheet (F : sv_Fr) (v1 : Int32) (v2 : Int32) (v3 : Int32) (g : sv_Mg) (Q : Int32 → sv_Mg → Prop) : Prop := wp_X6_isSheet F v1 g (fun r_2 g_1 => ((r_2 = 0 → Q (-1000000001) g_1) ∧ (¬ r_2 = 0 → wp_X6_isWithin F v2 (-1) 1 g_1 (fun r_5 g_4 => ((r_5 = 0 → Q (-1000000001) g_4) ∧ (¬ r_5 = 0 → ((v2 = (-1) → vp_in v1 4 ∧ wp_X4_clear F (32 + 2 * v1.toNatClampNeg) (-1) 0 g_4 (fun g_13 => Q 0 g_13)) ∧ (¬ v2 = (-1) → ((v3 ≤ 24 → ((0 ≤ v3 → vp_in v1 4 ∧ wp_X4_clear F (32 + 2 * v1.toNatClampNeg) v2 v3 g_4 (fun g_11 => Q v3 g_11)) ∧ (¬ 0 ≤ v3 → Q (-1000000014) g_4))) ∧ (¬ v3 ≤ 24 → Q (-1000000001) g_4))))))))))
set_option maxRecDepth 100000 in
set_option maxHeartbeats 4000000 in
theorem c_X6_sheet {b : Nat} {xt : sv_Xt} {F : sv_Fr} {v1 : Int32} {v2 : Int32} {v3 : Int32} {g : sv_Mg} {Q : Int32 → sv_Mg → Prop} (hL : sv_Lay F) (h : wp_X6_sheet F v1 v2 v3 g Q) : sv_Cal yX6_sheet cX6_sheet 4 (some .int) 2 45 0 0 b xt [.ref (b + 0), .int v1, .int v2, .int v3] F g (sv_qI F Q) := by
  refine sv_intro mw_X6_sheet [(0, .ref (b + 0)), (1, .int v1), (2, .int v2), (3, .int v3)] rfl (Nat.le_of_ble_eq_true rfl) (fun x G RR T NM => ?_)
  have G : sv_G x b xt RX6 cX6_sheet 4 := G
  unfold wp_X6_sheet at h
  refine sv_iload_n (pc := 0) G dX6_sheet_0 1 rfl ?_
  refine sv_callS (cs := 0) (sl := 0) (st := []) (As := [.int v1]) (pc := 1) G RR (c_X6_isSheet hL  h) mw_X6_isSheet lk_X6_204 rfl ⟨(Nat.le_of_ble_eq_true rfl), (Nat.le_of_ble_eq_true rfl)⟩ ⟨(Nat.le_of_ble_eq_true rfl), (Nat.le_of_ble_eq_true rfl)⟩ (Nat.le_of_ble_eq_true rfl) rfl dX6_sheet_1 (sv_kI (fun r_2 g_1 h => ?_))
  refine sv_if_eq (pc := 4) G 16 (by decide) dX6_sheet_4 (fun c_3 => ?_) (fun c_3 => ?_)
  · have h := h.1 c_3
    refine sv_ldc (pc := 16) G dX6_sheet_16 cn_X6_71 ?_
    exact sv_ireturn (pc := 18) G T ⟨(Nat.le_of_ble_eq_true rfl), (Nat.le_of_ble_eq_true rfl)⟩ dX6_sheet_18 ⟨_, rfl, rfl, h⟩
  · have h := h.2 c_3
    refine sv_iload_n (pc := 7) G dX6_sheet_7 2 rfl ?_
    refine sv_iconst (pc := 8) G dX6_sheet_8 (-1) ic_m1 ?_
    refine sv_iconst (pc := 9) G dX6_sheet_9 1 ic_1 ?_
    refine sv_callS (cs := 0) (sl := 0) (st := []) (As := [.int v2, .int (-1), .int 1]) (pc := 10) G RR (c_X6_isWithin hL  h) mw_X6_isWithin lk_X6_67 rfl ⟨(Nat.le_of_ble_eq_true rfl), (Nat.le_of_ble_eq_true rfl)⟩ ⟨(Nat.le_of_ble_eq_true rfl), (Nat.le_of_ble_eq_true rfl)⟩ (Nat.le_of_ble_eq_true rfl) rfl dX6_sheet_10 (sv_kI (fun r_5 g_4 h => ?_))
    refine sv_if_ne (pc := 13) G 19 (by decide) dX6_sheet_13 (fun c_6 => ?_) (fun c_6 => ?_)
    · have h := h.2 c_6
      refine sv_iload_n (pc := 19) G dX6_sheet_19 2 rfl ?_
      refine sv_iconst (pc := 20) G dX6_sheet_20 (-1) ic_m1 ?_
      refine sv_ic_ne (pc := 21) G 37 (by decide) dX6_sheet_21 (fun c_7 => ?_) (fun c_7 => ?_)
      · have h := h.2 c_7
        refine sv_iload_n (pc := 37) G dX6_sheet_37 3 rfl ?_
        refine sv_bipush (pc := 38) G dX6_sheet_38 24 bp_24 ?_
        refine sv_ic_le (pc := 40) G 46 (by decide) dX6_sheet_40 (fun c_8 => ?_) (fun c_8 => ?_)
        · have h := h.1 c_8
          refine sv_iload_n (pc := 46) G dX6_sheet_46 3 rfl ?_
          refine sv_if_ge (pc := 47) G 53 (by decide) dX6_sheet_47 (fun c_9 => ?_) (fun c_9 => ?_)
          · have h := h.1 c_9
            refine sv_aload_n (pc := 53) G dX6_sheet_53 0 rfl ?_
            refine sv_getR (pc := 54) G fw_X6_40 (hL.sh rfl) rfl (hL.rf 5 rfl) dX6_sheet_54 ?_
            refine sv_iload_n (pc := 57) G dX6_sheet_57 1 rfl ?_
            obtain ⟨s_10, h⟩ := h
            refine sv_aaldR (pc := 58) G 4 (fun _ => rfl) (by decide) (hL.sh rfl) s_10 (hL.qS s_10) dX6_sheet_58 ?_
            refine sv_iload_n (pc := 59) G dX6_sheet_59 2 rfl ?_
            refine sv_iload_n (pc := 60) G dX6_sheet_60 3 rfl ?_
            refine sv_callV (cs := 0) (sl := 0) (st := []) (As := [.int v2, .int v3]) (a := (32 + 2 * v1.toNatClampNeg)) (pc := 61) G RR (c_X4_clear hL (sv_qS_is s_10) h) mw_X4_clear lk_X6_251 (hL.sS (sv_qS_is s_10)) (by decide) rfl rfl ⟨(Nat.le_of_ble_eq_true rfl), (Nat.le_of_ble_eq_true rfl)⟩ ⟨(Nat.le_of_ble_eq_true rfl), (Nat.le_of_ble_eq_true rfl)⟩ (Nat.le_of_ble_eq_true rfl) rfl dX6_sheet_61 (sv_kV (fun g_11 h => ?_))
            refine sv_iload_n (pc := 64) G dX6_sheet_64 3 rfl ?_
            exact sv_ireturn (pc := 65) G T ⟨(Nat.le_of_ble_eq_true rfl), (Nat.le_of_ble_eq_true rfl)⟩ dX6_sheet_65 ⟨_, rfl, rfl, h⟩
          · have h := h.2 c_9
            refine sv_ldc (pc := 50) G dX6_sheet_50 cn_X6_255 ?_
            exact sv_ireturn (pc := 52) G T ⟨(Nat.le_of_ble_eq_true rfl), (Nat.le_of_ble_eq_true rfl)⟩ dX6_sheet_52 ⟨_, rfl, rfl, h⟩
        · have h := h.2 c_8
          refine sv_ldc (pc := 43) G dX6_sheet_43 cn_X6_71 ?_
          exact sv_ireturn (pc := 45) G T ⟨(Nat.le_of_ble_eq_true rfl), (Nat.le_of_ble_eq_true rfl)⟩ dX6_sheet_45 ⟨_, rfl, rfl, h⟩
      · have h := h.1 c_7
        refine sv_aload_n (pc := 24) G dX6_sheet_24 0 rfl ?_
        refine sv_getR (pc := 25) G fw_X6_40 (hL.sh rfl) rfl (hL.rf 5 rfl) dX6_sheet_25 ?_
        refine sv_iload_n (pc := 28) G dX6_sheet_28 1 rfl ?_
        obtain ⟨s_12, h⟩ := h
        refine sv_aaldR (pc := 29) G 4 (fun _ => rfl) (by decide) (hL.sh rfl) s_12 (hL.qS s_12) dX6_sheet_29 ?_
        refine sv_iconst (pc := 30) G dX6_sheet_30 (-1) ic_m1 ?_
        refine sv_iconst (pc := 31) G dX6_sheet_31 0 ic_0 ?_
        refine sv_callV (cs := 0) (sl := 0) (st := []) (As := [.int (-1), .int 0]) (a := (32 + 2 * v1.toNatClampNeg)) (pc := 32) G RR (c_X4_clear hL (sv_qS_is s_12) h) mw_X4_clear lk_X6_251 (hL.sS (sv_qS_is s_12)) (by decide) rfl rfl ⟨(Nat.le_of_ble_eq_true rfl), (Nat.le_of_ble_eq_true rfl)⟩ ⟨(Nat.le_of_ble_eq_true rfl), (Nat.le_of_ble_eq_true rfl)⟩ (Nat.le_of_ble_eq_true rfl) rfl dX6_sheet_32 (sv_kV (fun g_13 h => ?_))
        refine sv_iconst (pc := 35) G dX6_sheet_35 0 ic_0 ?_
        exact sv_ireturn (pc := 36) G T ⟨(Nat.le_of_ble_eq_true rfl), (Nat.le_of_ble_eq_true rfl)⟩ dX6_sheet_36 ⟨_, rfl, rfl, h⟩
    · have h := h.1 c_6
      refine sv_ldc (pc := 16) G dX6_sheet_16 cn_X6_71 ?_
      exact sv_ireturn (pc := 18) G T ⟨(Nat.le_of_ble_eq_true rfl), (Nat.le_of_ble_eq_true rfl)⟩ dX6_sheet_18 ⟨_, rfl, rfl, h⟩
def wp_X6_mark (F : sv_Fr) (v1 : Int32) (v2 : Int32) (v3 : Int32) (g : sv_Mg) (Q : Int32 → sv_Mg → Prop) : Prop := wp_X6_isSheet F v1 g (fun r_2 g_1 => ((r_2 = 0 → Q (-1000000001) g_1) ∧ (¬ r_2 = 0 → vp_in v1 4 ∧ wp_X4_isMissing F (32 + 2 * v1.toNatClampNeg) g_1 (fun r_6 g_5 => ((r_6 = 0 → wp_X4_hasPlace F (32 + 2 * v1.toNatClampNeg) v2 g_5 (fun r_9 g_8 => ((r_9 = 0 → Q (-1000000013) g_8) ∧ (¬ r_9 = 0 → (((g_8 (32 + 2 * v1.toNatClampNeg) 1) = 0 → ((v3 = (-1000000005) → Q (-1000000012) g_8) ∧ (¬ v3 = (-1000000005) → vp_in v2 24 ∧ ∀ g_22, g_22 = sv_st g_8 ((32 + 2 * v1.toNatClampNeg) + 1) v2.toNatClampNeg v3.toInt16.toInt32 → Q 1 g_22))) ∧ (¬ (g_8 (32 + 2 * v1.toNatClampNeg) 1) = 0 → ((v3 = (-1000000005) → vp_in v2 24 ∧ ∀ g_14, g_14 = sv_st g_8 ((32 + 2 * v1.toNatClampNeg) + 1) v2.toNatClampNeg v3 → Q 1 g_14) ∧ (¬ v3 = (-1000000005) → wp_X6_isWithin F v3 (-99999) 99999 g_8 (fun r_16 g_15 => ((r_16 = 0 → Q (-1000000001) g_15) ∧ (¬ r_16 = 0 → vp_in v2 24 ∧ ∀ g_19, g_19 = sv_st g_15 ((32 + 2 * v1.toNatClampNeg) + 1) v2.toNatClampNeg v3 → Q 1 g_19))))))))))) ∧ (¬ r_6 = 0 → Q (-1000000011) g_5))))))
set_option maxRecDepth 100000 in
set_option maxHeartbeats 4000000 in
theorem c_X6_mark {b : Nat} {xt : sv_Xt} {F : sv_Fr} {v1 : Int32} {v2 : Int32} {v3 : Int32} {g : sv_Mg} {Q : Int32 → sv_Mg → Prop} (hL : sv_Lay F) (h : wp_X6_mark F v1 v2 v3 g Q) : sv_Cal yX6_mark cX6_mark 5 (some .int) 2 42 0 0 b xt [.ref (b + 0), .int v1, .int v2, .int v3] F g (sv_qI F Q) := by
  refine sv_intro mw_X6_mark [(0, .ref (b + 0)), (1, .int v1), (2, .int v2), (3, .int v3)] rfl (Nat.le_of_ble_eq_true rfl) (fun x G RR T NM => ?_)
  have G : sv_G x b xt RX6 cX6_mark 5 := G
  unfold wp_X6_mark at h
  refine sv_iload_n (pc := 0) G dX6_mark_0 1 rfl ?_
  refine sv_callS (cs := 0) (sl := 0) (st := []) (As := [.int v1]) (pc := 1) G RR (c_X6_isSheet hL  h) mw_X6_isSheet lk_X6_204 rfl ⟨(Nat.le_of_ble_eq_true rfl), (Nat.le_of_ble_eq_true rfl)⟩ ⟨(Nat.le_of_ble_eq_true rfl), (Nat.le_of_ble_eq_true rfl)⟩ (Nat.le_of_ble_eq_true rfl) rfl dX6_mark_1 (sv_kI (fun r_2 g_1 h => ?_))
  refine sv_if_ne (pc := 4) G 10 (by decide) dX6_mark_4 (fun c_3 => ?_) (fun c_3 => ?_)
  · have h := h.2 c_3
    refine sv_aload_n (pc := 10) G dX6_mark_10 0 rfl ?_
    refine sv_getR (pc := 11) G fw_X6_40 (hL.sh rfl) rfl (hL.rf 5 rfl) dX6_mark_11 ?_
    refine sv_iload_n (pc := 14) G dX6_mark_14 1 rfl ?_
    obtain ⟨s_4, h⟩ := h
    refine sv_aaldR (pc := 15) G 4 (fun _ => rfl) (by decide) (hL.sh rfl) s_4 (hL.qS s_4) dX6_mark_15 ?_
    refine sv_astore (pc := 16) G dX6_mark_16 [(4, .ref (b + (32 + 2 * v1.toNatClampNeg))), (0, .ref (b + 0)), (1, .int v1), (2, .int v2), (3, .int v3)] (by decide) rfl ?_
    refine sv_aload (pc := 18) G dX6_mark_18 0 rfl ?_
    refine sv_callV (cs := 0) (sl := 0) (st := []) (As := []) (a := (32 + 2 * v1.toNatClampNeg)) (pc := 20) G RR (c_X4_isMissing hL (sv_qS_is s_4) h) mw_X4_isMissing lk_X6_207 (hL.sS (sv_qS_is s_4)) (by decide) rfl rfl ⟨(Nat.le_of_ble_eq_true rfl), (Nat.le_of_ble_eq_true rfl)⟩ ⟨(Nat.le_of_ble_eq_true rfl), (Nat.le_of_ble_eq_true rfl)⟩ (Nat.le_of_ble_eq_true rfl) rfl dX6_mark_20 (sv_kI (fun r_6 g_5 h => ?_))
    refine sv_if_eq (pc := 23) G 29 (by decide) dX6_mark_23 (fun c_7 => ?_) (fun c_7 => ?_)
    · have h := h.1 c_7
      refine sv_aload (pc := 29) G dX6_mark_29 0 rfl ?_
      refine sv_iload_n (pc := 31) G dX6_mark_31 3 rfl ?_
      refine sv_callV (cs := 0) (sl := 0) (st := []) (As := [.int v2]) (a := (32 + 2 * v1.toNatClampNeg)) (pc := 32) G RR (c_X4_hasPlace hL (sv_qS_is s_4) h) mw_X4_hasPlace lk_X6_256 (hL.sS (sv_qS_is s_4)) (by decide) rfl rfl ⟨(Nat.le_of_ble_eq_true rfl), (Nat.le_of_ble_eq_true rfl)⟩ ⟨(Nat.le_of_ble_eq_true rfl), (Nat.le_of_ble_eq_true rfl)⟩ (Nat.le_of_ble_eq_true rfl) rfl dX6_mark_32 (sv_kI (fun r_9 g_8 h => ?_))
      refine sv_if_ne (pc := 35) G 42 (by decide) dX6_mark_35 (fun c_10 => ?_) (fun c_10 => ?_)
      · have h := h.2 c_10
        refine sv_aload (pc := 42) G dX6_mark_42 0 rfl ?_
        refine sv_getI (pc := 44) G fw_X6_260 (hL.sS (sv_qS_is s_4)) rfl dX6_mark_44 ?_
        refine sv_if_ne (pc := 47) G 70 (by decide) dX6_mark_47 (fun c_11 => ?_) (fun c_11 => ?_)
        · have h := h.2 c_11
          refine sv_iload_n (pc := 70) G dX6_mark_70 4 rfl ?_
          refine sv_ldc (pc := 71) G dX6_mark_71 cn_X6_184 ?_
          refine sv_ic_eq (pc := 73) G 92 (by decide) dX6_mark_73 (fun c_12 => ?_) (fun c_12 => ?_)
          · have h := h.1 c_12
            refine sv_aload (pc := 92) G dX6_mark_92 0 rfl ?_
            refine sv_getR (pc := 94) G fw_X6_263 (hL.sS (sv_qS_is s_4)) rfl (hL.sR (sv_qS_is s_4)) dX6_mark_94 ?_
            refine sv_iload_n (pc := 97) G dX6_mark_97 3 rfl ?_
            refine sv_iload_n (pc := 98) G dX6_mark_98 4 rfl ?_
            obtain ⟨s_13, h⟩ := h
            refine sv_iastK (pc := 99) G (hL.sA (sv_qS_is s_4)) s_13 v2.toNatClampNeg rfl dX6_mark_99 (fun g_14 eg_14 => ?_)
            have h := h g_14 eg_14
            refine sv_iconst (pc := 100) G dX6_mark_100 1 ic_1 ?_
            exact sv_ireturn (pc := 101) G T ⟨(Nat.le_of_ble_eq_true rfl), (Nat.le_of_ble_eq_true rfl)⟩ dX6_mark_101 ⟨_, rfl, rfl, h⟩
          · have h := h.2 c_12
            refine sv_iload_n (pc := 76) G dX6_mark_76 4 rfl ?_
            refine sv_ldcw (pc := 77) G dX6_mark_77 cn_X6_266 ?_
            refine sv_ldcw (pc := 80) G dX6_mark_80 cn_X6_267 ?_
            refine sv_callS (cs := 0) (sl := 0) (st := []) (As := [.int v3, .int (-99999), .int 99999]) (pc := 83) G RR (c_X6_isWithin hL  h) mw_X6_isWithin lk_X6_67 rfl ⟨(Nat.le_of_ble_eq_true rfl), (Nat.le_of_ble_eq_true rfl)⟩ ⟨(Nat.le_of_ble_eq_true rfl), (Nat.le_of_ble_eq_true rfl)⟩ (Nat.le_of_ble_eq_true rfl) rfl dX6_mark_83 (sv_kI (fun r_16 g_15 h => ?_))
            refine sv_if_ne (pc := 86) G 92 (by decide) dX6_mark_86 (fun c_17 => ?_) (fun c_17 => ?_)
            · have h := h.2 c_17
              refine sv_aload (pc := 92) G dX6_mark_92 0 rfl ?_
              refine sv_getR (pc := 94) G fw_X6_263 (hL.sS (sv_qS_is s_4)) rfl (hL.sR (sv_qS_is s_4)) dX6_mark_94 ?_
              refine sv_iload_n (pc := 97) G dX6_mark_97 3 rfl ?_
              refine sv_iload_n (pc := 98) G dX6_mark_98 4 rfl ?_
              obtain ⟨s_18, h⟩ := h
              refine sv_iastK (pc := 99) G (hL.sA (sv_qS_is s_4)) s_18 v2.toNatClampNeg rfl dX6_mark_99 (fun g_19 eg_19 => ?_)
              have h := h g_19 eg_19
              refine sv_iconst (pc := 100) G dX6_mark_100 1 ic_1 ?_
              exact sv_ireturn (pc := 101) G T ⟨(Nat.le_of_ble_eq_true rfl), (Nat.le_of_ble_eq_true rfl)⟩ dX6_mark_101 ⟨_, rfl, rfl, h⟩
            · have h := h.1 c_17
              refine sv_ldc (pc := 89) G dX6_mark_89 cn_X6_71 ?_
              exact sv_ireturn (pc := 91) G T ⟨(Nat.le_of_ble_eq_true rfl), (Nat.le_of_ble_eq_true rfl)⟩ dX6_mark_91 ⟨_, rfl, rfl, h⟩
        · have h := h.1 c_11
          refine sv_iload_n (pc := 50) G dX6_mark_50 4 rfl ?_
          refine sv_ldc (pc := 51) G dX6_mark_51 cn_X6_184 ?_
          refine sv_ic_ne (pc := 53) G 59 (by decide) dX6_mark_53 (fun c_20 => ?_) (fun c_20 => ?_)
          · have h := h.2 c_20
            refine sv_aload (pc := 59) G dX6_mark_59 0 rfl ?_
            refine sv_getR (pc := 61) G fw_X6_263 (hL.sS (sv_qS_is s_4)) rfl (hL.sR (sv_qS_is s_4)) dX6_mark_61 ?_
            refine sv_iload_n (pc := 64) G dX6_mark_64 3 rfl ?_
            refine sv_iload_n (pc := 65) G dX6_mark_65 4 rfl ?_
            refine sv_i2s (pc := 66) G dX6_mark_66 ?_
            obtain ⟨s_21, h⟩ := h
            refine sv_iastK (pc := 67) G (hL.sA (sv_qS_is s_4)) s_21 v2.toNatClampNeg rfl dX6_mark_67 (fun g_22 eg_22 => ?_)
            have h := h g_22 eg_22
            refine sv_iconst (pc := 68) G dX6_mark_68 1 ic_1 ?_
            exact sv_ireturn (pc := 69) G T ⟨(Nat.le_of_ble_eq_true rfl), (Nat.le_of_ble_eq_true rfl)⟩ dX6_mark_69 ⟨_, rfl, rfl, h⟩
          · have h := h.1 c_20
            refine sv_ldc (pc := 56) G dX6_mark_56 cn_X6_128 ?_
            exact sv_ireturn (pc := 58) G T ⟨(Nat.le_of_ble_eq_true rfl), (Nat.le_of_ble_eq_true rfl)⟩ dX6_mark_58 ⟨_, rfl, rfl, h⟩
      · have h := h.1 c_10
        refine sv_ldcw (pc := 38) G dX6_mark_38 cn_X6_259 ?_
        exact sv_ireturn (pc := 41) G T ⟨(Nat.le_of_ble_eq_true rfl), (Nat.le_of_ble_eq_true rfl)⟩ dX6_mark_41 ⟨_, rfl, rfl, h⟩
    · have h := h.2 c_7
      refine sv_ldc (pc := 26) G dX6_mark_26 cn_X6_211 ?_
      exact sv_ireturn (pc := 28) G T ⟨(Nat.le_of_ble_eq_true rfl), (Nat.le_of_ble_eq_true rfl)⟩ dX6_mark_28 ⟨_, rfl, rfl, h⟩
  · have h := h.1 c_3
    refine sv_ldc (pc := 7) G dX6_mark_7 cn_X6_71 ?_
    exact sv_ireturn (pc := 9) G T ⟨(Nat.le_of_ble_eq_true rfl), (Nat.le_of_ble_eq_true rfl)⟩ dX6_mark_9 ⟨_, rfl, rfl, h⟩
def wp_X6_pour_112 (F : sv_Fr) (Q : Int32 → sv_Mg → Prop) (K32 : Nat → Int32 → Int32 → sv_Mg → Prop) (r2 : Nat) (v3 : Int32) (v4 : Int32) (g : sv_Mg) : Prop := ∀ v4_1 : Int32, v4_1 = v4 + 1 → K32 r2 v3 v4_1 g
def wp_X6_pour_98 (F : sv_Fr) (Q : Int32 → sv_Mg → Prop) (K32 : Nat → Int32 → Int32 → sv_Mg → Prop) (r2 : Nat) (v4 : Int32) (v5 : Int32) (s0 : Int32) (s1 : Int32) (g : sv_Mg) : Prop := ∀ v3_2 : Int32, v3_2 = (s1 + s0) → vp_in v4 10 ∧ ∀ g_4, g_4 = sv_st g 12 v4.toNatClampNeg v5 → wp_X6_pour_112 F  Q K32 r2 v3_2 v4 g_4
def wp_X6_pour_32 (F : sv_Fr) (Q : Int32 → sv_Mg → Prop) : Nat → Nat → Int32 → Int32 → sv_Mg → Prop
  | 0, _, _, _, _ => False
  | n + 1, r2, v3, v4, g => (((g 7 8) ≤ v4 → Q v3 g) ∧ (¬ (g 7 8) ≤ v4 → (((g r2 2) ≤ v4 → Q v3 g) ∧ (¬ (g r2 2) ≤ v4 → wp_X4_isNumber F r2 v4 g (fun r_8 g_7 => ((r_8 = 0 → wp_X6_pour_112 F  Q (wp_X6_pour_32 F Q  n) r2 v3 v4 g_7) ∧ (¬ r_8 = 0 → vp_in v4 24 ∧ wp_X6_held F (g_7 (r2 + 1) v4.toNatClampNeg) 0 9 g_7 (fun r_12 g_11 => vp_in v4 10 ∧ ((r_12 = (g_11 12 v4.toNatClampNeg) → wp_X6_pour_98 F  Q (wp_X6_pour_32 F Q  n) r2 v4 r_12 0 v3 g_11) ∧ (¬ r_12 = (g_11 12 v4.toNatClampNeg) → wp_X6_pour_98 F  Q (wp_X6_pour_32 F Q  n) r2 v4 r_12 1 v3 g_11))))))))))
def wp_X6_pour (F : sv_Fr) (v1 : Int32) (g : sv_Mg) (Q : Int32 → sv_Mg → Prop) : Prop := wp_X6_isSheet F v1 g (fun r_16 g_15 => ((r_16 = 0 → Q (-1000000001) g_15) ∧ (¬ r_16 = 0 → vp_in v1 4 ∧ wp_X4_isMissing F (32 + 2 * v1.toNatClampNeg) g_15 (fun r_20 g_19 => ((r_20 = 0 → ∃ n_22, wp_X6_pour_32 F  Q  n_22 (32 + 2 * v1.toNatClampNeg) 0 0 g_19) ∧ (¬ r_20 = 0 → Q (-1000000011) g_19))))))
set_option maxRecDepth 100000 in
set_option maxHeartbeats 4000000 in
theorem aw_X6_pour_112 {x : sv_X} {b : Nat} {xt : sv_Xt} {F : sv_Fr} {Q : Int32 → sv_Mg → Prop} (G : sv_G x b xt RX6 cX6_pour 6) (RR : sv_R x 2 43 0 0) (T : sv_RT x (some .int)) (hL : sv_Lay F) {K32 : Nat → Int32 → Int32 → sv_Mg → Prop} (hK32 : ∀ (r2 : Nat) (v3 : Int32) (v4 : Int32) (g : sv_Mg), (sv_isS r2) → K32 r2 v3 v4 g → sv_AW x (sv_Q x (sv_qI F Q) 0 0) F g 0 0 32 [(0, .ref (b + 0)), (2, .ref (b + r2)), (3, .int v3), (4, .int v4)] []) : ∀ (r2 : Nat) (v3 : Int32) (v4 : Int32) (g : sv_Mg), (sv_isS r2) → wp_X6_pour_112 F Q K32 r2 v3 v4 g → sv_AW x (sv_Q x (sv_qI F Q) 0 0) F g 0 0 112 [(0, .ref (b + 0)), (2, .ref (b + r2)), (3, .int v3), (4, .int v4)] [] := by
  intro r2 v3 v4 g hr2 h
  unfold wp_X6_pour_112 at h
  obtain ⟨v4_1, ev4_1⟩ : ∃ y : Int32, y = v4 + 1 := ⟨_, rfl⟩
  have h := h v4_1 ev4_1
  refine sv_iinc (pc := 112) G dX6_pour_112 3 v4_1 [(4, .int v4_1), (0, .ref (b + 0)), (2, .ref (b + r2)), (3, .int v3)] (by rw [ev4_1, ic_1]) rfl (by decide) rfl ?_
  refine sv_goto (pc := 115) G dX6_pour_115 32 (by decide) ?_
  refine sv_locs [1, 2, 3, 0] [(0, .ref (b + 0)), (2, .ref (b + r2)), (3, .int v3), (4, .int v4_1)] rfl ?_
  exact hK32 r2 v3 v4_1 g hr2 h
set_option maxRecDepth 100000 in
set_option maxHeartbeats 4000000 in
theorem aw_X6_pour_98 {x : sv_X} {b : Nat} {xt : sv_Xt} {F : sv_Fr} {Q : Int32 → sv_Mg → Prop} (G : sv_G x b xt RX6 cX6_pour 6) (RR : sv_R x 2 43 0 0) (T : sv_RT x (some .int)) (hL : sv_Lay F) {K32 : Nat → Int32 → Int32 → sv_Mg → Prop} (hK32 : ∀ (r2 : Nat) (v3 : Int32) (v4 : Int32) (g : sv_Mg), (sv_isS r2) → K32 r2 v3 v4 g → sv_AW x (sv_Q x (sv_qI F Q) 0 0) F g 0 0 32 [(0, .ref (b + 0)), (2, .ref (b + r2)), (3, .int v3), (4, .int v4)] []) : ∀ (r2 : Nat) (v4 : Int32) (v5 : Int32) (s0 : Int32) (s1 : Int32) (g : sv_Mg), (sv_isS r2) → wp_X6_pour_98 F Q K32 r2 v4 v5 s0 s1 g → sv_AW x (sv_Q x (sv_qI F Q) 0 0) F g 0 0 98 [(0, .ref (b + 0)), (2, .ref (b + r2)), (4, .int v4), (5, .int v5)] [.int s0, .int s1] := by
  intro r2 v4 v5 s0 s1 g hr2 h
  unfold wp_X6_pour_98 at h
  refine sv_iadd (pc := 98) G dX6_pour_98 ?_
  refine sv_topi (fun v3_2 ev3_2 => ?_)
  have h := h v3_2 ev3_2
  refine sv_istore_n (pc := 99) G dX6_pour_99 [(3, .int v3_2), (0, .ref (b + 0)), (2, .ref (b + r2)), (4, .int v4), (5, .int v5)] (by decide) rfl ?_
  refine sv_aload_n (pc := 100) G dX6_pour_100 1 rfl ?_
  refine sv_getR (pc := 101) G fw_X6_28 (hL.sh rfl) rfl (hL.rf 2 rfl) dX6_pour_101 ?_
  refine sv_getR (pc := 104) G fw_X6_96 (hL.sh rfl) rfl (hL.rf 18 rfl) dX6_pour_104 ?_
  refine sv_iload (pc := 107) G dX6_pour_107 3 rfl ?_
  refine sv_iload (pc := 109) G dX6_pour_109 4 rfl ?_
  obtain ⟨s_3, h⟩ := h
  refine sv_iastK (pc := 111) G (hL.sh rfl) s_3 v4.toNatClampNeg rfl dX6_pour_111 (fun g_4 eg_4 => ?_)
  have h := h g_4 eg_4
  refine sv_locs [1, 2, 0, 3] [(0, .ref (b + 0)), (2, .ref (b + r2)), (3, .int v3_2), (4, .int v4)] rfl ?_
  exact aw_X6_pour_112 G RR T hL  hK32 r2 v3_2 v4 g_4 hr2 h
set_option maxRecDepth 100000 in
set_option maxHeartbeats 4000000 in
theorem aw_X6_pour_32 {x : sv_X} {b : Nat} {xt : sv_Xt} {F : sv_Fr} {Q : Int32 → sv_Mg → Prop} (G : sv_G x b xt RX6 cX6_pour 6) (RR : sv_R x 2 43 0 0) (T : sv_RT x (some .int)) (hL : sv_Lay F) : ∀ (n : Nat) (r2 : Nat) (v3 : Int32) (v4 : Int32) (g : sv_Mg), (sv_isS r2) → wp_X6_pour_32 F Q  n r2 v3 v4 g → sv_AW x (sv_Q x (sv_qI F Q) 0 0) F g 0 0 32 [(0, .ref (b + 0)), (2, .ref (b + r2)), (3, .int v3), (4, .int v4)] [] := by
  intro n
  induction n with
  | zero => intro r2 v3 v4 g hr2 h; exact h.elim
  | succ n ih =>
    intro r2 v3 v4 g hr2 h
    rw [wp_X6_pour_32] at h
    refine sv_iload (pc := 32) G dX6_pour_32 3 rfl ?_
    refine sv_aload_n (pc := 34) G dX6_pour_34 0 rfl ?_
    refine sv_getR (pc := 35) G fw_X6_28 (hL.sh rfl) rfl (hL.rf 2 rfl) dX6_pour_35 ?_
    refine sv_getI (pc := 38) G fw_X6_72 (hL.sh rfl) rfl dX6_pour_38 ?_
    refine sv_ic_ge (pc := 41) G 118 (by decide) dX6_pour_41 (fun c_5 => ?_) (fun c_5 => ?_)
    · have h := h.1 c_5
      refine sv_iload_n (pc := 118) G dX6_pour_118 2 rfl ?_
      exact sv_ireturn (pc := 119) G T ⟨(Nat.le_of_ble_eq_true rfl), (Nat.le_of_ble_eq_true rfl)⟩ dX6_pour_119 ⟨_, rfl, rfl, h⟩
    · have h := h.2 c_5
      refine sv_iload (pc := 44) G dX6_pour_44 3 rfl ?_
      refine sv_aload_n (pc := 46) G dX6_pour_46 1 rfl ?_
      refine sv_getI (pc := 47) G fw_X6_268 (hL.sS hr2) rfl dX6_pour_47 ?_
      refine sv_ic_ge (pc := 50) G 118 (by decide) dX6_pour_50 (fun c_6 => ?_) (fun c_6 => ?_)
      · have h := h.1 c_6
        refine sv_iload_n (pc := 118) G dX6_pour_118 2 rfl ?_
        exact sv_ireturn (pc := 119) G T ⟨(Nat.le_of_ble_eq_true rfl), (Nat.le_of_ble_eq_true rfl)⟩ dX6_pour_119 ⟨_, rfl, rfl, h⟩
      · have h := h.2 c_6
        refine sv_aload_n (pc := 53) G dX6_pour_53 1 rfl ?_
        refine sv_iload (pc := 54) G dX6_pour_54 3 rfl ?_
        refine sv_callV (cs := 0) (sl := 0) (st := []) (As := [.int v4]) (a := r2) (pc := 56) G RR (c_X4_isNumber hL hr2 h) mw_X4_isNumber lk_X6_271 (hL.sS hr2) (by decide) rfl rfl ⟨(Nat.le_of_ble_eq_true rfl), (Nat.le_of_ble_eq_true rfl)⟩ ⟨(Nat.le_of_ble_eq_true rfl), (Nat.le_of_ble_eq_true rfl)⟩ (Nat.le_of_ble_eq_true rfl) rfl dX6_pour_56 (sv_kI (fun r_8 g_7 h => ?_))
        refine sv_if_eq (pc := 59) G 112 (by decide) dX6_pour_59 (fun c_9 => ?_) (fun c_9 => ?_)
        · have h := h.1 c_9
          refine sv_locs [0, 1, 2, 3] [(0, .ref (b + 0)), (2, .ref (b + r2)), (3, .int v3), (4, .int v4)] rfl ?_
          exact aw_X6_pour_112 G RR T hL  ih r2 v3 v4 g_7 hr2 h
        · have h := h.2 c_9
          refine sv_aload_n (pc := 62) G dX6_pour_62 1 rfl ?_
          refine sv_getR (pc := 63) G fw_X6_263 (hL.sS hr2) rfl (hL.sR hr2) dX6_pour_63 ?_
          refine sv_iload (pc := 66) G dX6_pour_66 3 rfl ?_
          obtain ⟨s_10, h⟩ := h
          refine sv_ialdK (pc := 68) G (hL.sA hr2) s_10 v4.toNatClampNeg rfl dX6_pour_68 ?_
          refine sv_iconst (pc := 69) G dX6_pour_69 0 ic_0 ?_
          refine sv_bipush (pc := 70) G dX6_pour_70 9 bp_9 ?_
          refine sv_callS (cs := 0) (sl := 0) (st := []) (As := [.int (g_7 (r2 + 1) v4.toNatClampNeg), .int 0, .int 9]) (pc := 72) G RR (c_X6_held hL  h) mw_X6_held lk_X6_274 rfl ⟨(Nat.le_of_ble_eq_true rfl), (Nat.le_of_ble_eq_true rfl)⟩ ⟨(Nat.le_of_ble_eq_true rfl), (Nat.le_of_ble_eq_true rfl)⟩ (Nat.le_of_ble_eq_true rfl) rfl dX6_pour_72 (sv_kI (fun r_12 g_11 h => ?_))
          refine sv_istore (pc := 75) G dX6_pour_75 [(5, .int r_12), (0, .ref (b + 0)), (2, .ref (b + r2)), (3, .int v3), (4, .int v4)] (by decide) rfl ?_
          refine sv_iload_n (pc := 77) G dX6_pour_77 3 rfl ?_
          refine sv_iload (pc := 78) G dX6_pour_78 0 rfl ?_
          refine sv_aload_n (pc := 80) G dX6_pour_80 1 rfl ?_
          refine sv_getR (pc := 81) G fw_X6_28 (hL.sh rfl) rfl (hL.rf 2 rfl) dX6_pour_81 ?_
          refine sv_getR (pc := 84) G fw_X6_96 (hL.sh rfl) rfl (hL.rf 18 rfl) dX6_pour_84 ?_
          refine sv_iload (pc := 87) G dX6_pour_87 4 rfl ?_
          obtain ⟨s_13, h⟩ := h
          refine sv_ialdK (pc := 89) G (hL.sh rfl) s_13 v4.toNatClampNeg rfl dX6_pour_89 ?_
          refine sv_ic_ne (pc := 90) G 97 (by decide) dX6_pour_90 (fun c_14 => ?_) (fun c_14 => ?_)
          · have h := h.2 c_14
            refine sv_iconst (pc := 97) G dX6_pour_97 1 ic_1 ?_
            refine sv_locs [1, 2, 4, 0] [(0, .ref (b + 0)), (2, .ref (b + r2)), (4, .int v4), (5, .int r_12)] rfl ?_
            exact aw_X6_pour_98 G RR T hL  ih r2 v4 r_12 1 v3 g_11 hr2 h
          · have h := h.1 c_14
            refine sv_iconst (pc := 93) G dX6_pour_93 0 ic_0 ?_
            refine sv_goto (pc := 94) G dX6_pour_94 98 (by decide) ?_
            refine sv_locs [1, 2, 4, 0] [(0, .ref (b + 0)), (2, .ref (b + r2)), (4, .int v4), (5, .int r_12)] rfl ?_
            exact aw_X6_pour_98 G RR T hL  ih r2 v4 r_12 0 v3 g_11 hr2 h
set_option maxRecDepth 100000 in
set_option maxHeartbeats 4000000 in
theorem c_X6_pour {b : Nat} {xt : sv_Xt} {F : sv_Fr} {v1 : Int32} {g : sv_Mg} {Q : Int32 → sv_Mg → Prop} (hL : sv_Lay F) (h : wp_X6_pour F v1 g Q) : sv_Cal yX6_pour cX6_pour 6 (some .int) 2 43 0 0 b xt [.ref (b + 0), .int v1] F g (sv_qI F Q) := by
  refine sv_intro mw_X6_pour [(0, .ref (b + 0)), (1, .int v1)] rfl (Nat.le_of_ble_eq_true rfl) (fun x G RR T NM => ?_)
  have G : sv_G x b xt RX6 cX6_pour 6 := G
  unfold wp_X6_pour at h
  refine sv_iload_n (pc := 0) G dX6_pour_0 1 rfl ?_
  refine sv_callS (cs := 0) (sl := 0) (st := []) (As := [.int v1]) (pc := 1) G RR (c_X6_isSheet hL  h) mw_X6_isSheet lk_X6_204 rfl ⟨(Nat.le_of_ble_eq_true rfl), (Nat.le_of_ble_eq_true rfl)⟩ ⟨(Nat.le_of_ble_eq_true rfl), (Nat.le_of_ble_eq_true rfl)⟩ (Nat.le_of_ble_eq_true rfl) rfl dX6_pour_1 (sv_kI (fun r_16 g_15 h => ?_))
  refine sv_if_ne (pc := 4) G 10 (by decide) dX6_pour_4 (fun c_17 => ?_) (fun c_17 => ?_)
  · have h := h.2 c_17
    refine sv_aload_n (pc := 10) G dX6_pour_10 0 rfl ?_
    refine sv_getR (pc := 11) G fw_X6_40 (hL.sh rfl) rfl (hL.rf 5 rfl) dX6_pour_11 ?_
    refine sv_iload_n (pc := 14) G dX6_pour_14 1 rfl ?_
    obtain ⟨s_18, h⟩ := h
    refine sv_aaldR (pc := 15) G 4 (fun _ => rfl) (by decide) (hL.sh rfl) s_18 (hL.qS s_18) dX6_pour_15 ?_
    refine sv_astore_n (pc := 16) G dX6_pour_16 [(2, .ref (b + (32 + 2 * v1.toNatClampNeg))), (0, .ref (b + 0)), (1, .int v1)] (by decide) rfl ?_
    refine sv_aload_n (pc := 17) G dX6_pour_17 0 rfl ?_
    refine sv_callV (cs := 0) (sl := 0) (st := []) (As := []) (a := (32 + 2 * v1.toNatClampNeg)) (pc := 18) G RR (c_X4_isMissing hL (sv_qS_is s_18) h) mw_X4_isMissing lk_X6_207 (hL.sS (sv_qS_is s_18)) (by decide) rfl rfl ⟨(Nat.le_of_ble_eq_true rfl), (Nat.le_of_ble_eq_true rfl)⟩ ⟨(Nat.le_of_ble_eq_true rfl), (Nat.le_of_ble_eq_true rfl)⟩ (Nat.le_of_ble_eq_true rfl) rfl dX6_pour_18 (sv_kI (fun r_20 g_19 h => ?_))
    refine sv_if_eq (pc := 21) G 27 (by decide) dX6_pour_21 (fun c_21 => ?_) (fun c_21 => ?_)
    · have h := h.1 c_21
      refine sv_iconst (pc := 27) G dX6_pour_27 0 ic_0 ?_
      refine sv_istore_n (pc := 28) G dX6_pour_28 [(3, .int 0), (2, .ref (b + (32 + 2 * v1.toNatClampNeg))), (0, .ref (b + 0)), (1, .int v1)] (by decide) rfl ?_
      refine sv_iconst (pc := 29) G dX6_pour_29 0 ic_0 ?_
      refine sv_istore (pc := 30) G dX6_pour_30 [(4, .int 0), (3, .int 0), (2, .ref (b + (32 + 2 * v1.toNatClampNeg))), (0, .ref (b + 0)), (1, .int v1)] (by decide) rfl ?_
      refine sv_locs [3, 2, 1, 0] [(0, .ref (b + 0)), (2, .ref (b + (32 + 2 * v1.toNatClampNeg))), (3, .int 0), (4, .int 0)] rfl ?_
      obtain ⟨n_22, h⟩ := h
      exact aw_X6_pour_32 G RR T hL   n_22 (32 + 2 * v1.toNatClampNeg) 0 0 g_19 (sv_qS_is s_18) h
    · have h := h.2 c_21
      refine sv_ldc (pc := 24) G dX6_pour_24 cn_X6_211 ?_
      exact sv_ireturn (pc := 26) G T ⟨(Nat.le_of_ble_eq_true rfl), (Nat.le_of_ble_eq_true rfl)⟩ dX6_pour_26 ⟨_, rfl, rfl, h⟩
  · have h := h.1 c_17
    refine sv_ldc (pc := 7) G dX6_pour_7 cn_X6_71 ?_
    exact sv_ireturn (pc := 9) G T ⟨(Nat.le_of_ble_eq_true rfl), (Nat.le_of_ble_eq_true rfl)⟩ dX6_pour_9 ⟨_, rfl, rfl, h⟩
def wp_X6_reads_88 (F : sv_Fr) (Q : Int32 → sv_Mg → Prop) (K29 : Nat → Int32 → sv_Mg → Prop) (r2 : Nat) (v3 : Int32) (g : sv_Mg) : Prop := ∀ v3_1 : Int32, v3_1 = v3 + 1 → K29 r2 v3_1 g
def wp_X6_reads_71 (F : sv_Fr) (Q : Int32 → sv_Mg → Prop) (K29 : Nat → Int32 → sv_Mg → Prop) (r2 : Nat) (v3 : Int32) (s0 : Int32) (g : sv_Mg) : Prop := wp_X4_isNumber F r2 v3 g (fun r_3 g_2 => ((r_3 = 0 → wp_X6_reads_88 F  Q K29 r2 v3 g_2) ∧ (¬ r_3 = 0 → ((s0 = 0 → Q v3 g_2) ∧ (¬ s0 = 0 → wp_X6_reads_88 F  Q K29 r2 v3 g_2)))))
def wp_X6_reads_70 (F : sv_Fr) (Q : Int32 → sv_Mg → Prop) (K29 : Nat → Int32 → sv_Mg → Prop) (r2 : Nat) (v3 : Int32) (g : sv_Mg) : Prop := wp_X6_reads_71 F  Q K29 r2 v3 0 g
def wp_X6_reads_29 (F : sv_Fr) (Q : Int32 → sv_Mg → Prop) : Nat → Nat → Int32 → sv_Mg → Prop
  | 0, _, _, _ => False
  | n + 1, r2, v3, g => (((g r2 2) ≤ v3 → Q (-1000000005) g) ∧ (¬ (g r2 2) ≤ v3 → wp_X0_isVoter F 7 v3 g (fun r_8 g_7 => ((r_8 = 0 → wp_X6_reads_70 F  Q (wp_X6_reads_29 F Q  n) r2 v3 g_7) ∧ (¬ r_8 = 0 → vp_in v3 24 ∧ vp_in v3 10 ∧ (((g_7 (r2 + 1) v3.toNatClampNeg) = (g_7 14 v3.toNatClampNeg) → wp_X6_reads_71 F  Q (wp_X6_reads_29 F Q  n) r2 v3 1 g_7) ∧ (¬ (g_7 (r2 + 1) v3.toNatClampNeg) = (g_7 14 v3.toNatClampNeg) → wp_X6_reads_70 F  Q (wp_X6_reads_29 F Q  n) r2 v3 g_7)))))))
def wp_X6_reads (F : sv_Fr) (v1 : Int32) (g : sv_Mg) (Q : Int32 → sv_Mg → Prop) : Prop := wp_X6_isSheet F v1 g (fun r_14 g_13 => ((r_14 = 0 → Q (-1000000001) g_13) ∧ (¬ r_14 = 0 → vp_in v1 4 ∧ wp_X4_isMissing F (32 + 2 * v1.toNatClampNeg) g_13 (fun r_18 g_17 => ((r_18 = 0 → ∃ n_20, wp_X6_reads_29 F  Q  n_20 (32 + 2 * v1.toNatClampNeg) 0 g_17) ∧ (¬ r_18 = 0 → Q (-1000000011) g_17))))))
set_option maxRecDepth 100000 in
set_option maxHeartbeats 4000000 in
theorem aw_X6_reads_88 {x : sv_X} {b : Nat} {xt : sv_Xt} {F : sv_Fr} {Q : Int32 → sv_Mg → Prop} (G : sv_G x b xt RX6 cX6_reads 5) (RR : sv_R x 2 42 0 0) (T : sv_RT x (some .int)) (hL : sv_Lay F) {K29 : Nat → Int32 → sv_Mg → Prop} (hK29 : ∀ (r2 : Nat) (v3 : Int32) (g : sv_Mg), (sv_isS r2) → K29 r2 v3 g → sv_AW x (sv_Q x (sv_qI F Q) 0 0) F g 0 0 29 [(0, .ref (b + 0)), (2, .ref (b + r2)), (3, .int v3)] []) : ∀ (r2 : Nat) (v3 : Int32) (g : sv_Mg), (sv_isS r2) → wp_X6_reads_88 F Q K29 r2 v3 g → sv_AW x (sv_Q x (sv_qI F Q) 0 0) F g 0 0 88 [(0, .ref (b + 0)), (2, .ref (b + r2)), (3, .int v3)] [] := by
  intro r2 v3 g hr2 h
  unfold wp_X6_reads_88 at h
  obtain ⟨v3_1, ev3_1⟩ : ∃ y : Int32, y = v3 + 1 := ⟨_, rfl⟩
  have h := h v3_1 ev3_1
  refine sv_iinc (pc := 88) G dX6_reads_88 2 v3_1 [(3, .int v3_1), (0, .ref (b + 0)), (2, .ref (b + r2))] (by rw [ev3_1, ic_1]) rfl (by decide) rfl ?_
  refine sv_goto (pc := 91) G dX6_reads_91 29 (by decide) ?_
  refine sv_locs [1, 2, 0] [(0, .ref (b + 0)), (2, .ref (b + r2)), (3, .int v3_1)] rfl ?_
  exact hK29 r2 v3_1 g hr2 h
set_option maxRecDepth 100000 in
set_option maxHeartbeats 4000000 in
theorem aw_X6_reads_71 {x : sv_X} {b : Nat} {xt : sv_Xt} {F : sv_Fr} {Q : Int32 → sv_Mg → Prop} (G : sv_G x b xt RX6 cX6_reads 5) (RR : sv_R x 2 42 0 0) (T : sv_RT x (some .int)) (hL : sv_Lay F) {K29 : Nat → Int32 → sv_Mg → Prop} (hK29 : ∀ (r2 : Nat) (v3 : Int32) (g : sv_Mg), (sv_isS r2) → K29 r2 v3 g → sv_AW x (sv_Q x (sv_qI F Q) 0 0) F g 0 0 29 [(0, .ref (b + 0)), (2, .ref (b + r2)), (3, .int v3)] []) : ∀ (r2 : Nat) (v3 : Int32) (s0 : Int32) (g : sv_Mg), (sv_isS r2) → wp_X6_reads_71 F Q K29 r2 v3 s0 g → sv_AW x (sv_Q x (sv_qI F Q) 0 0) F g 0 0 71 [(0, .ref (b + 0)), (2, .ref (b + r2)), (3, .int v3)] [.int s0] := by
  intro r2 v3 s0 g hr2 h
  unfold wp_X6_reads_71 at h
  refine sv_istore (pc := 71) G dX6_reads_71 [(4, .int s0), (0, .ref (b + 0)), (2, .ref (b + r2)), (3, .int v3)] (by decide) rfl ?_
  refine sv_aload_n (pc := 73) G dX6_reads_73 2 rfl ?_
  refine sv_iload_n (pc := 74) G dX6_reads_74 3 rfl ?_
  refine sv_callV (cs := 0) (sl := 0) (st := []) (As := [.int v3]) (a := r2) (pc := 75) G RR (c_X4_isNumber hL hr2 h) mw_X4_isNumber lk_X6_271 (hL.sS hr2) (by decide) rfl rfl ⟨(Nat.le_of_ble_eq_true rfl), (Nat.le_of_ble_eq_true rfl)⟩ ⟨(Nat.le_of_ble_eq_true rfl), (Nat.le_of_ble_eq_true rfl)⟩ (Nat.le_of_ble_eq_true rfl) rfl dX6_reads_75 (sv_kI (fun r_3 g_2 h => ?_))
  refine sv_if_eq (pc := 78) G 88 (by decide) dX6_reads_78 (fun c_4 => ?_) (fun c_4 => ?_)
  · have h := h.1 c_4
    refine sv_locs [1, 2, 3] [(0, .ref (b + 0)), (2, .ref (b + r2)), (3, .int v3)] rfl ?_
    exact aw_X6_reads_88 G RR T hL  hK29 r2 v3 g_2 hr2 h
  · have h := h.2 c_4
    refine sv_iload (pc := 81) G dX6_reads_81 0 rfl ?_
    refine sv_if_ne (pc := 83) G 88 (by decide) dX6_reads_83 (fun c_5 => ?_) (fun c_5 => ?_)
    · have h := h.2 c_5
      refine sv_locs [1, 2, 3] [(0, .ref (b + 0)), (2, .ref (b + r2)), (3, .int v3)] rfl ?_
      exact aw_X6_reads_88 G RR T hL  hK29 r2 v3 g_2 hr2 h
    · have h := h.1 c_5
      refine sv_iload_n (pc := 86) G dX6_reads_86 3 rfl ?_
      exact sv_ireturn (pc := 87) G T ⟨(Nat.le_of_ble_eq_true rfl), (Nat.le_of_ble_eq_true rfl)⟩ dX6_reads_87 ⟨_, rfl, rfl, h⟩
set_option maxRecDepth 100000 in
set_option maxHeartbeats 4000000 in
theorem aw_X6_reads_70 {x : sv_X} {b : Nat} {xt : sv_Xt} {F : sv_Fr} {Q : Int32 → sv_Mg → Prop} (G : sv_G x b xt RX6 cX6_reads 5) (RR : sv_R x 2 42 0 0) (T : sv_RT x (some .int)) (hL : sv_Lay F) {K29 : Nat → Int32 → sv_Mg → Prop} (hK29 : ∀ (r2 : Nat) (v3 : Int32) (g : sv_Mg), (sv_isS r2) → K29 r2 v3 g → sv_AW x (sv_Q x (sv_qI F Q) 0 0) F g 0 0 29 [(0, .ref (b + 0)), (2, .ref (b + r2)), (3, .int v3)] []) : ∀ (r2 : Nat) (v3 : Int32) (g : sv_Mg), (sv_isS r2) → wp_X6_reads_70 F Q K29 r2 v3 g → sv_AW x (sv_Q x (sv_qI F Q) 0 0) F g 0 0 70 [(0, .ref (b + 0)), (2, .ref (b + r2)), (3, .int v3)] [] := by
  intro r2 v3 g hr2 h
  unfold wp_X6_reads_70 at h
  refine sv_iconst (pc := 70) G dX6_reads_70 0 ic_0 ?_
  refine sv_locs [0, 1, 2] [(0, .ref (b + 0)), (2, .ref (b + r2)), (3, .int v3)] rfl ?_
  exact aw_X6_reads_71 G RR T hL  hK29 r2 v3 0 g hr2 h
set_option maxRecDepth 100000 in
set_option maxHeartbeats 4000000 in
theorem aw_X6_reads_29 {x : sv_X} {b : Nat} {xt : sv_Xt} {F : sv_Fr} {Q : Int32 → sv_Mg → Prop} (G : sv_G x b xt RX6 cX6_reads 5) (RR : sv_R x 2 42 0 0) (T : sv_RT x (some .int)) (hL : sv_Lay F) : ∀ (n : Nat) (r2 : Nat) (v3 : Int32) (g : sv_Mg), (sv_isS r2) → wp_X6_reads_29 F Q  n r2 v3 g → sv_AW x (sv_Q x (sv_qI F Q) 0 0) F g 0 0 29 [(0, .ref (b + 0)), (2, .ref (b + r2)), (3, .int v3)] [] := by
  intro n
  induction n with
  | zero => intro r2 v3 g hr2 h; exact h.elim
  | succ n ih =>
    intro r2 v3 g hr2 h
    rw [wp_X6_reads_29] at h
    refine sv_iload_n (pc := 29) G dX6_reads_29 2 rfl ?_
    refine sv_aload_n (pc := 30) G dX6_reads_30 1 rfl ?_
    refine sv_getI (pc := 31) G fw_X6_268 (hL.sS hr2) rfl dX6_reads_31 ?_
    refine sv_ic_ge (pc := 34) G 94 (by decide) dX6_reads_34 (fun c_6 => ?_) (fun c_6 => ?_)
    · have h := h.1 c_6
      refine sv_ldc (pc := 94) G dX6_reads_94 cn_X6_184 ?_
      exact sv_ireturn (pc := 96) G T ⟨(Nat.le_of_ble_eq_true rfl), (Nat.le_of_ble_eq_true rfl)⟩ dX6_reads_96 ⟨_, rfl, rfl, h⟩
    · have h := h.2 c_6
      refine sv_aload_n (pc := 37) G dX6_reads_37 0 rfl ?_
      refine sv_getR (pc := 38) G fw_X6_28 (hL.sh rfl) rfl (hL.rf 2 rfl) dX6_reads_38 ?_
      refine sv_iload_n (pc := 41) G dX6_reads_41 2 rfl ?_
      refine sv_callV (cs := 0) (sl := 0) (st := []) (As := [.int v3]) (a := 7) (pc := 42) G RR (c_X0_isVoter hL sv_C7 h) mw_X0_isVoter lk_X6_80 (hL.sh rfl) (by decide) rfl rfl ⟨(Nat.le_of_ble_eq_true rfl), (Nat.le_of_ble_eq_true rfl)⟩ ⟨(Nat.le_of_ble_eq_true rfl), (Nat.le_of_ble_eq_true rfl)⟩ (Nat.le_of_ble_eq_true rfl) rfl dX6_reads_42 (sv_kI (fun r_8 g_7 h => ?_))
      refine sv_if_eq (pc := 45) G 70 (by decide) dX6_reads_45 (fun c_9 => ?_) (fun c_9 => ?_)
      · have h := h.1 c_9
        refine sv_locs [0, 1, 2] [(0, .ref (b + 0)), (2, .ref (b + r2)), (3, .int v3)] rfl ?_
        exact aw_X6_reads_70 G RR T hL  ih r2 v3 g_7 hr2 h
      · have h := h.2 c_9
        refine sv_aload_n (pc := 48) G dX6_reads_48 1 rfl ?_
        refine sv_getR (pc := 49) G fw_X6_263 (hL.sS hr2) rfl (hL.sR hr2) dX6_reads_49 ?_
        refine sv_iload_n (pc := 52) G dX6_reads_52 2 rfl ?_
        obtain ⟨s_10, h⟩ := h
        refine sv_ialdK (pc := 53) G (hL.sA hr2) s_10 v3.toNatClampNeg rfl dX6_reads_53 ?_
        refine sv_aload_n (pc := 54) G dX6_reads_54 0 rfl ?_
        refine sv_getR (pc := 55) G fw_X6_28 (hL.sh rfl) rfl (hL.rf 2 rfl) dX6_reads_55 ?_
        refine sv_getR (pc := 58) G fw_X6_102 (hL.sh rfl) rfl (hL.rf 20 rfl) dX6_reads_58 ?_
        refine sv_iload_n (pc := 61) G dX6_reads_61 2 rfl ?_
        obtain ⟨s_11, h⟩ := h
        refine sv_ialdK (pc := 62) G (hL.sh rfl) s_11 v3.toNatClampNeg rfl dX6_reads_62 ?_
        refine sv_ic_ne (pc := 63) G 70 (by decide) dX6_reads_63 (fun c_12 => ?_) (fun c_12 => ?_)
        · have h := h.2 c_12
          refine sv_locs [0, 1, 2] [(0, .ref (b + 0)), (2, .ref (b + r2)), (3, .int v3)] rfl ?_
          exact aw_X6_reads_70 G RR T hL  ih r2 v3 g_7 hr2 h
        · have h := h.1 c_12
          refine sv_iconst (pc := 66) G dX6_reads_66 1 ic_1 ?_
          refine sv_goto (pc := 67) G dX6_reads_67 71 (by decide) ?_
          refine sv_locs [0, 1, 2] [(0, .ref (b + 0)), (2, .ref (b + r2)), (3, .int v3)] rfl ?_
          exact aw_X6_reads_71 G RR T hL  ih r2 v3 1 g_7 hr2 h
set_option maxRecDepth 100000 in
set_option maxHeartbeats 4000000 in
theorem c_X6_reads {b : Nat} {xt : sv_Xt} {F : sv_Fr} {v1 : Int32} {g : sv_Mg} {Q : Int32 → sv_Mg → Prop} (hL : sv_Lay F) (h : wp_X6_reads F v1 g Q) : sv_Cal yX6_reads cX6_reads 5 (some .int) 2 42 0 0 b xt [.ref (b + 0), .int v1] F g (sv_qI F Q) := by
  refine sv_intro mw_X6_reads [(0, .ref (b + 0)), (1, .int v1)] rfl (Nat.le_of_ble_eq_true rfl) (fun x G RR T NM => ?_)
  have G : sv_G x b xt RX6 cX6_reads 5 := G
  unfold wp_X6_reads at h
  refine sv_iload_n (pc := 0) G dX6_reads_0 1 rfl ?_
  refine sv_callS (cs := 0) (sl := 0) (st := []) (As := [.int v1]) (pc := 1) G RR (c_X6_isSheet hL  h) mw_X6_isSheet lk_X6_204 rfl ⟨(Nat.le_of_ble_eq_true rfl), (Nat.le_of_ble_eq_true rfl)⟩ ⟨(Nat.le_of_ble_eq_true rfl), (Nat.le_of_ble_eq_true rfl)⟩ (Nat.le_of_ble_eq_true rfl) rfl dX6_reads_1 (sv_kI (fun r_14 g_13 h => ?_))
  refine sv_if_ne (pc := 4) G 10 (by decide) dX6_reads_4 (fun c_15 => ?_) (fun c_15 => ?_)
  · have h := h.2 c_15
    refine sv_aload_n (pc := 10) G dX6_reads_10 0 rfl ?_
    refine sv_getR (pc := 11) G fw_X6_40 (hL.sh rfl) rfl (hL.rf 5 rfl) dX6_reads_11 ?_
    refine sv_iload_n (pc := 14) G dX6_reads_14 1 rfl ?_
    obtain ⟨s_16, h⟩ := h
    refine sv_aaldR (pc := 15) G 4 (fun _ => rfl) (by decide) (hL.sh rfl) s_16 (hL.qS s_16) dX6_reads_15 ?_
    refine sv_astore_n (pc := 16) G dX6_reads_16 [(2, .ref (b + (32 + 2 * v1.toNatClampNeg))), (0, .ref (b + 0)), (1, .int v1)] (by decide) rfl ?_
    refine sv_aload_n (pc := 17) G dX6_reads_17 0 rfl ?_
    refine sv_callV (cs := 0) (sl := 0) (st := []) (As := []) (a := (32 + 2 * v1.toNatClampNeg)) (pc := 18) G RR (c_X4_isMissing hL (sv_qS_is s_16) h) mw_X4_isMissing lk_X6_207 (hL.sS (sv_qS_is s_16)) (by decide) rfl rfl ⟨(Nat.le_of_ble_eq_true rfl), (Nat.le_of_ble_eq_true rfl)⟩ ⟨(Nat.le_of_ble_eq_true rfl), (Nat.le_of_ble_eq_true rfl)⟩ (Nat.le_of_ble_eq_true rfl) rfl dX6_reads_18 (sv_kI (fun r_18 g_17 h => ?_))
    refine sv_if_eq (pc := 21) G 27 (by decide) dX6_reads_21 (fun c_19 => ?_) (fun c_19 => ?_)
    · have h := h.1 c_19
      refine sv_iconst (pc := 27) G dX6_reads_27 0 ic_0 ?_
      refine sv_istore_n (pc := 28) G dX6_reads_28 [(3, .int 0), (2, .ref (b + (32 + 2 * v1.toNatClampNeg))), (0, .ref (b + 0)), (1, .int v1)] (by decide) rfl ?_
      refine sv_locs [2, 1, 0] [(0, .ref (b + 0)), (2, .ref (b + (32 + 2 * v1.toNatClampNeg))), (3, .int 0)] rfl ?_
      obtain ⟨n_20, h⟩ := h
      exact aw_X6_reads_29 G RR T hL   n_20 (32 + 2 * v1.toNatClampNeg) 0 g_17 (sv_qS_is s_16) h
    · have h := h.2 c_19
      refine sv_ldc (pc := 24) G dX6_reads_24 cn_X6_211 ?_
      exact sv_ireturn (pc := 26) G T ⟨(Nat.le_of_ble_eq_true rfl), (Nat.le_of_ble_eq_true rfl)⟩ dX6_reads_26 ⟨_, rfl, rfl, h⟩
  · have h := h.1 c_15
    refine sv_ldc (pc := 7) G dX6_reads_7 cn_X6_71 ?_
    exact sv_ireturn (pc := 9) G T ⟨(Nat.le_of_ble_eq_true rfl), (Nat.le_of_ble_eq_true rfl)⟩ dX6_reads_9 ⟨_, rfl, rfl, h⟩
def wp_X6_copy (F : sv_Fr) (v1 : Int32) (v2 : Int32) (v3 : Int32) (v4 : Int32) (v5 : Int32) (g : sv_Mg) (Q : Int32 → sv_Mg → Prop) : Prop := wp_X6_isSheet F v1 g (fun r_2 g_1 => ((r_2 = 0 → Q (-1000000001) g_1) ∧ (¬ r_2 = 0 → wp_X6_isSheet F v3 g_1 (fun r_5 g_4 => ((r_5 = 0 → Q (-1000000001) g_4) ∧ (¬ r_5 = 0 → vp_in v1 4 ∧ vp_in v3 4 ∧ wp_X4_isMissing F (32 + 2 * v1.toNatClampNeg) g_4 (fun r_10 g_9 => ((r_10 = 0 → wp_X4_isMissing F (32 + 2 * v3.toNatClampNeg) g_9 (fun r_13 g_12 => ((r_13 = 0 → (((g_12 (32 + 2 * v1.toNatClampNeg) 1) = (g_12 (32 + 2 * v3.toNatClampNeg) 1) → wp_X4_hasStretch F (32 + 2 * v1.toNatClampNeg) v2 v5 g_12 (fun r_17 g_16 => ((r_17 = 0 → Q (-1000000013) g_16) ∧ (¬ r_17 = 0 → wp_X4_hasStretch F (32 + 2 * v3.toNatClampNeg) v4 v5 g_16 (fun r_20 g_19 => ((r_20 = 0 → Q (-1000000013) g_19) ∧ (¬ r_20 = 0 → ¬ v2 < 0 ∧ ¬ v4 < 0 ∧ ¬ v5 < 0 ∧ v2.toNatClampNeg + v5.toNatClampNeg ≤ 24 ∧ v4.toNatClampNeg + v5.toNatClampNeg ≤ 24 ∧ ∀ g_22, g_22 = sv_sa g_19 ((32 + 2 * v3.toNatClampNeg) + 1) (va_cpy (g_19 ((32 + 2 * v1.toNatClampNeg) + 1)) (g_19 ((32 + 2 * v3.toNatClampNeg) + 1)) v2.toNatClampNeg v4.toNatClampNeg v5.toNatClampNeg) → Q v5 g_22))))))) ∧ (¬ (g_12 (32 + 2 * v1.toNatClampNeg) 1) = (g_12 (32 + 2 * v3.toNatClampNeg) 1) → Q (-1000000012) g_12))) ∧ (¬ r_13 = 0 → Q (-1000000011) g_12)))) ∧ (¬ r_10 = 0 → Q (-1000000011) g_9)))))))))
set_option maxRecDepth 100000 in
set_option maxHeartbeats 4000000 in
theorem c_X6_copy {b : Nat} {xt : sv_Xt} {F : sv_Fr} {v1 : Int32} {v2 : Int32} {v3 : Int32} {v4 : Int32} {v5 : Int32} {g : sv_Mg} {Q : Int32 → sv_Mg → Prop} (hL : sv_Lay F) (h : wp_X6_copy F v1 v2 v3 v4 v5 g Q) : sv_Cal yX6_copy cX6_copy 8 (some .int) 2 100 0 0 b xt [.ref (b + 0), .int v1, .int v2, .int v3, .int v4, .int v5] F g (sv_qI F Q) := by
  refine sv_intro mw_X6_copy [(0, .ref (b + 0)), (1, .int v1), (2, .int v2), (3, .int v3), (4, .int v4), (5, .int v5)] rfl (Nat.le_of_ble_eq_true rfl) (fun x G RR T NM => ?_)
  have G : sv_G x b xt RX6 cX6_copy 8 := G
  unfold wp_X6_copy at h
  refine sv_iload_n (pc := 0) G dX6_copy_0 1 rfl ?_
  refine sv_callS (cs := 0) (sl := 0) (st := []) (As := [.int v1]) (pc := 1) G RR (c_X6_isSheet hL  h) mw_X6_isSheet lk_X6_204 rfl ⟨(Nat.le_of_ble_eq_true rfl), (Nat.le_of_ble_eq_true rfl)⟩ ⟨(Nat.le_of_ble_eq_true rfl), (Nat.le_of_ble_eq_true rfl)⟩ (Nat.le_of_ble_eq_true rfl) rfl dX6_copy_1 (sv_kI (fun r_2 g_1 h => ?_))
  refine sv_if_eq (pc := 4) G 14 (by decide) dX6_copy_4 (fun c_3 => ?_) (fun c_3 => ?_)
  · have h := h.1 c_3
    refine sv_ldc (pc := 14) G dX6_copy_14 cn_X6_71 ?_
    exact sv_ireturn (pc := 16) G T ⟨(Nat.le_of_ble_eq_true rfl), (Nat.le_of_ble_eq_true rfl)⟩ dX6_copy_16 ⟨_, rfl, rfl, h⟩
  · have h := h.2 c_3
    refine sv_iload_n (pc := 7) G dX6_copy_7 3 rfl ?_
    refine sv_callS (cs := 0) (sl := 0) (st := []) (As := [.int v3]) (pc := 8) G RR (c_X6_isSheet hL  h) mw_X6_isSheet lk_X6_204 rfl ⟨(Nat.le_of_ble_eq_true rfl), (Nat.le_of_ble_eq_true rfl)⟩ ⟨(Nat.le_of_ble_eq_true rfl), (Nat.le_of_ble_eq_true rfl)⟩ (Nat.le_of_ble_eq_true rfl) rfl dX6_copy_8 (sv_kI (fun r_5 g_4 h => ?_))
    refine sv_if_ne (pc := 11) G 17 (by decide) dX6_copy_11 (fun c_6 => ?_) (fun c_6 => ?_)
    · have h := h.2 c_6
      refine sv_aload_n (pc := 17) G dX6_copy_17 0 rfl ?_
      refine sv_getR (pc := 18) G fw_X6_40 (hL.sh rfl) rfl (hL.rf 5 rfl) dX6_copy_18 ?_
      refine sv_iload_n (pc := 21) G dX6_copy_21 1 rfl ?_
      obtain ⟨s_7, h⟩ := h
      refine sv_aaldR (pc := 22) G 4 (fun _ => rfl) (by decide) (hL.sh rfl) s_7 (hL.qS s_7) dX6_copy_22 ?_
      refine sv_astore (pc := 23) G dX6_copy_23 [(6, .ref (b + (32 + 2 * v1.toNatClampNeg))), (0, .ref (b + 0)), (1, .int v1), (2, .int v2), (3, .int v3), (4, .int v4), (5, .int v5)] (by decide) rfl ?_
      refine sv_aload_n (pc := 25) G dX6_copy_25 1 rfl ?_
      refine sv_getR (pc := 26) G fw_X6_40 (hL.sh rfl) rfl (hL.rf 5 rfl) dX6_copy_26 ?_
      refine sv_iload_n (pc := 29) G dX6_copy_29 4 rfl ?_
      obtain ⟨s_8, h⟩ := h
      refine sv_aaldR (pc := 30) G 4 (fun _ => rfl) (by decide) (hL.sh rfl) s_8 (hL.qS s_8) dX6_copy_30 ?_
      refine sv_astore (pc := 31) G dX6_copy_31 [(7, .ref (b + (32 + 2 * v3.toNatClampNeg))), (6, .ref (b + (32 + 2 * v1.toNatClampNeg))), (0, .ref (b + 0)), (1, .int v1), (2, .int v2), (3, .int v3), (4, .int v4), (5, .int v5)] (by decide) rfl ?_
      refine sv_aload (pc := 33) G dX6_copy_33 1 rfl ?_
      refine sv_callV (cs := 0) (sl := 0) (st := []) (As := []) (a := (32 + 2 * v1.toNatClampNeg)) (pc := 35) G RR (c_X4_isMissing hL (sv_qS_is s_7) h) mw_X4_isMissing lk_X6_207 (hL.sS (sv_qS_is s_7)) (by decide) rfl rfl ⟨(Nat.le_of_ble_eq_true rfl), (Nat.le_of_ble_eq_true rfl)⟩ ⟨(Nat.le_of_ble_eq_true rfl), (Nat.le_of_ble_eq_true rfl)⟩ (Nat.le_of_ble_eq_true rfl) rfl dX6_copy_35 (sv_kI (fun r_10 g_9 h => ?_))
      refine sv_if_ne (pc := 38) G 49 (by decide) dX6_copy_38 (fun c_11 => ?_) (fun c_11 => ?_)
      · have h := h.2 c_11
        refine sv_ldc (pc := 49) G dX6_copy_49 cn_X6_211 ?_
        exact sv_ireturn (pc := 51) G T ⟨(Nat.le_of_ble_eq_true rfl), (Nat.le_of_ble_eq_true rfl)⟩ dX6_copy_51 ⟨_, rfl, rfl, h⟩
      · have h := h.1 c_11
        refine sv_aload (pc := 41) G dX6_copy_41 0 rfl ?_
        refine sv_callV (cs := 0) (sl := 0) (st := []) (As := []) (a := (32 + 2 * v3.toNatClampNeg)) (pc := 43) G RR (c_X4_isMissing hL (sv_qS_is s_8) h) mw_X4_isMissing lk_X6_207 (hL.sS (sv_qS_is s_8)) (by decide) rfl rfl ⟨(Nat.le_of_ble_eq_true rfl), (Nat.le_of_ble_eq_true rfl)⟩ ⟨(Nat.le_of_ble_eq_true rfl), (Nat.le_of_ble_eq_true rfl)⟩ (Nat.le_of_ble_eq_true rfl) rfl dX6_copy_43 (sv_kI (fun r_13 g_12 h => ?_))
        refine sv_if_eq (pc := 46) G 52 (by decide) dX6_copy_46 (fun c_14 => ?_) (fun c_14 => ?_)
        · have h := h.1 c_14
          refine sv_aload (pc := 52) G dX6_copy_52 1 rfl ?_
          refine sv_getI (pc := 54) G fw_X6_260 (hL.sS (sv_qS_is s_7)) rfl dX6_copy_54 ?_
          refine sv_aload (pc := 57) G dX6_copy_57 0 rfl ?_
          refine sv_getI (pc := 59) G fw_X6_260 (hL.sS (sv_qS_is s_8)) rfl dX6_copy_59 ?_
          refine sv_ic_eq (pc := 62) G 68 (by decide) dX6_copy_62 (fun c_15 => ?_) (fun c_15 => ?_)
          · have h := h.1 c_15
            refine sv_aload (pc := 68) G dX6_copy_68 1 rfl ?_
            refine sv_iload_n (pc := 70) G dX6_copy_70 4 rfl ?_
            refine sv_iload (pc := 71) G dX6_copy_71 7 rfl ?_
            refine sv_callV (cs := 0) (sl := 0) (st := []) (As := [.int v2, .int v5]) (a := (32 + 2 * v1.toNatClampNeg)) (pc := 73) G RR (c_X4_hasStretch hL (sv_qS_is s_7) h) mw_X4_hasStretch lk_X6_277 (hL.sS (sv_qS_is s_7)) (by decide) rfl rfl ⟨(Nat.le_of_ble_eq_true rfl), (Nat.le_of_ble_eq_true rfl)⟩ ⟨(Nat.le_of_ble_eq_true rfl), (Nat.le_of_ble_eq_true rfl)⟩ (Nat.le_of_ble_eq_true rfl) rfl dX6_copy_73 (sv_kI (fun r_17 g_16 h => ?_))
            refine sv_if_eq (pc := 76) G 91 (by decide) dX6_copy_76 (fun c_18 => ?_) (fun c_18 => ?_)
            · have h := h.1 c_18
              refine sv_ldcw (pc := 91) G dX6_copy_91 cn_X6_259 ?_
              exact sv_ireturn (pc := 94) G T ⟨(Nat.le_of_ble_eq_true rfl), (Nat.le_of_ble_eq_true rfl)⟩ dX6_copy_94 ⟨_, rfl, rfl, h⟩
            · have h := h.2 c_18
              refine sv_aload (pc := 79) G dX6_copy_79 0 rfl ?_
              refine sv_iload (pc := 81) G dX6_copy_81 6 rfl ?_
              refine sv_iload (pc := 83) G dX6_copy_83 7 rfl ?_
              refine sv_callV (cs := 0) (sl := 0) (st := []) (As := [.int v4, .int v5]) (a := (32 + 2 * v3.toNatClampNeg)) (pc := 85) G RR (c_X4_hasStretch hL (sv_qS_is s_8) h) mw_X4_hasStretch lk_X6_277 (hL.sS (sv_qS_is s_8)) (by decide) rfl rfl ⟨(Nat.le_of_ble_eq_true rfl), (Nat.le_of_ble_eq_true rfl)⟩ ⟨(Nat.le_of_ble_eq_true rfl), (Nat.le_of_ble_eq_true rfl)⟩ (Nat.le_of_ble_eq_true rfl) rfl dX6_copy_85 (sv_kI (fun r_20 g_19 h => ?_))
              refine sv_if_ne (pc := 88) G 95 (by decide) dX6_copy_88 (fun c_21 => ?_) (fun c_21 => ?_)
              · have h := h.2 c_21
                refine sv_aload (pc := 95) G dX6_copy_95 1 rfl ?_
                refine sv_getR (pc := 97) G fw_X6_263 (hL.sS (sv_qS_is s_7)) rfl (hL.sR (sv_qS_is s_7)) dX6_copy_97 ?_
                refine sv_iload_n (pc := 100) G dX6_copy_100 4 rfl ?_
                refine sv_aload (pc := 101) G dX6_copy_101 0 rfl ?_
                refine sv_getR (pc := 103) G fw_X6_263 (hL.sS (sv_qS_is s_8)) rfl (hL.sR (sv_qS_is s_8)) dX6_copy_103 ?_
                refine sv_iload (pc := 106) G dX6_copy_106 6 rfl ?_
                refine sv_iload (pc := 108) G dX6_copy_108 7 rfl ?_
                obtain ⟨s_23, h⟩ := h
                obtain ⟨s_24, h⟩ := h
                obtain ⟨s_25, h⟩ := h
                obtain ⟨s_26, h⟩ := h
                obtain ⟨s_27, h⟩ := h
                refine sv_copyK (pc := 110) G RR lk_X6_280 wd_ac1 wd_ac2 wd_sys (hL.sA (sv_qS_is s_7)) (hL.sA (sv_qS_is s_8)) s_23 s_24 s_25 rfl rfl rfl s_26 s_27 (Nat.le_of_ble_eq_true rfl) (Nat.le_of_ble_eq_true rfl) dX6_copy_110 (fun g_22 eg_22 => ?_)
                have h := h g_22 eg_22
                refine sv_iload (pc := 113) G dX6_copy_113 7 rfl ?_
                exact sv_ireturn (pc := 115) G T ⟨(Nat.le_of_ble_eq_true rfl), (Nat.le_of_ble_eq_true rfl)⟩ dX6_copy_115 ⟨_, rfl, rfl, h⟩
              · have h := h.1 c_21
                refine sv_ldcw (pc := 91) G dX6_copy_91 cn_X6_259 ?_
                exact sv_ireturn (pc := 94) G T ⟨(Nat.le_of_ble_eq_true rfl), (Nat.le_of_ble_eq_true rfl)⟩ dX6_copy_94 ⟨_, rfl, rfl, h⟩
          · have h := h.2 c_15
            refine sv_ldc (pc := 65) G dX6_copy_65 cn_X6_128 ?_
            exact sv_ireturn (pc := 67) G T ⟨(Nat.le_of_ble_eq_true rfl), (Nat.le_of_ble_eq_true rfl)⟩ dX6_copy_67 ⟨_, rfl, rfl, h⟩
        · have h := h.2 c_14
          refine sv_ldc (pc := 49) G dX6_copy_49 cn_X6_211 ?_
          exact sv_ireturn (pc := 51) G T ⟨(Nat.le_of_ble_eq_true rfl), (Nat.le_of_ble_eq_true rfl)⟩ dX6_copy_51 ⟨_, rfl, rfl, h⟩
    · have h := h.1 c_6
      refine sv_ldc (pc := 14) G dX6_copy_14 cn_X6_71 ?_
      exact sv_ireturn (pc := 16) G T ⟨(Nat.le_of_ble_eq_true rfl), (Nat.le_of_ble_eq_true rfl)⟩ dX6_copy_16 ⟨_, rfl, rfl, h⟩
def wp_X6_isSlot (F : sv_Fr) (v0 : Int32) (g : sv_Mg) (Q : Int32 → sv_Mg → Prop) : Prop := wp_X6_isWithin F v0 0 4 g (fun r_2 g_1 => (r_2 = 0 ∨ r_2 = 1) ∧ Q r_2 g_1)
set_option maxRecDepth 100000 in
set_option maxHeartbeats 4000000 in
theorem c_X6_isSlot {b : Nat} {xt : sv_Xt} {F : sv_Fr} {v0 : Int32} {g : sv_Mg} {Q : Int32 → sv_Mg → Prop} (hL : sv_Lay F) (h : wp_X6_isSlot F v0 g Q) : sv_Cal yX6_isSlot cX6_isSlot 1 (some .boolean) 1 22 0 0 b xt [.int v0] F g (sv_qI F Q) := by
  refine sv_intro mw_X6_isSlot [(0, .int v0)] rfl (Nat.le_of_ble_eq_true rfl) (fun x G RR T NM => ?_)
  have G : sv_G x b xt RX6 cX6_isSlot 1 := G
  unfold wp_X6_isSlot at h
  refine sv_iload_n (pc := 0) G dX6_isSlot_0 0 rfl ?_
  refine sv_iconst (pc := 1) G dX6_isSlot_1 0 ic_0 ?_
  refine sv_iconst (pc := 2) G dX6_isSlot_2 4 ic_4 ?_
  refine sv_callS (cs := 0) (sl := 0) (st := []) (As := [.int v0, .int 0, .int 4]) (pc := 3) G RR (c_X6_isWithin hL  h) mw_X6_isWithin lk_X6_67 rfl ⟨(Nat.le_of_ble_eq_true rfl), (Nat.le_of_ble_eq_true rfl)⟩ ⟨(Nat.le_of_ble_eq_true rfl), (Nat.le_of_ble_eq_true rfl)⟩ (Nat.le_of_ble_eq_true rfl) rfl dX6_isSlot_3 (sv_kI (fun r_2 g_1 h => ?_))
  obtain ⟨s_3, h⟩ := h
  exact sv_zreturn (pc := 6) G T s_3 ⟨(Nat.le_of_ble_eq_true rfl), (Nat.le_of_ble_eq_true rfl)⟩ dX6_isSlot_6 ⟨_, rfl, rfl, h⟩
def wp_X6_lay_68 (F : sv_Fr) (Q : Int32 → sv_Mg → Prop) (v1 : Int32) (v2 : Int32) (v3 : Int32) (g : sv_Mg) : Prop := vp_in v1 5 ∧ ∀ v5_2 : Int32, v5_2 = (g (41 + 3 * v1.toNatClampNeg) 1) → ∀ g_3, g_3 = sv_st g (41 + 3 * v1.toNatClampNeg) 1 v2 → ((v2 = 1 → vp_in v3 10 ∧ ∀ g_11, g_11 = sv_st g_3 (41 + 3 * v1.toNatClampNeg) 2 (g_3 8 v3.toNatClampNeg) → vp_in v3 10 ∧ ∀ g_13, g_13 = sv_st g_11 (41 + 3 * v1.toNatClampNeg) 3 (g_11 11 v3.toNatClampNeg) → Q v5_2 g_13) ∧ (¬ v2 = 1 → ((v2 = 2 → vp_in v3 4 ∧ wp_X4_become F ((41 + 3 * v1.toNatClampNeg) + 1) (32 + 2 * v3.toNatClampNeg) g_3 (fun g_9 => Q v5_2 g_9)) ∧ (¬ v2 = 2 → ((v2 = 3 → ∀ g_7, g_7 = sv_st g_3 (41 + 3 * v1.toNatClampNeg) 4 v3 → Q v5_2 g_7) ∧ (¬ v2 = 3 → Q v5_2 g_3))))))
def wp_X6_lay_38 (F : sv_Fr) (Q : Int32 → sv_Mg → Prop) (v1 : Int32) (v2 : Int32) (v3 : Int32) (g : sv_Mg) : Prop := ((v2 = 2 → wp_X6_isSheet F v3 g (fun r_16 g_15 => ((r_16 = 0 → Q (-1000000001) g_15) ∧ (¬ r_16 = 0 → vp_in v3 4 ∧ wp_X4_isMissing F (32 + 2 * v3.toNatClampNeg) g_15 (fun r_20 g_19 => ((r_20 = 0 → wp_X6_lay_68 F  Q  v1 v2 v3 g_19) ∧ (¬ r_20 = 0 → Q (-1000000011) g_19))))))) ∧ (¬ v2 = 2 → wp_X6_lay_68 F  Q  v1 v2 v3 g))
def wp_X6_lay (F : sv_Fr) (v1 : Int32) (v2 : Int32) (v3 : Int32) (g : sv_Mg) (Q : Int32 → sv_Mg → Prop) : Prop := wp_X6_isSlot F v1 g (fun r_23 g_22 => ((r_23 = 0 → Q (-1000000001) g_22) ∧ (¬ r_23 = 0 → wp_X6_isWithin F v2 0 3 g_22 (fun r_26 g_25 => ((r_26 = 0 → Q (-1000000001) g_25) ∧ (¬ r_26 = 0 → ((v2 = 1 → wp_X0_isVoter F 7 v3 g_25 (fun r_30 g_29 => ((r_30 = 0 → Q (-1000000001) g_29) ∧ (¬ r_30 = 0 → wp_X6_lay_38 F  Q  v1 v2 v3 g_29)))) ∧ (¬ v2 = 1 → wp_X6_lay_38 F  Q  v1 v2 v3 g_25))))))))
set_option maxRecDepth 100000 in
set_option maxHeartbeats 4000000 in
theorem aw_X6_lay_68 {x : sv_X} {b : Nat} {xt : sv_Xt} {F : sv_Fr} {Q : Int32 → sv_Mg → Prop} (G : sv_G x b xt RX6 cX6_lay 6) (RR : sv_R x 2 121 0 0) (T : sv_RT x (some .int)) (hL : sv_Lay F) : ∀ (v1 : Int32) (v2 : Int32) (v3 : Int32) (g : sv_Mg), wp_X6_lay_68 F Q  v1 v2 v3 g → sv_AW x (sv_Q x (sv_qI F Q) 0 0) F g 0 0 68 [(0, .ref (b + 0)), (1, .int v1), (2, .int v2), (3, .int v3)] [] := by
  intro v1 v2 v3 g h
  unfold wp_X6_lay_68 at h
  refine sv_aload_n (pc := 68) G dX6_lay_68 0 rfl ?_
  refine sv_getR (pc := 69) G fw_X6_47 (hL.sh rfl) rfl (hL.rf 6 rfl) dX6_lay_69 ?_
  refine sv_iload_n (pc := 72) G dX6_lay_72 1 rfl ?_
  obtain ⟨s_1, h⟩ := h
  refine sv_aaldR (pc := 73) G 5 (fun _ => rfl) (by decide) (hL.sh rfl) s_1 (hL.qT s_1) dX6_lay_73 ?_
  refine sv_astore (pc := 74) G dX6_lay_74 [(4, .ref (b + (41 + 3 * v1.toNatClampNeg))), (0, .ref (b + 0)), (1, .int v1), (2, .int v2), (3, .int v3)] (by decide) rfl ?_
  refine sv_aload (pc := 76) G dX6_lay_76 0 rfl ?_
  refine sv_getI (pc := 78) G fw_X6_289 (hL.tS (sv_qT_is s_1)) rfl dX6_lay_78 ?_
  refine sv_topi (fun v5_2 ev5_2 => ?_)
  have h := h v5_2 ev5_2
  refine sv_istore (pc := 81) G dX6_lay_81 [(5, .int v5_2), (4, .ref (b + (41 + 3 * v1.toNatClampNeg))), (0, .ref (b + 0)), (1, .int v1), (2, .int v2), (3, .int v3)] (by decide) rfl ?_
  refine sv_aload (pc := 83) G dX6_lay_83 1 rfl ?_
  refine sv_iload_n (pc := 85) G dX6_lay_85 4 rfl ?_
  refine sv_putI (pc := 86) G fw_X6_289 (hL.tS (sv_qT_is s_1)) rfl dX6_lay_86 (fun g_3 eg_3 => ?_)
  have h := h g_3 eg_3
  refine sv_iload_n (pc := 89) G dX6_lay_89 4 rfl ?_
  refine sv_iconst (pc := 90) G dX6_lay_90 1 ic_1 ?_
  refine sv_ic_ne (pc := 91) G 125 (by decide) dX6_lay_91 (fun c_4 => ?_) (fun c_4 => ?_)
  · have h := h.2 c_4
    refine sv_iload_n (pc := 125) G dX6_lay_125 4 rfl ?_
    refine sv_iconst (pc := 126) G dX6_lay_126 2 ic_2 ?_
    refine sv_ic_ne (pc := 127) G 147 (by decide) dX6_lay_127 (fun c_5 => ?_) (fun c_5 => ?_)
    · have h := h.2 c_5
      refine sv_iload_n (pc := 147) G dX6_lay_147 4 rfl ?_
      refine sv_iconst (pc := 148) G dX6_lay_148 3 ic_3 ?_
      refine sv_ic_ne (pc := 149) G 158 (by decide) dX6_lay_149 (fun c_6 => ?_) (fun c_6 => ?_)
      · have h := h.2 c_6
        refine sv_iload (pc := 158) G dX6_lay_158 0 rfl ?_
        exact sv_ireturn (pc := 160) G T ⟨(Nat.le_of_ble_eq_true rfl), (Nat.le_of_ble_eq_true rfl)⟩ dX6_lay_160 ⟨_, rfl, rfl, h⟩
      · have h := h.1 c_6
        refine sv_aload (pc := 152) G dX6_lay_152 1 rfl ?_
        refine sv_iload_n (pc := 154) G dX6_lay_154 5 rfl ?_
        refine sv_putI (pc := 155) G fw_X6_305 (hL.tS (sv_qT_is s_1)) rfl dX6_lay_155 (fun g_7 eg_7 => ?_)
        have h := h g_7 eg_7
        refine sv_iload (pc := 158) G dX6_lay_158 0 rfl ?_
        exact sv_ireturn (pc := 160) G T ⟨(Nat.le_of_ble_eq_true rfl), (Nat.le_of_ble_eq_true rfl)⟩ dX6_lay_160 ⟨_, rfl, rfl, h⟩
    · have h := h.1 c_5
      refine sv_aload (pc := 130) G dX6_lay_130 1 rfl ?_
      refine sv_getR (pc := 132) G fw_X6_298 (hL.tS (sv_qT_is s_1)) rfl (hL.tR (sv_qT_is s_1)) dX6_lay_132 ?_
      refine sv_aload_n (pc := 135) G dX6_lay_135 2 rfl ?_
      refine sv_getR (pc := 136) G fw_X6_40 (hL.sh rfl) rfl (hL.rf 5 rfl) dX6_lay_136 ?_
      refine sv_iload_n (pc := 139) G dX6_lay_139 5 rfl ?_
      obtain ⟨s_8, h⟩ := h
      refine sv_aaldR (pc := 140) G 4 (fun _ => rfl) (by decide) (hL.sh rfl) s_8 (hL.qS s_8) dX6_lay_140 ?_
      refine sv_callV (cs := 0) (sl := 0) (st := []) (As := [.ref (b + (32 + 2 * v3.toNatClampNeg))]) (a := ((41 + 3 * v1.toNatClampNeg) + 1)) (pc := 141) G RR (c_X4_become hL ((sv_qT_is s_1).row) (sv_qS_is s_8) h) mw_X4_become lk_X6_302 (hL.sS (sv_qT_is s_1).row) (by decide) rfl rfl ⟨(Nat.le_of_ble_eq_true rfl), (Nat.le_of_ble_eq_true rfl)⟩ ⟨(Nat.le_of_ble_eq_true rfl), (Nat.le_of_ble_eq_true rfl)⟩ (Nat.le_of_ble_eq_true rfl) rfl dX6_lay_141 (sv_kV (fun g_9 h => ?_))
      refine sv_goto (pc := 144) G dX6_lay_144 158 (by decide) ?_
      refine sv_iload (pc := 158) G dX6_lay_158 0 rfl ?_
      exact sv_ireturn (pc := 160) G T ⟨(Nat.le_of_ble_eq_true rfl), (Nat.le_of_ble_eq_true rfl)⟩ dX6_lay_160 ⟨_, rfl, rfl, h⟩
  · have h := h.1 c_4
    refine sv_aload (pc := 94) G dX6_lay_94 1 rfl ?_
    refine sv_aload_n (pc := 96) G dX6_lay_96 2 rfl ?_
    refine sv_getR (pc := 97) G fw_X6_28 (hL.sh rfl) rfl (hL.rf 2 rfl) dX6_lay_97 ?_
    refine sv_getR (pc := 100) G fw_X6_84 (hL.sh rfl) rfl (hL.rf 14 rfl) dX6_lay_100 ?_
    refine sv_iload_n (pc := 103) G dX6_lay_103 5 rfl ?_
    obtain ⟨s_10, h⟩ := h
    refine sv_ialdK (pc := 104) G (hL.sh rfl) s_10 v3.toNatClampNeg rfl dX6_lay_104 ?_
    refine sv_putI (pc := 105) G fw_X6_292 (hL.tS (sv_qT_is s_1)) rfl dX6_lay_105 (fun g_11 eg_11 => ?_)
    have h := h g_11 eg_11
    refine sv_aload (pc := 108) G dX6_lay_108 1 rfl ?_
    refine sv_aload_n (pc := 110) G dX6_lay_110 2 rfl ?_
    refine sv_getR (pc := 111) G fw_X6_28 (hL.sh rfl) rfl (hL.rf 2 rfl) dX6_lay_111 ?_
    refine sv_getR (pc := 114) G fw_X6_93 (hL.sh rfl) rfl (hL.rf 17 rfl) dX6_lay_114 ?_
    refine sv_iload_n (pc := 117) G dX6_lay_117 5 rfl ?_
    obtain ⟨s_12, h⟩ := h
    refine sv_ialdK (pc := 118) G (hL.sh rfl) s_12 v3.toNatClampNeg rfl dX6_lay_118 ?_
    refine sv_putI (pc := 119) G fw_X6_295 (hL.tS (sv_qT_is s_1)) rfl dX6_lay_119 (fun g_13 eg_13 => ?_)
    have h := h g_13 eg_13
    refine sv_goto (pc := 122) G dX6_lay_122 158 (by decide) ?_
    refine sv_iload (pc := 158) G dX6_lay_158 0 rfl ?_
    exact sv_ireturn (pc := 160) G T ⟨(Nat.le_of_ble_eq_true rfl), (Nat.le_of_ble_eq_true rfl)⟩ dX6_lay_160 ⟨_, rfl, rfl, h⟩
set_option maxRecDepth 100000 in
set_option maxHeartbeats 4000000 in
theorem aw_X6_lay_38 {x : sv_X} {b : Nat} {xt : sv_Xt} {F : sv_Fr} {Q : Int32 → sv_Mg → Prop} (G : sv_G x b xt RX6 cX6_lay 6) (RR : sv_R x 2 121 0 0) (T : sv_RT x (some .int)) (hL : sv_Lay F) : ∀ (v1 : Int32) (v2 : Int32) (v3 : Int32) (g : sv_Mg), wp_X6_lay_38 F Q  v1 v2 v3 g → sv_AW x (sv_Q x (sv_qI F Q) 0 0) F g 0 0 38 [(0, .ref (b + 0)), (1, .int v1), (2, .int v2), (3, .int v3)] [] := by
  intro v1 v2 v3 g h
  unfold wp_X6_lay_38 at h
  refine sv_iload_n (pc := 38) G dX6_lay_38 2 rfl ?_
  refine sv_iconst (pc := 39) G dX6_lay_39 2 ic_2 ?_
  refine sv_ic_ne (pc := 40) G 68 (by decide) dX6_lay_40 (fun c_14 => ?_) (fun c_14 => ?_)
  · have h := h.2 c_14
    refine sv_locs [0, 1, 2, 3] [(0, .ref (b + 0)), (1, .int v1), (2, .int v2), (3, .int v3)] rfl ?_
    exact aw_X6_lay_68 G RR T hL   v1 v2 v3 g  h
  · have h := h.1 c_14
    refine sv_iload_n (pc := 43) G dX6_lay_43 3 rfl ?_
    refine sv_callS (cs := 0) (sl := 0) (st := []) (As := [.int v3]) (pc := 44) G RR (c_X6_isSheet hL  h) mw_X6_isSheet lk_X6_204 rfl ⟨(Nat.le_of_ble_eq_true rfl), (Nat.le_of_ble_eq_true rfl)⟩ ⟨(Nat.le_of_ble_eq_true rfl), (Nat.le_of_ble_eq_true rfl)⟩ (Nat.le_of_ble_eq_true rfl) rfl dX6_lay_44 (sv_kI (fun r_16 g_15 h => ?_))
    refine sv_if_ne (pc := 47) G 53 (by decide) dX6_lay_47 (fun c_17 => ?_) (fun c_17 => ?_)
    · have h := h.2 c_17
      refine sv_aload_n (pc := 53) G dX6_lay_53 0 rfl ?_
      refine sv_getR (pc := 54) G fw_X6_40 (hL.sh rfl) rfl (hL.rf 5 rfl) dX6_lay_54 ?_
      refine sv_iload_n (pc := 57) G dX6_lay_57 3 rfl ?_
      obtain ⟨s_18, h⟩ := h
      refine sv_aaldR (pc := 58) G 4 (fun _ => rfl) (by decide) (hL.sh rfl) s_18 (hL.qS s_18) dX6_lay_58 ?_
      refine sv_callV (cs := 0) (sl := 0) (st := []) (As := []) (a := (32 + 2 * v3.toNatClampNeg)) (pc := 59) G RR (c_X4_isMissing hL (sv_qS_is s_18) h) mw_X4_isMissing lk_X6_207 (hL.sS (sv_qS_is s_18)) (by decide) rfl rfl ⟨(Nat.le_of_ble_eq_true rfl), (Nat.le_of_ble_eq_true rfl)⟩ ⟨(Nat.le_of_ble_eq_true rfl), (Nat.le_of_ble_eq_true rfl)⟩ (Nat.le_of_ble_eq_true rfl) rfl dX6_lay_59 (sv_kI (fun r_20 g_19 h => ?_))
      refine sv_if_eq (pc := 62) G 68 (by decide) dX6_lay_62 (fun c_21 => ?_) (fun c_21 => ?_)
      · have h := h.1 c_21
        refine sv_locs [0, 1, 2, 3] [(0, .ref (b + 0)), (1, .int v1), (2, .int v2), (3, .int v3)] rfl ?_
        exact aw_X6_lay_68 G RR T hL   v1 v2 v3 g_19  h
      · have h := h.2 c_21
        refine sv_ldc (pc := 65) G dX6_lay_65 cn_X6_211 ?_
        exact sv_ireturn (pc := 67) G T ⟨(Nat.le_of_ble_eq_true rfl), (Nat.le_of_ble_eq_true rfl)⟩ dX6_lay_67 ⟨_, rfl, rfl, h⟩
    · have h := h.1 c_17
      refine sv_ldc (pc := 50) G dX6_lay_50 cn_X6_71 ?_
      exact sv_ireturn (pc := 52) G T ⟨(Nat.le_of_ble_eq_true rfl), (Nat.le_of_ble_eq_true rfl)⟩ dX6_lay_52 ⟨_, rfl, rfl, h⟩
set_option maxRecDepth 100000 in
set_option maxHeartbeats 4000000 in
theorem c_X6_lay {b : Nat} {xt : sv_Xt} {F : sv_Fr} {v1 : Int32} {v2 : Int32} {v3 : Int32} {g : sv_Mg} {Q : Int32 → sv_Mg → Prop} (hL : sv_Lay F) (h : wp_X6_lay F v1 v2 v3 g Q) : sv_Cal yX6_lay cX6_lay 6 (some .int) 2 121 0 0 b xt [.ref (b + 0), .int v1, .int v2, .int v3] F g (sv_qI F Q) := by
  refine sv_intro mw_X6_lay [(0, .ref (b + 0)), (1, .int v1), (2, .int v2), (3, .int v3)] rfl (Nat.le_of_ble_eq_true rfl) (fun x G RR T NM => ?_)
  have G : sv_G x b xt RX6 cX6_lay 6 := G
  unfold wp_X6_lay at h
  refine sv_iload_n (pc := 0) G dX6_lay_0 1 rfl ?_
  refine sv_callS (cs := 0) (sl := 0) (st := []) (As := [.int v1]) (pc := 1) G RR (c_X6_isSlot hL  h) mw_X6_isSlot lk_X6_286 rfl ⟨(Nat.le_of_ble_eq_true rfl), (Nat.le_of_ble_eq_true rfl)⟩ ⟨(Nat.le_of_ble_eq_true rfl), (Nat.le_of_ble_eq_true rfl)⟩ (Nat.le_of_ble_eq_true rfl) rfl dX6_lay_1 (sv_kI (fun r_23 g_22 h => ?_))
  refine sv_if_eq (pc := 4) G 16 (by decide) dX6_lay_4 (fun c_24 => ?_) (fun c_24 => ?_)
  · have h := h.1 c_24
    refine sv_ldc (pc := 16) G dX6_lay_16 cn_X6_71 ?_
    exact sv_ireturn (pc := 18) G T ⟨(Nat.le_of_ble_eq_true rfl), (Nat.le_of_ble_eq_true rfl)⟩ dX6_lay_18 ⟨_, rfl, rfl, h⟩
  · have h := h.2 c_24
    refine sv_iload_n (pc := 7) G dX6_lay_7 2 rfl ?_
    refine sv_iconst (pc := 8) G dX6_lay_8 0 ic_0 ?_
    refine sv_iconst (pc := 9) G dX6_lay_9 3 ic_3 ?_
    refine sv_callS (cs := 0) (sl := 0) (st := []) (As := [.int v2, .int 0, .int 3]) (pc := 10) G RR (c_X6_isWithin hL  h) mw_X6_isWithin lk_X6_67 rfl ⟨(Nat.le_of_ble_eq_true rfl), (Nat.le_of_ble_eq_true rfl)⟩ ⟨(Nat.le_of_ble_eq_true rfl), (Nat.le_of_ble_eq_true rfl)⟩ (Nat.le_of_ble_eq_true rfl) rfl dX6_lay_10 (sv_kI (fun r_26 g_25 h => ?_))
    refine sv_if_ne (pc := 13) G 19 (by decide) dX6_lay_13 (fun c_27 => ?_) (fun c_27 => ?_)
    · have h := h.2 c_27
      refine sv_iload_n (pc := 19) G dX6_lay_19 2 rfl ?_
      refine sv_iconst (pc := 20) G dX6_lay_20 1 ic_1 ?_
      refine sv_ic_ne (pc := 21) G 38 (by decide) dX6_lay_21 (fun c_28 => ?_) (fun c_28 => ?_)
      · have h := h.2 c_28
        refine sv_locs [0, 1, 2, 3] [(0, .ref (b + 0)), (1, .int v1), (2, .int v2), (3, .int v3)] rfl ?_
        exact aw_X6_lay_38 G RR T hL   v1 v2 v3 g_25  h
      · have h := h.1 c_28
        refine sv_aload_n (pc := 24) G dX6_lay_24 0 rfl ?_
        refine sv_getR (pc := 25) G fw_X6_28 (hL.sh rfl) rfl (hL.rf 2 rfl) dX6_lay_25 ?_
        refine sv_iload_n (pc := 28) G dX6_lay_28 3 rfl ?_
        refine sv_callV (cs := 0) (sl := 0) (st := []) (As := [.int v3]) (a := 7) (pc := 29) G RR (c_X0_isVoter hL sv_C7 h) mw_X0_isVoter lk_X6_80 (hL.sh rfl) (by decide) rfl rfl ⟨(Nat.le_of_ble_eq_true rfl), (Nat.le_of_ble_eq_true rfl)⟩ ⟨(Nat.le_of_ble_eq_true rfl), (Nat.le_of_ble_eq_true rfl)⟩ (Nat.le_of_ble_eq_true rfl) rfl dX6_lay_29 (sv_kI (fun r_30 g_29 h => ?_))
        refine sv_if_ne (pc := 32) G 38 (by decide) dX6_lay_32 (fun c_31 => ?_) (fun c_31 => ?_)
        · have h := h.2 c_31
          refine sv_locs [0, 1, 2, 3] [(0, .ref (b + 0)), (1, .int v1), (2, .int v2), (3, .int v3)] rfl ?_
          exact aw_X6_lay_38 G RR T hL   v1 v2 v3 g_29  h
        · have h := h.1 c_31
          refine sv_ldc (pc := 35) G dX6_lay_35 cn_X6_71 ?_
          exact sv_ireturn (pc := 37) G T ⟨(Nat.le_of_ble_eq_true rfl), (Nat.le_of_ble_eq_true rfl)⟩ dX6_lay_37 ⟨_, rfl, rfl, h⟩
    · have h := h.1 c_27
      refine sv_ldc (pc := 16) G dX6_lay_16 cn_X6_71 ?_
      exact sv_ireturn (pc := 18) G T ⟨(Nat.le_of_ble_eq_true rfl), (Nat.le_of_ble_eq_true rfl)⟩ dX6_lay_18 ⟨_, rfl, rfl, h⟩
def wp_X6_ask (F : sv_Fr) (v1 : Int32) (v2 : Int32) (g : sv_Mg) (Q : Int32 → sv_Mg → Prop) : Prop := wp_X6_isSlot F v1 g (fun r_2 g_1 => ((r_2 = 0 → Q (-1000000001) g_1) ∧ (¬ r_2 = 0 → wp_X6_isWithin F v2 0 5 g_1 (fun r_5 g_4 => ((r_5 = 0 → Q (-1000000001) g_4) ∧ (¬ r_5 = 0 → vp_in v1 5 ∧ (((g_4 (41 + 3 * v1.toNatClampNeg) 1) = 0 → Q (-1000000011) g_4) ∧ (¬ (g_4 (41 + 3 * v1.toNatClampNeg) 1) = 0 → (((g_4 (41 + 3 * v1.toNatClampNeg) 1) = 1 → wp_X6_isOfKind F (g_4 (41 + 3 * v1.toNatClampNeg) 2) v2 g_4 (fun r_11 g_10 => ((r_11 = 0 → Q (-1000000012) g_10) ∧ (¬ r_11 = 0 → wp_X6_worth F (g_10 (41 + 3 * v1.toNatClampNeg) 2) (g_10 (41 + 3 * v1.toNatClampNeg) 3) g_10 (fun r_14 g_13 => Q r_14 g_13))))) ∧ (¬ (g_4 (41 + 3 * v1.toNatClampNeg) 1) = 1 → Q (-1000000012) g_4))))))))))
set_option maxRecDepth 100000 in
set_option maxHeartbeats 4000000 in
theorem c_X6_ask {b : Nat} {xt : sv_Xt} {F : sv_Fr} {v1 : Int32} {v2 : Int32} {g : sv_Mg} {Q : Int32 → sv_Mg → Prop} (hL : sv_Lay F) (h : wp_X6_ask F v1 v2 g Q) : sv_Cal yX6_ask cX6_ask 4 (some .int) 2 45 0 0 b xt [.ref (b + 0), .int v1, .int v2] F g (sv_qI F Q) := by
  refine sv_intro mw_X6_ask [(0, .ref (b + 0)), (1, .int v1), (2, .int v2)] rfl (Nat.le_of_ble_eq_true rfl) (fun x G RR T NM => ?_)
  have G : sv_G x b xt RX6 cX6_ask 4 := G
  unfold wp_X6_ask at h
  refine sv_iload_n (pc := 0) G dX6_ask_0 1 rfl ?_
  refine sv_callS (cs := 0) (sl := 0) (st := []) (As := [.int v1]) (pc := 1) G RR (c_X6_isSlot hL  h) mw_X6_isSlot lk_X6_286 rfl ⟨(Nat.le_of_ble_eq_true rfl), (Nat.le_of_ble_eq_true rfl)⟩ ⟨(Nat.le_of_ble_eq_true rfl), (Nat.le_of_ble_eq_true rfl)⟩ (Nat.le_of_ble_eq_true rfl) rfl dX6_ask_1 (sv_kI (fun r_2 g_1 h => ?_))
  refine sv_if_eq (pc := 4) G 16 (by decide) dX6_ask_4 (fun c_3 => ?_) (fun c_3 => ?_)
  · have h := h.1 c_3
    refine sv_ldc (pc := 16) G dX6_ask_16 cn_X6_71 ?_
    exact sv_ireturn (pc := 18) G T ⟨(Nat.le_of_ble_eq_true rfl), (Nat.le_of_ble_eq_true rfl)⟩ dX6_ask_18 ⟨_, rfl, rfl, h⟩
  · have h := h.2 c_3
    refine sv_iload_n (pc := 7) G dX6_ask_7 2 rfl ?_
    refine sv_iconst (pc := 8) G dX6_ask_8 0 ic_0 ?_
    refine sv_iconst (pc := 9) G dX6_ask_9 5 ic_5 ?_
    refine sv_callS (cs := 0) (sl := 0) (st := []) (As := [.int v2, .int 0, .int 5]) (pc := 10) G RR (c_X6_isWithin hL  h) mw_X6_isWithin lk_X6_67 rfl ⟨(Nat.le_of_ble_eq_true rfl), (Nat.le_of_ble_eq_true rfl)⟩ ⟨(Nat.le_of_ble_eq_true rfl), (Nat.le_of_ble_eq_true rfl)⟩ (Nat.le_of_ble_eq_true rfl) rfl dX6_ask_10 (sv_kI (fun r_5 g_4 h => ?_))
    refine sv_if_ne (pc := 13) G 19 (by decide) dX6_ask_13 (fun c_6 => ?_) (fun c_6 => ?_)
    · have h := h.2 c_6
      refine sv_aload_n (pc := 19) G dX6_ask_19 0 rfl ?_
      refine sv_getR (pc := 20) G fw_X6_47 (hL.sh rfl) rfl (hL.rf 6 rfl) dX6_ask_20 ?_
      refine sv_iload_n (pc := 23) G dX6_ask_23 1 rfl ?_
      obtain ⟨s_7, h⟩ := h
      refine sv_aaldR (pc := 24) G 5 (fun _ => rfl) (by decide) (hL.sh rfl) s_7 (hL.qT s_7) dX6_ask_24 ?_
      refine sv_astore_n (pc := 25) G dX6_ask_25 [(3, .ref (b + (41 + 3 * v1.toNatClampNeg))), (0, .ref (b + 0)), (1, .int v1), (2, .int v2)] (by decide) rfl ?_
      refine sv_aload_n (pc := 26) G dX6_ask_26 0 rfl ?_
      refine sv_getI (pc := 27) G fw_X6_289 (hL.tS (sv_qT_is s_7)) rfl dX6_ask_27 ?_
      refine sv_if_ne (pc := 30) G 36 (by decide) dX6_ask_30 (fun c_8 => ?_) (fun c_8 => ?_)
      · have h := h.2 c_8
        refine sv_aload_n (pc := 36) G dX6_ask_36 0 rfl ?_
        refine sv_getI (pc := 37) G fw_X6_289 (hL.tS (sv_qT_is s_7)) rfl dX6_ask_37 ?_
        refine sv_iconst (pc := 40) G dX6_ask_40 1 ic_1 ?_
        refine sv_ic_ne (pc := 41) G 55 (by decide) dX6_ask_41 (fun c_9 => ?_) (fun c_9 => ?_)
        · have h := h.2 c_9
          refine sv_ldc (pc := 55) G dX6_ask_55 cn_X6_128 ?_
          exact sv_ireturn (pc := 57) G T ⟨(Nat.le_of_ble_eq_true rfl), (Nat.le_of_ble_eq_true rfl)⟩ dX6_ask_57 ⟨_, rfl, rfl, h⟩
        · have h := h.1 c_9
          refine sv_aload_n (pc := 44) G dX6_ask_44 0 rfl ?_
          refine sv_getI (pc := 45) G fw_X6_292 (hL.tS (sv_qT_is s_7)) rfl dX6_ask_45 ?_
          refine sv_iload_n (pc := 48) G dX6_ask_48 3 rfl ?_
          refine sv_callS (cs := 0) (sl := 0) (st := []) (As := [.int (g_4 (41 + 3 * v1.toNatClampNeg) 2), .int v2]) (pc := 49) G RR (c_X6_isOfKind hL  h) mw_X6_isOfKind lk_X6_124 rfl ⟨(Nat.le_of_ble_eq_true rfl), (Nat.le_of_ble_eq_true rfl)⟩ ⟨(Nat.le_of_ble_eq_true rfl), (Nat.le_of_ble_eq_true rfl)⟩ (Nat.le_of_ble_eq_true rfl) rfl dX6_ask_49 (sv_kI (fun r_11 g_10 h => ?_))
          refine sv_if_ne (pc := 52) G 58 (by decide) dX6_ask_52 (fun c_12 => ?_) (fun c_12 => ?_)
          · have h := h.2 c_12
            refine sv_aload_n (pc := 58) G dX6_ask_58 0 rfl ?_
            refine sv_getI (pc := 59) G fw_X6_292 (hL.tS (sv_qT_is s_7)) rfl dX6_ask_59 ?_
            refine sv_aload_n (pc := 62) G dX6_ask_62 0 rfl ?_
            refine sv_getI (pc := 63) G fw_X6_295 (hL.tS (sv_qT_is s_7)) rfl dX6_ask_63 ?_
            refine sv_callS (cs := 0) (sl := 0) (st := []) (As := [.int (g_10 (41 + 3 * v1.toNatClampNeg) 2), .int (g_10 (41 + 3 * v1.toNatClampNeg) 3)]) (pc := 66) G RR (c_X6_worth hL  h) mw_X6_worth lk_X6_120 rfl ⟨(Nat.le_of_ble_eq_true rfl), (Nat.le_of_ble_eq_true rfl)⟩ ⟨(Nat.le_of_ble_eq_true rfl), (Nat.le_of_ble_eq_true rfl)⟩ (Nat.le_of_ble_eq_true rfl) rfl dX6_ask_66 (sv_kI (fun r_14 g_13 h => ?_))
            exact sv_ireturn (pc := 69) G T ⟨(Nat.le_of_ble_eq_true rfl), (Nat.le_of_ble_eq_true rfl)⟩ dX6_ask_69 ⟨_, rfl, rfl, h⟩
          · have h := h.1 c_12
            refine sv_ldc (pc := 55) G dX6_ask_55 cn_X6_128 ?_
            exact sv_ireturn (pc := 57) G T ⟨(Nat.le_of_ble_eq_true rfl), (Nat.le_of_ble_eq_true rfl)⟩ dX6_ask_57 ⟨_, rfl, rfl, h⟩
      · have h := h.1 c_8
        refine sv_ldc (pc := 33) G dX6_ask_33 cn_X6_211 ?_
        exact sv_ireturn (pc := 35) G T ⟨(Nat.le_of_ble_eq_true rfl), (Nat.le_of_ble_eq_true rfl)⟩ dX6_ask_35 ⟨_, rfl, rfl, h⟩
    · have h := h.1 c_6
      refine sv_ldc (pc := 16) G dX6_ask_16 cn_X6_71 ?_
      exact sv_ireturn (pc := 18) G T ⟨(Nat.le_of_ble_eq_true rfl), (Nat.le_of_ble_eq_true rfl)⟩ dX6_ask_18 ⟨_, rfl, rfl, h⟩
def wp_X6_item (F : sv_Fr) (v1 : Int32) (v2 : Int32) (g : sv_Mg) (Q : Int32 → sv_Mg → Prop) : Prop := wp_X6_isSlot F v1 g (fun r_2 g_1 => ((r_2 = 0 → Q (-1000000001) g_1) ∧ (¬ r_2 = 0 → vp_in v1 5 ∧ (((g_1 (41 + 3 * v1.toNatClampNeg) 1) = 0 → Q (-1000000011) g_1) ∧ (¬ (g_1 (41 + 3 * v1.toNatClampNeg) 1) = 0 → (((g_1 (41 + 3 * v1.toNatClampNeg) 1) = 2 → wp_X4_hasPlace F ((41 + 3 * v1.toNatClampNeg) + 1) v2 g_1 (fun r_8 g_7 => ((r_8 = 0 → Q (-1000000013) g_7) ∧ (¬ r_8 = 0 → wp_X4_isNumber F ((41 + 3 * v1.toNatClampNeg) + 1) v2 g_7 (fun r_11 g_10 => ((r_11 = 0 → Q (-1000000012) g_10) ∧ (¬ r_11 = 0 → vp_in v2 24 ∧ Q (g_10 (((41 + 3 * v1.toNatClampNeg) + 1) + 1) v2.toNatClampNeg) g_10))))))) ∧ (¬ (g_1 (41 + 3 * v1.toNatClampNeg) 1) = 2 → Q (-1000000012) g_1)))))))
set_option maxRecDepth 100000 in
set_option maxHeartbeats 4000000 in
theorem c_X6_item {b : Nat} {xt : sv_Xt} {F : sv_Fr} {v1 : Int32} {v2 : Int32} {g : sv_Mg} {Q : Int32 → sv_Mg → Prop} (hL : sv_Lay F) (h : wp_X6_item F v1 v2 g Q) : sv_Cal yX6_item cX6_item 4 (some .int) 2 42 0 0 b xt [.ref (b + 0), .int v1, .int v2] F g (sv_qI F Q) := by
  refine sv_intro mw_X6_item [(0, .ref (b + 0)), (1, .int v1), (2, .int v2)] rfl (Nat.le_of_ble_eq_true rfl) (fun x G RR T NM => ?_)
  have G : sv_G x b xt RX6 cX6_item 4 := G
  unfold wp_X6_item at h
  refine sv_iload_n (pc := 0) G dX6_item_0 1 rfl ?_
  refine sv_callS (cs := 0) (sl := 0) (st := []) (As := [.int v1]) (pc := 1) G RR (c_X6_isSlot hL  h) mw_X6_isSlot lk_X6_286 rfl ⟨(Nat.le_of_ble_eq_true rfl), (Nat.le_of_ble_eq_true rfl)⟩ ⟨(Nat.le_of_ble_eq_true rfl), (Nat.le_of_ble_eq_true rfl)⟩ (Nat.le_of_ble_eq_true rfl) rfl dX6_item_1 (sv_kI (fun r_2 g_1 h => ?_))
  refine sv_if_ne (pc := 4) G 10 (by decide) dX6_item_4 (fun c_3 => ?_) (fun c_3 => ?_)
  · have h := h.2 c_3
    refine sv_aload_n (pc := 10) G dX6_item_10 0 rfl ?_
    refine sv_getR (pc := 11) G fw_X6_47 (hL.sh rfl) rfl (hL.rf 6 rfl) dX6_item_11 ?_
    refine sv_iload_n (pc := 14) G dX6_item_14 1 rfl ?_
    obtain ⟨s_4, h⟩ := h
    refine sv_aaldR (pc := 15) G 5 (fun _ => rfl) (by decide) (hL.sh rfl) s_4 (hL.qT s_4) dX6_item_15 ?_
    refine sv_astore_n (pc := 16) G dX6_item_16 [(3, .ref (b + (41 + 3 * v1.toNatClampNeg))), (0, .ref (b + 0)), (1, .int v1), (2, .int v2)] (by decide) rfl ?_
    refine sv_aload_n (pc := 17) G dX6_item_17 0 rfl ?_
    refine sv_getI (pc := 18) G fw_X6_289 (hL.tS (sv_qT_is s_4)) rfl dX6_item_18 ?_
    refine sv_if_ne (pc := 21) G 27 (by decide) dX6_item_21 (fun c_5 => ?_) (fun c_5 => ?_)
    · have h := h.2 c_5
      refine sv_aload_n (pc := 27) G dX6_item_27 0 rfl ?_
      refine sv_getI (pc := 28) G fw_X6_289 (hL.tS (sv_qT_is s_4)) rfl dX6_item_28 ?_
      refine sv_iconst (pc := 31) G dX6_item_31 2 ic_2 ?_
      refine sv_ic_eq (pc := 32) G 38 (by decide) dX6_item_32 (fun c_6 => ?_) (fun c_6 => ?_)
      · have h := h.1 c_6
        refine sv_aload_n (pc := 38) G dX6_item_38 0 rfl ?_
        refine sv_getR (pc := 39) G fw_X6_298 (hL.tS (sv_qT_is s_4)) rfl (hL.tR (sv_qT_is s_4)) dX6_item_39 ?_
        refine sv_iload_n (pc := 42) G dX6_item_42 3 rfl ?_
        refine sv_callV (cs := 0) (sl := 0) (st := []) (As := [.int v2]) (a := ((41 + 3 * v1.toNatClampNeg) + 1)) (pc := 43) G RR (c_X4_hasPlace hL ((sv_qT_is s_4).row) h) mw_X4_hasPlace lk_X6_256 (hL.sS (sv_qT_is s_4).row) (by decide) rfl rfl ⟨(Nat.le_of_ble_eq_true rfl), (Nat.le_of_ble_eq_true rfl)⟩ ⟨(Nat.le_of_ble_eq_true rfl), (Nat.le_of_ble_eq_true rfl)⟩ (Nat.le_of_ble_eq_true rfl) rfl dX6_item_43 (sv_kI (fun r_8 g_7 h => ?_))
        refine sv_if_ne (pc := 46) G 53 (by decide) dX6_item_46 (fun c_9 => ?_) (fun c_9 => ?_)
        · have h := h.2 c_9
          refine sv_aload_n (pc := 53) G dX6_item_53 0 rfl ?_
          refine sv_getR (pc := 54) G fw_X6_298 (hL.tS (sv_qT_is s_4)) rfl (hL.tR (sv_qT_is s_4)) dX6_item_54 ?_
          refine sv_iload_n (pc := 57) G dX6_item_57 3 rfl ?_
          refine sv_callV (cs := 0) (sl := 0) (st := []) (As := [.int v2]) (a := ((41 + 3 * v1.toNatClampNeg) + 1)) (pc := 58) G RR (c_X4_isNumber hL ((sv_qT_is s_4).row) h) mw_X4_isNumber lk_X6_271 (hL.sS (sv_qT_is s_4).row) (by decide) rfl rfl ⟨(Nat.le_of_ble_eq_true rfl), (Nat.le_of_ble_eq_true rfl)⟩ ⟨(Nat.le_of_ble_eq_true rfl), (Nat.le_of_ble_eq_true rfl)⟩ (Nat.le_of_ble_eq_true rfl) rfl dX6_item_58 (sv_kI (fun r_11 g_10 h => ?_))
          refine sv_if_eq (pc := 61) G 76 (by decide) dX6_item_61 (fun c_12 => ?_) (fun c_12 => ?_)
          · have h := h.1 c_12
            refine sv_ldc (pc := 76) G dX6_item_76 cn_X6_128 ?_
            exact sv_ireturn (pc := 78) G T ⟨(Nat.le_of_ble_eq_true rfl), (Nat.le_of_ble_eq_true rfl)⟩ dX6_item_78 ⟨_, rfl, rfl, h⟩
          · have h := h.2 c_12
            refine sv_aload_n (pc := 64) G dX6_item_64 0 rfl ?_
            refine sv_getR (pc := 65) G fw_X6_298 (hL.tS (sv_qT_is s_4)) rfl (hL.tR (sv_qT_is s_4)) dX6_item_65 ?_
            refine sv_getR (pc := 68) G fw_X6_263 (hL.sS (sv_qT_is s_4).row) rfl (hL.sR (sv_qT_is s_4).row) dX6_item_68 ?_
            refine sv_iload_n (pc := 71) G dX6_item_71 3 rfl ?_
            obtain ⟨s_13, h⟩ := h
            refine sv_ialdK (pc := 72) G (hL.sA (sv_qT_is s_4).row) s_13 v2.toNatClampNeg rfl dX6_item_72 ?_
            refine sv_goto (pc := 73) G dX6_item_73 78 (by decide) ?_
            exact sv_ireturn (pc := 78) G T ⟨(Nat.le_of_ble_eq_true rfl), (Nat.le_of_ble_eq_true rfl)⟩ dX6_item_78 ⟨_, rfl, rfl, h⟩
        · have h := h.1 c_9
          refine sv_ldcw (pc := 49) G dX6_item_49 cn_X6_259 ?_
          exact sv_ireturn (pc := 52) G T ⟨(Nat.le_of_ble_eq_true rfl), (Nat.le_of_ble_eq_true rfl)⟩ dX6_item_52 ⟨_, rfl, rfl, h⟩
      · have h := h.2 c_6
        refine sv_ldc (pc := 35) G dX6_item_35 cn_X6_128 ?_
        exact sv_ireturn (pc := 37) G T ⟨(Nat.le_of_ble_eq_true rfl), (Nat.le_of_ble_eq_true rfl)⟩ dX6_item_37 ⟨_, rfl, rfl, h⟩
    · have h := h.1 c_5
      refine sv_ldc (pc := 24) G dX6_item_24 cn_X6_211 ?_
      exact sv_ireturn (pc := 26) G T ⟨(Nat.le_of_ble_eq_true rfl), (Nat.le_of_ble_eq_true rfl)⟩ dX6_item_26 ⟨_, rfl, rfl, h⟩
  · have h := h.1 c_3
    refine sv_ldc (pc := 7) G dX6_item_7 cn_X6_71 ?_
    exact sv_ireturn (pc := 9) G T ⟨(Nat.le_of_ble_eq_true rfl), (Nat.le_of_ble_eq_true rfl)⟩ dX6_item_9 ⟨_, rfl, rfl, h⟩
def wp_X6_rest (F : sv_Fr) (v1 : Int32) (v2 : Int32) (g : sv_Mg) (Q : Int32 → sv_Mg → Prop) : Prop := wp_X6_isSlot F v1 g (fun r_2 g_1 => ((r_2 = 0 → Q (-1000000001) g_1) ∧ (¬ r_2 = 0 → vp_in v1 5 ∧ (((g_1 (41 + 3 * v1.toNatClampNeg) 1) = 0 → Q (-1000000011) g_1) ∧ (¬ (g_1 (41 + 3 * v1.toNatClampNeg) 1) = 0 → (((g_1 (41 + 3 * v1.toNatClampNeg) 1) = 3 → ((v2 = 0 → Q (-1000000002) g_1) ∧ (¬ v2 = 0 → ¬ v2 = 0 ∧ Q ((g_1 (41 + 3 * v1.toNatClampNeg) 4) - (g_1 (41 + 3 * v1.toNatClampNeg) 4) / v2 * v2) g_1))) ∧ (¬ (g_1 (41 + 3 * v1.toNatClampNeg) 1) = 3 → Q (-1000000012) g_1)))))))
set_option maxRecDepth 100000 in
set_option maxHeartbeats 4000000 in
theorem c_X6_rest {b : Nat} {xt : sv_Xt} {F : sv_Fr} {v1 : Int32} {v2 : Int32} {g : sv_Mg} {Q : Int32 → sv_Mg → Prop} (hL : sv_Lay F) (h : wp_X6_rest F v1 v2 g Q) : sv_Cal yX6_rest cX6_rest 4 (some .int) 2 42 0 0 b xt [.ref (b + 0), .int v1, .int v2] F g (sv_qI F Q) := by
  refine sv_intro mw_X6_rest [(0, .ref (b + 0)), (1, .int v1), (2, .int v2)] rfl (Nat.le_of_ble_eq_true rfl) (fun x G RR T NM => ?_)
  have G : sv_G x b xt RX6 cX6_rest 4 := G
  unfold wp_X6_rest at h
  refine sv_iload_n (pc := 0) G dX6_rest_0 1 rfl ?_
  refine sv_callS (cs := 0) (sl := 0) (st := []) (As := [.int v1]) (pc := 1) G RR (c_X6_isSlot hL  h) mw_X6_isSlot lk_X6_286 rfl ⟨(Nat.le_of_ble_eq_true rfl), (Nat.le_of_ble_eq_true rfl)⟩ ⟨(Nat.le_of_ble_eq_true rfl), (Nat.le_of_ble_eq_true rfl)⟩ (Nat.le_of_ble_eq_true rfl) rfl dX6_rest_1 (sv_kI (fun r_2 g_1 h => ?_))
  refine sv_if_ne (pc := 4) G 10 (by decide) dX6_rest_4 (fun c_3 => ?_) (fun c_3 => ?_)
  · have h := h.2 c_3
    refine sv_aload_n (pc := 10) G dX6_rest_10 0 rfl ?_
    refine sv_getR (pc := 11) G fw_X6_47 (hL.sh rfl) rfl (hL.rf 6 rfl) dX6_rest_11 ?_
    refine sv_iload_n (pc := 14) G dX6_rest_14 1 rfl ?_
    obtain ⟨s_4, h⟩ := h
    refine sv_aaldR (pc := 15) G 5 (fun _ => rfl) (by decide) (hL.sh rfl) s_4 (hL.qT s_4) dX6_rest_15 ?_
    refine sv_astore_n (pc := 16) G dX6_rest_16 [(3, .ref (b + (41 + 3 * v1.toNatClampNeg))), (0, .ref (b + 0)), (1, .int v1), (2, .int v2)] (by decide) rfl ?_
    refine sv_aload_n (pc := 17) G dX6_rest_17 0 rfl ?_
    refine sv_getI (pc := 18) G fw_X6_289 (hL.tS (sv_qT_is s_4)) rfl dX6_rest_18 ?_
    refine sv_if_ne (pc := 21) G 27 (by decide) dX6_rest_21 (fun c_5 => ?_) (fun c_5 => ?_)
    · have h := h.2 c_5
      refine sv_aload_n (pc := 27) G dX6_rest_27 0 rfl ?_
      refine sv_getI (pc := 28) G fw_X6_289 (hL.tS (sv_qT_is s_4)) rfl dX6_rest_28 ?_
      refine sv_iconst (pc := 31) G dX6_rest_31 3 ic_3 ?_
      refine sv_ic_eq (pc := 32) G 38 (by decide) dX6_rest_32 (fun c_6 => ?_) (fun c_6 => ?_)
      · have h := h.1 c_6
        refine sv_iload_n (pc := 38) G dX6_rest_38 3 rfl ?_
        refine sv_if_ne (pc := 39) G 48 (by decide) dX6_rest_39 (fun c_7 => ?_) (fun c_7 => ?_)
        · have h := h.2 c_7
          refine sv_aload_n (pc := 48) G dX6_rest_48 0 rfl ?_
          refine sv_getI (pc := 49) G fw_X6_305 (hL.tS (sv_qT_is s_4)) rfl dX6_rest_49 ?_
          refine sv_iload_n (pc := 52) G dX6_rest_52 3 rfl ?_
          obtain ⟨s_8, h⟩ := h
          refine sv_irem (pc := 53) G dX6_rest_53 s_8 ?_
          exact sv_ireturn (pc := 54) G T ⟨(Nat.le_of_ble_eq_true rfl), (Nat.le_of_ble_eq_true rfl)⟩ dX6_rest_54 ⟨_, rfl, rfl, h⟩
        · have h := h.1 c_7
          refine sv_ldcw (pc := 42) G dX6_rest_42 cn_X6_308 ?_
          refine sv_goto (pc := 45) G dX6_rest_45 54 (by decide) ?_
          exact sv_ireturn (pc := 54) G T ⟨(Nat.le_of_ble_eq_true rfl), (Nat.le_of_ble_eq_true rfl)⟩ dX6_rest_54 ⟨_, rfl, rfl, h⟩
      · have h := h.2 c_6
        refine sv_ldc (pc := 35) G dX6_rest_35 cn_X6_128 ?_
        exact sv_ireturn (pc := 37) G T ⟨(Nat.le_of_ble_eq_true rfl), (Nat.le_of_ble_eq_true rfl)⟩ dX6_rest_37 ⟨_, rfl, rfl, h⟩
    · have h := h.1 c_5
      refine sv_ldc (pc := 24) G dX6_rest_24 cn_X6_211 ?_
      exact sv_ireturn (pc := 26) G T ⟨(Nat.le_of_ble_eq_true rfl), (Nat.le_of_ble_eq_true rfl)⟩ dX6_rest_26 ⟨_, rfl, rfl, h⟩
  · have h := h.1 c_3
    refine sv_ldc (pc := 7) G dX6_rest_7 cn_X6_71 ?_
    exact sv_ireturn (pc := 9) G T ⟨(Nat.le_of_ble_eq_true rfl), (Nat.le_of_ble_eq_true rfl)⟩ dX6_rest_9 ⟨_, rfl, rfl, h⟩
def wp_X6_tell (F : sv_Fr) (v1 : Int32) (g : sv_Mg) (Q : Int32 → sv_Mg → Prop) : Prop := (((g 0 9) < 60 → vp_in (g 0 9) 60 ∧ ∀ g_3, g_3 = sv_st g 56 (g 0 9).toNatClampNeg v1 → ∀ g_4, g_4 = sv_st g_3 0 9 ((g_3 0 9) + 1) → Q (g_4 0 9) g_4) ∧ (¬ (g 0 9) < 60 → Q (-1000000003) g))
set_option maxRecDepth 100000 in
set_option maxHeartbeats 4000000 in
theorem c_X6_tell {b : Nat} {xt : sv_Xt} {F : sv_Fr} {v1 : Int32} {g : sv_Mg} {Q : Int32 → sv_Mg → Prop} (hL : sv_Lay F) (h : wp_X6_tell F v1 g Q) : sv_Cal yX6_tell cX6_tell 2 (some .int) 0 0 0 0 b xt [.ref (b + 0), .int v1] F g (sv_qI F Q) := by
  refine sv_intro mw_X6_tell [(0, .ref (b + 0)), (1, .int v1)] rfl (Nat.le_of_ble_eq_true rfl) (fun x G RR T NM => ?_)
  have G : sv_G x b xt RX6 cX6_tell 2 := G
  unfold wp_X6_tell at h
  refine sv_aload_n (pc := 0) G dX6_tell_0 0 rfl ?_
  refine sv_getI (pc := 1) G fw_X6_59 (hL.sh rfl) rfl dX6_tell_1 ?_
  refine sv_bipush (pc := 4) G dX6_tell_4 60 bp_60 ?_
  refine sv_ic_lt (pc := 6) G 12 (by decide) dX6_tell_6 (fun c_1 => ?_) (fun c_1 => ?_)
  · have h := h.1 c_1
    refine sv_aload_n (pc := 12) G dX6_tell_12 0 rfl ?_
    refine sv_getR (pc := 13) G fw_X6_52 (hL.sh rfl) rfl (hL.rf 7 rfl) dX6_tell_13 ?_
    refine sv_aload_n (pc := 16) G dX6_tell_16 0 rfl ?_
    refine sv_getI (pc := 17) G fw_X6_59 (hL.sh rfl) rfl dX6_tell_17 ?_
    refine sv_iload_n (pc := 20) G dX6_tell_20 1 rfl ?_
    obtain ⟨s_2, h⟩ := h
    refine sv_iastK (pc := 21) G (hL.sh rfl) s_2 (g 0 9).toNatClampNeg rfl dX6_tell_21 (fun g_3 eg_3 => ?_)
    have h := h g_3 eg_3
    refine sv_aload_n (pc := 22) G dX6_tell_22 0 rfl ?_
    refine sv_dup (pc := 23) G dX6_tell_23 rfl ?_
    refine sv_getI (pc := 24) G fw_X6_59 (hL.sh rfl) rfl dX6_tell_24 ?_
    refine sv_iconst (pc := 27) G dX6_tell_27 1 ic_1 ?_
    refine sv_iadd (pc := 28) G dX6_tell_28 ?_
    refine sv_putI (pc := 29) G fw_X6_59 (hL.sh rfl) rfl dX6_tell_29 (fun g_4 eg_4 => ?_)
    have h := h g_4 eg_4
    refine sv_aload_n (pc := 32) G dX6_tell_32 0 rfl ?_
    refine sv_getI (pc := 33) G fw_X6_59 (hL.sh rfl) rfl dX6_tell_33 ?_
    exact sv_ireturn (pc := 36) G T ⟨(Nat.le_of_ble_eq_true rfl), (Nat.le_of_ble_eq_true rfl)⟩ dX6_tell_36 ⟨_, rfl, rfl, h⟩
  · have h := h.2 c_1
    refine sv_ldc (pc := 9) G dX6_tell_9 cn_X6_75 ?_
    exact sv_ireturn (pc := 11) G T ⟨(Nat.le_of_ble_eq_true rfl), (Nat.le_of_ble_eq_true rfl)⟩ dX6_tell_11 ⟨_, rfl, rfl, h⟩
def wp_X6_isTold (F : sv_Fr) (v1 : Int32) (v2 : Int32) (v3 : Int32) (g : sv_Mg) (Q : Int32 → sv_Mg → Prop) : Prop := ((v2 ≤ v1 → Q 0 g) ∧ (¬ v2 ≤ v1 → ((60 ≤ v1 → Q 0 g) ∧ (¬ 60 ≤ v1 → vp_in v1 60 ∧ (((g 56 v1.toNatClampNeg) = v3 → Q 1 g) ∧ (¬ (g 56 v1.toNatClampNeg) = v3 → Q 0 g))))))
set_option maxRecDepth 100000 in
set_option maxHeartbeats 4000000 in
theorem c_X6_isTold {b : Nat} {xt : sv_Xt} {F : sv_Fr} {v1 : Int32} {v2 : Int32} {v3 : Int32} {g : sv_Mg} {Q : Int32 → sv_Mg → Prop} (hL : sv_Lay F) (h : wp_X6_isTold F v1 v2 v3 g Q) : sv_Cal yX6_isTold cX6_isTold 4 (some .boolean) 0 0 0 0 b xt [.ref (b + 0), .int v1, .int v2, .int v3] F g (sv_qI F Q) := by
  refine sv_intro mw_X6_isTold [(0, .ref (b + 0)), (1, .int v1), (2, .int v2), (3, .int v3)] rfl (Nat.le_of_ble_eq_true rfl) (fun x G RR T NM => ?_)
  have G : sv_G x b xt RX6 cX6_isTold 4 := G
  unfold wp_X6_isTold at h
  refine sv_iload_n (pc := 0) G dX6_isTold_0 1 rfl ?_
  refine sv_iload_n (pc := 1) G dX6_isTold_1 2 rfl ?_
  refine sv_ic_ge (pc := 2) G 25 (by decide) dX6_isTold_2 (fun c_1 => ?_) (fun c_1 => ?_)
  · have h := h.1 c_1
    refine sv_iconst (pc := 25) G dX6_isTold_25 0 ic_0 ?_
    exact sv_zreturn (pc := 26) G T (Or.inl rfl) ⟨(Nat.le_of_ble_eq_true rfl), (Nat.le_of_ble_eq_true rfl)⟩ dX6_isTold_26 ⟨_, rfl, rfl, h⟩
  · have h := h.2 c_1
    refine sv_iload_n (pc := 5) G dX6_isTold_5 1 rfl ?_
    refine sv_bipush (pc := 6) G dX6_isTold_6 60 bp_60 ?_
    refine sv_ic_ge (pc := 8) G 25 (by decide) dX6_isTold_8 (fun c_2 => ?_) (fun c_2 => ?_)
    · have h := h.1 c_2
      refine sv_iconst (pc := 25) G dX6_isTold_25 0 ic_0 ?_
      exact sv_zreturn (pc := 26) G T (Or.inl rfl) ⟨(Nat.le_of_ble_eq_true rfl), (Nat.le_of_ble_eq_true rfl)⟩ dX6_isTold_26 ⟨_, rfl, rfl, h⟩
    · have h := h.2 c_2
      refine sv_aload_n (pc := 11) G dX6_isTold_11 0 rfl ?_
      refine sv_getR (pc := 12) G fw_X6_52 (hL.sh rfl) rfl (hL.rf 7 rfl) dX6_isTold_12 ?_
      refine sv_iload_n (pc := 15) G dX6_isTold_15 1 rfl ?_
      obtain ⟨s_3, h⟩ := h
      refine sv_ialdK (pc := 16) G (hL.sh rfl) s_3 v1.toNatClampNeg rfl dX6_isTold_16 ?_
      refine sv_iload_n (pc := 17) G dX6_isTold_17 3 rfl ?_
      refine sv_ic_ne (pc := 18) G 25 (by decide) dX6_isTold_18 (fun c_4 => ?_) (fun c_4 => ?_)
      · have h := h.2 c_4
        refine sv_iconst (pc := 25) G dX6_isTold_25 0 ic_0 ?_
        exact sv_zreturn (pc := 26) G T (Or.inl rfl) ⟨(Nat.le_of_ble_eq_true rfl), (Nat.le_of_ble_eq_true rfl)⟩ dX6_isTold_26 ⟨_, rfl, rfl, h⟩
      · have h := h.1 c_4
        refine sv_iconst (pc := 21) G dX6_isTold_21 1 ic_1 ?_
        refine sv_goto (pc := 22) G dX6_isTold_22 26 (by decide) ?_
        exact sv_zreturn (pc := 26) G T (Or.inr rfl) ⟨(Nat.le_of_ble_eq_true rfl), (Nat.le_of_ble_eq_true rfl)⟩ dX6_isTold_26 ⟨_, rfl, rfl, h⟩
def wp_X6_check_128 (F : sv_Fr) (Q : Int32 → sv_Mg → Prop) (v2 : Int32) (v3 : Int32) (g : sv_Mg) : Prop := ((v2 ≤ v3 → Q 0 g) ∧ (¬ v2 ≤ v3 → Q (1 + v3) g))
def wp_X6_check_50 (F : sv_Fr) (Q : Int32 → sv_Mg → Prop) : Nat → Int32 → Int32 → Int32 → Int32 → sv_Mg → Prop
  | 0, _, _, _, _, _ => False
  | n + 1, v1, v2, v3, v4, g => ((v1 ≤ v4 → wp_X6_check_128 F  Q  v2 v3 g) ∧ (¬ v1 ≤ v4 → ((9999 ≤ (g 23 15) → wp_X6_check_128 F  Q  v2 v3 g) ∧ (¬ 9999 ≤ (g 23 15) → wp_X0_round F 23 g (fun g_4 => wp_X6_isTold F v3 v2 (g_4 23 17) g_4 (fun r_6 g_5 => ((r_6 = 0 → Q (1 + v3) g_5) ∧ (¬ r_6 = 0 → ∀ v3_8 : Int32, v3_8 = v3 + 1 → wp_X0_mostVotes F 23 g_5 (fun r_10 g_9 => wp_X6_isTold F v3_8 v2 r_10 g_9 (fun r_12 g_11 => ((r_12 = 0 → Q (1 + v3_8) g_11) ∧ (¬ r_12 = 0 → ∀ v3_14 : Int32, v3_14 = v3_8 + 1 → ∀ v4_15 : Int32, v4_15 = v4 + 1 → (wp_X6_check_50 F Q  n) v1 v2 v3_14 v4_15 g_11))))))))))))
def wp_X6_check (F : sv_Fr) (v1 : Int32) (g : sv_Mg) (Q : Int32 → sv_Mg → Prop) : Prop := ∀ v2_16 : Int32, v2_16 = (g 0 9) → ∀ g_17, g_17 = sv_st g 0 9 0 → wp_X6_isWithin F v1 1 30 g_17 (fun r_19 g_18 => ((r_19 = 0 → Q (-1000000001) g_18) ∧ (¬ r_19 = 0 → (((g_18 0 10) = 0 → Q (-1000000002) g_18) ∧ (¬ (g_18 0 10) = 0 → wp_X0_become F 23 15 g_18 (fun g_22 => ∃ n_23, wp_X6_check_50 F  Q  n_23 v1 v2_16 0 0 g_22))))))
set_option maxRecDepth 100000 in
set_option maxHeartbeats 4000000 in
theorem aw_X6_check_128 {x : sv_X} {b : Nat} {xt : sv_Xt} {F : sv_Fr} {Q : Int32 → sv_Mg → Prop} (G : sv_G x b xt RX6 cX6_check 5) (RR : sv_R x 6 143 0 0) (T : sv_RT x (some .int)) (hL : sv_Lay F) : ∀ (v2 : Int32) (v3 : Int32) (g : sv_Mg), wp_X6_check_128 F Q  v2 v3 g → sv_AW x (sv_Q x (sv_qI F Q) 0 0) F g 0 0 128 [(2, .int v2), (3, .int v3)] [] := by
  intro v2 v3 g h
  unfold wp_X6_check_128 at h
  refine sv_iload_n (pc := 128) G dX6_check_128 1 rfl ?_
  refine sv_iload_n (pc := 129) G dX6_check_129 0 rfl ?_
  refine sv_ic_ge (pc := 130) G 139 (by decide) dX6_check_130 (fun c_1 => ?_) (fun c_1 => ?_)
  · have h := h.1 c_1
    refine sv_iconst (pc := 139) G dX6_check_139 0 ic_0 ?_
    exact sv_ireturn (pc := 140) G T ⟨(Nat.le_of_ble_eq_true rfl), (Nat.le_of_ble_eq_true rfl)⟩ dX6_check_140 ⟨_, rfl, rfl, h⟩
  · have h := h.2 c_1
    refine sv_iconst (pc := 133) G dX6_check_133 1 ic_1 ?_
    refine sv_iload_n (pc := 134) G dX6_check_134 1 rfl ?_
    refine sv_iadd (pc := 135) G dX6_check_135 ?_
    refine sv_goto (pc := 136) G dX6_check_136 140 (by decide) ?_
    exact sv_ireturn (pc := 140) G T ⟨(Nat.le_of_ble_eq_true rfl), (Nat.le_of_ble_eq_true rfl)⟩ dX6_check_140 ⟨_, rfl, rfl, h⟩
set_option maxRecDepth 100000 in
set_option maxHeartbeats 4000000 in
theorem aw_X6_check_50 {x : sv_X} {b : Nat} {xt : sv_Xt} {F : sv_Fr} {Q : Int32 → sv_Mg → Prop} (G : sv_G x b xt RX6 cX6_check 5) (RR : sv_R x 6 143 0 0) (T : sv_RT x (some .int)) (hL : sv_Lay F) : ∀ (n : Nat) (v1 : Int32) (v2 : Int32) (v3 : Int32) (v4 : Int32) (g : sv_Mg), wp_X6_check_50 F Q  n v1 v2 v3 v4 g → sv_AW x (sv_Q x (sv_qI F Q) 0 0) F g 0 0 50 [(0, .ref (b + 0)), (1, .int v1), (2, .int v2), (3, .int v3), (4, .int v4)] [] := by
  intro n
  induction n with
  | zero => intro v1 v2 v3 v4 g h; exact h.elim
  | succ n ih =>
    intro v1 v2 v3 v4 g h
    rw [wp_X6_check_50] at h
    refine sv_iload (pc := 50) G dX6_check_50 4 rfl ?_
    refine sv_iload_n (pc := 52) G dX6_check_52 1 rfl ?_
    refine sv_ic_ge (pc := 53) G 128 (by decide) dX6_check_53 (fun c_2 => ?_) (fun c_2 => ?_)
    · have h := h.1 c_2
      refine sv_locs [2, 3] [(2, .int v2), (3, .int v3)] rfl ?_
      exact aw_X6_check_128 G RR T hL   v2 v3 g  h
    · have h := h.2 c_2
      refine sv_aload_n (pc := 56) G dX6_check_56 0 rfl ?_
      refine sv_getR (pc := 57) G fw_X6_35 (hL.sh rfl) rfl (hL.rf 4 rfl) dX6_check_57 ?_
      refine sv_getI (pc := 60) G fw_X6_162 (hL.sh rfl) rfl dX6_check_60 ?_
      refine sv_sipush (pc := 63) G dX6_check_63 9999 sp_9999 ?_
      refine sv_ic_ge (pc := 66) G 128 (by decide) dX6_check_66 (fun c_3 => ?_) (fun c_3 => ?_)
      · have h := h.1 c_3
        refine sv_locs [2, 3] [(2, .int v2), (3, .int v3)] rfl ?_
        exact aw_X6_check_128 G RR T hL   v2 v3 g  h
      · have h := h.2 c_3
        refine sv_aload_n (pc := 69) G dX6_check_69 0 rfl ?_
        refine sv_getR (pc := 70) G fw_X6_35 (hL.sh rfl) rfl (hL.rf 4 rfl) dX6_check_70 ?_
        refine sv_callV (cs := 0) (sl := 0) (st := []) (As := []) (a := 23) (pc := 73) G RR (c_X0_round hL sv_C23 h) mw_X0_round lk_X6_198 (hL.sh rfl) (by decide) rfl rfl ⟨(Nat.le_of_ble_eq_true rfl), (Nat.le_of_ble_eq_true rfl)⟩ ⟨(Nat.le_of_ble_eq_true rfl), (Nat.le_of_ble_eq_true rfl)⟩ (Nat.le_of_ble_eq_true rfl) rfl dX6_check_73 (sv_kV (fun g_4 h => ?_))
        refine sv_aload_n (pc := 76) G dX6_check_76 0 rfl ?_
        refine sv_iload_n (pc := 77) G dX6_check_77 3 rfl ?_
        refine sv_iload_n (pc := 78) G dX6_check_78 2 rfl ?_
        refine sv_aload_n (pc := 79) G dX6_check_79 0 rfl ?_
        refine sv_getR (pc := 80) G fw_X6_35 (hL.sh rfl) rfl (hL.rf 4 rfl) dX6_check_80 ?_
        refine sv_getI (pc := 83) G fw_X6_175 (hL.sh rfl) rfl dX6_check_83 ?_
        refine sv_callV (cs := 0) (sl := 0) (st := []) (As := [.int v3, .int v2, .int (g_4 23 17)]) (a := 0) (pc := 86) G RR (c_X6_isTold hL  h) mw_X6_isTold lk_X6_309 (hL.sh rfl) (by decide) rfl rfl ⟨(Nat.le_of_ble_eq_true rfl), (Nat.le_of_ble_eq_true rfl)⟩ ⟨(Nat.le_of_ble_eq_true rfl), (Nat.le_of_ble_eq_true rfl)⟩ (Nat.le_of_ble_eq_true rfl) rfl dX6_check_86 (sv_kI (fun r_6 g_5 h => ?_))
        refine sv_if_ne (pc := 89) G 96 (by decide) dX6_check_89 (fun c_7 => ?_) (fun c_7 => ?_)
        · have h := h.2 c_7
          obtain ⟨v3_8, ev3_8⟩ : ∃ y : Int32, y = v3 + 1 := ⟨_, rfl⟩
          have h := h v3_8 ev3_8
          refine sv_iinc (pc := 96) G dX6_check_96 3 v3_8 [(3, .int v3_8), (0, .ref (b + 0)), (1, .int v1), (2, .int v2), (4, .int v4)] (by rw [ev3_8, ic_1]) rfl (by decide) rfl ?_
          refine sv_aload_n (pc := 99) G dX6_check_99 1 rfl ?_
          refine sv_iload_n (pc := 100) G dX6_check_100 0 rfl ?_
          refine sv_iload_n (pc := 101) G dX6_check_101 3 rfl ?_
          refine sv_aload_n (pc := 102) G dX6_check_102 1 rfl ?_
          refine sv_getR (pc := 103) G fw_X6_35 (hL.sh rfl) rfl (hL.rf 4 rfl) dX6_check_103 ?_
          refine sv_callV (cs := 0) (sl := 0) (st := [.int v2, .int v3_8, .ref (b + 0)]) (As := []) (a := 23) (pc := 106) G RR (c_X0_mostVotes hL sv_C23 h) mw_X0_mostVotes lk_X6_181 (hL.sh rfl) (by decide) rfl rfl ⟨(Nat.le_of_ble_eq_true rfl), (Nat.le_of_ble_eq_true rfl)⟩ ⟨(Nat.le_of_ble_eq_true rfl), (Nat.le_of_ble_eq_true rfl)⟩ (Nat.le_of_ble_eq_true rfl) rfl dX6_check_106 (sv_kI (fun r_10 g_9 h => ?_))
          refine sv_callV (cs := 0) (sl := 0) (st := []) (As := [.int v3_8, .int v2, .int r_10]) (a := 0) (pc := 109) G RR (c_X6_isTold hL  h) mw_X6_isTold lk_X6_309 (hL.sh rfl) (by decide) rfl rfl ⟨(Nat.le_of_ble_eq_true rfl), (Nat.le_of_ble_eq_true rfl)⟩ ⟨(Nat.le_of_ble_eq_true rfl), (Nat.le_of_ble_eq_true rfl)⟩ (Nat.le_of_ble_eq_true rfl) rfl dX6_check_109 (sv_kI (fun r_12 g_11 h => ?_))
          refine sv_if_ne (pc := 112) G 119 (by decide) dX6_check_112 (fun c_13 => ?_) (fun c_13 => ?_)
          · have h := h.2 c_13
            obtain ⟨v3_14, ev3_14⟩ : ∃ y : Int32, y = v3_8 + 1 := ⟨_, rfl⟩
            have h := h v3_14 ev3_14
            refine sv_iinc (pc := 119) G dX6_check_119 0 v3_14 [(3, .int v3_14), (0, .ref (b + 0)), (1, .int v1), (2, .int v2), (4, .int v4)] (by rw [ev3_14, ic_1]) rfl (by decide) rfl ?_
            obtain ⟨v4_15, ev4_15⟩ : ∃ y : Int32, y = v4 + 1 := ⟨_, rfl⟩
            have h := h v4_15 ev4_15
            refine sv_iinc (pc := 122) G dX6_check_122 4 v4_15 [(4, .int v4_15), (3, .int v3_14), (0, .ref (b + 0)), (1, .int v1), (2, .int v2)] (by rw [ev4_15, ic_1]) rfl (by decide) rfl ?_
            refine sv_goto (pc := 125) G dX6_check_125 50 (by decide) ?_
            refine sv_locs [2, 3, 4, 1, 0] [(0, .ref (b + 0)), (1, .int v1), (2, .int v2), (3, .int v3_14), (4, .int v4_15)] rfl ?_
            exact ih v1 v2 v3_14 v4_15 g_11  h
          · have h := h.1 c_13
            refine sv_iconst (pc := 115) G dX6_check_115 1 ic_1 ?_
            refine sv_iload_n (pc := 116) G dX6_check_116 0 rfl ?_
            refine sv_iadd (pc := 117) G dX6_check_117 ?_
            exact sv_ireturn (pc := 118) G T ⟨(Nat.le_of_ble_eq_true rfl), (Nat.le_of_ble_eq_true rfl)⟩ dX6_check_118 ⟨_, rfl, rfl, h⟩
        · have h := h.1 c_7
          refine sv_iconst (pc := 92) G dX6_check_92 1 ic_1 ?_
          refine sv_iload_n (pc := 93) G dX6_check_93 3 rfl ?_
          refine sv_iadd (pc := 94) G dX6_check_94 ?_
          exact sv_ireturn (pc := 95) G T ⟨(Nat.le_of_ble_eq_true rfl), (Nat.le_of_ble_eq_true rfl)⟩ dX6_check_95 ⟨_, rfl, rfl, h⟩
set_option maxRecDepth 100000 in
set_option maxHeartbeats 4000000 in
theorem c_X6_check {b : Nat} {xt : sv_Xt} {F : sv_Fr} {v1 : Int32} {g : sv_Mg} {Q : Int32 → sv_Mg → Prop} (hL : sv_Lay F) (h : wp_X6_check F v1 g Q) : sv_Cal yX6_check cX6_check 5 (some .int) 6 143 0 0 b xt [.ref (b + 0), .int v1] F g (sv_qI F Q) := by
  refine sv_intro mw_X6_check [(0, .ref (b + 0)), (1, .int v1)] rfl (Nat.le_of_ble_eq_true rfl) (fun x G RR T NM => ?_)
  have G : sv_G x b xt RX6 cX6_check 5 := G
  unfold wp_X6_check at h
  refine sv_aload_n (pc := 0) G dX6_check_0 0 rfl ?_
  refine sv_getI (pc := 1) G fw_X6_59 (hL.sh rfl) rfl dX6_check_1 ?_
  refine sv_topi (fun v2_16 ev2_16 => ?_)
  have h := h v2_16 ev2_16
  refine sv_istore_n (pc := 4) G dX6_check_4 [(2, .int v2_16), (0, .ref (b + 0)), (1, .int v1)] (by decide) rfl ?_
  refine sv_aload_n (pc := 5) G dX6_check_5 1 rfl ?_
  refine sv_iconst (pc := 6) G dX6_check_6 0 ic_0 ?_
  refine sv_putI (pc := 7) G fw_X6_59 (hL.sh rfl) rfl dX6_check_7 (fun g_17 eg_17 => ?_)
  have h := h g_17 eg_17
  refine sv_iload_n (pc := 10) G dX6_check_10 2 rfl ?_
  refine sv_iconst (pc := 11) G dX6_check_11 1 ic_1 ?_
  refine sv_bipush (pc := 12) G dX6_check_12 30 bp_30 ?_
  refine sv_callS (cs := 0) (sl := 0) (st := []) (As := [.int v1, .int 1, .int 30]) (pc := 14) G RR (c_X6_isWithin hL  h) mw_X6_isWithin lk_X6_67 rfl ⟨(Nat.le_of_ble_eq_true rfl), (Nat.le_of_ble_eq_true rfl)⟩ ⟨(Nat.le_of_ble_eq_true rfl), (Nat.le_of_ble_eq_true rfl)⟩ (Nat.le_of_ble_eq_true rfl) rfl dX6_check_14 (sv_kI (fun r_19 g_18 h => ?_))
  refine sv_if_ne (pc := 17) G 23 (by decide) dX6_check_17 (fun c_20 => ?_) (fun c_20 => ?_)
  · have h := h.2 c_20
    refine sv_aload_n (pc := 23) G dX6_check_23 1 rfl ?_
    refine sv_getI (pc := 24) G fw_X6_63 (hL.sh rfl) rfl dX6_check_24 ?_
    refine sv_if_ne (pc := 27) G 34 (by decide) dX6_check_27 (fun c_21 => ?_) (fun c_21 => ?_)
    · have h := h.2 c_21
      refine sv_aload_n (pc := 34) G dX6_check_34 1 rfl ?_
      refine sv_getR (pc := 35) G fw_X6_35 (hL.sh rfl) rfl (hL.rf 4 rfl) dX6_check_35 ?_
      refine sv_aload_n (pc := 38) G dX6_check_38 1 rfl ?_
      refine sv_getR (pc := 39) G fw_X6_32 (hL.sh rfl) rfl (hL.rf 3 rfl) dX6_check_39 ?_
      refine sv_callV (cs := 0) (sl := 0) (st := []) (As := [.ref (b + 15)]) (a := 23) (pc := 42) G RR (c_X0_become hL sv_C23 sv_C15 h) mw_X0_become lk_X6_194 (hL.sh rfl) (by decide) rfl rfl ⟨(Nat.le_of_ble_eq_true rfl), (Nat.le_of_ble_eq_true rfl)⟩ ⟨(Nat.le_of_ble_eq_true rfl), (Nat.le_of_ble_eq_true rfl)⟩ (Nat.le_of_ble_eq_true rfl) rfl dX6_check_42 (sv_kV (fun g_22 h => ?_))
      refine sv_iconst (pc := 45) G dX6_check_45 0 ic_0 ?_
      refine sv_istore_n (pc := 46) G dX6_check_46 [(3, .int 0), (2, .int v2_16), (0, .ref (b + 0)), (1, .int v1)] (by decide) rfl ?_
      refine sv_iconst (pc := 47) G dX6_check_47 0 ic_0 ?_
      refine sv_istore (pc := 48) G dX6_check_48 [(4, .int 0), (3, .int 0), (2, .int v2_16), (0, .ref (b + 0)), (1, .int v1)] (by decide) rfl ?_
      refine sv_locs [3, 4, 2, 1, 0] [(0, .ref (b + 0)), (1, .int v1), (2, .int v2_16), (3, .int 0), (4, .int 0)] rfl ?_
      obtain ⟨n_23, h⟩ := h
      exact aw_X6_check_50 G RR T hL   n_23 v1 v2_16 0 0 g_22  h
    · have h := h.1 c_21
      refine sv_ldcw (pc := 30) G dX6_check_30 cn_X6_308 ?_
      exact sv_ireturn (pc := 33) G T ⟨(Nat.le_of_ble_eq_true rfl), (Nat.le_of_ble_eq_true rfl)⟩ dX6_check_33 ⟨_, rfl, rfl, h⟩
  · have h := h.1 c_20
    refine sv_ldc (pc := 20) G dX6_check_20 cn_X6_71 ?_
    exact sv_ireturn (pc := 22) G T ⟨(Nat.le_of_ble_eq_true rfl), (Nat.le_of_ble_eq_true rfl)⟩ dX6_check_22 ⟨_, rfl, rfl, h⟩
def wp_X6_keep (F : sv_Fr) (g : sv_Mg) (Q : Int32 → sv_Mg → Prop) : Prop := wp_X0_become F 15 7 g (fun g_1 => ∀ g_2, g_2 = sv_st g_1 0 10 1 → Q (g_2 7 8) g_2)
set_option maxRecDepth 100000 in
set_option maxHeartbeats 4000000 in
theorem c_X6_keep {b : Nat} {xt : sv_Xt} {F : sv_Fr} {g : sv_Mg} {Q : Int32 → sv_Mg → Prop} (hL : sv_Lay F) (h : wp_X6_keep F g Q) : sv_Cal yX6_keep cX6_keep 1 (some .int) 2 121 0 0 b xt [.ref (b + 0)] F g (sv_qI F Q) := by
  refine sv_intro mw_X6_keep [(0, .ref (b + 0))] rfl (Nat.le_of_ble_eq_true rfl) (fun x G RR T NM => ?_)
  have G : sv_G x b xt RX6 cX6_keep 1 := G
  unfold wp_X6_keep at h
  refine sv_aload_n (pc := 0) G dX6_keep_0 0 rfl ?_
  refine sv_getR (pc := 1) G fw_X6_32 (hL.sh rfl) rfl (hL.rf 3 rfl) dX6_keep_1 ?_
  refine sv_aload_n (pc := 4) G dX6_keep_4 0 rfl ?_
  refine sv_getR (pc := 5) G fw_X6_28 (hL.sh rfl) rfl (hL.rf 2 rfl) dX6_keep_5 ?_
  refine sv_callV (cs := 0) (sl := 0) (st := []) (As := [.ref (b + 7)]) (a := 15) (pc := 8) G RR (c_X0_become hL sv_C15 sv_C7 h) mw_X0_become lk_X6_194 (hL.sh rfl) (by decide) rfl rfl ⟨(Nat.le_of_ble_eq_true rfl), (Nat.le_of_ble_eq_true rfl)⟩ ⟨(Nat.le_of_ble_eq_true rfl), (Nat.le_of_ble_eq_true rfl)⟩ (Nat.le_of_ble_eq_true rfl) rfl dX6_keep_8 (sv_kV (fun g_1 h => ?_))
  refine sv_aload_n (pc := 11) G dX6_keep_11 0 rfl ?_
  refine sv_iconst (pc := 12) G dX6_keep_12 1 ic_1 ?_
  refine sv_putZ (pc := 13) G fw_X6_63 (hL.sh rfl) (Or.inr rfl) rfl dX6_keep_13 (fun g_2 eg_2 => ?_)
  have h := h g_2 eg_2
  refine sv_aload_n (pc := 16) G dX6_keep_16 0 rfl ?_
  refine sv_getR (pc := 17) G fw_X6_28 (hL.sh rfl) rfl (hL.rf 2 rfl) dX6_keep_17 ?_
  refine sv_getI (pc := 20) G fw_X6_72 (hL.sh rfl) rfl dX6_keep_20 ?_
  exact sv_ireturn (pc := 23) G T ⟨(Nat.le_of_ble_eq_true rfl), (Nat.le_of_ble_eq_true rfl)⟩ dX6_keep_23 ⟨_, rfl, rfl, h⟩
def wp_X6_back (F : sv_Fr) (g : sv_Mg) (Q : Int32 → sv_Mg → Prop) : Prop := (((g 0 10) = 0 → Q (-1000000002) g) ∧ (¬ (g 0 10) = 0 → wp_X0_become F 7 15 g (fun g_2 => Q (g_2 7 8) g_2)))
set_option maxRecDepth 100000 in
set_option maxHeartbeats 4000000 in
theorem c_X6_back {b : Nat} {xt : sv_Xt} {F : sv_Fr} {g : sv_Mg} {Q : Int32 → sv_Mg → Prop} (hL : sv_Lay F) (h : wp_X6_back F g Q) : sv_Cal yX6_back cX6_back 1 (some .int) 2 121 0 0 b xt [.ref (b + 0)] F g (sv_qI F Q) := by
  refine sv_intro mw_X6_back [(0, .ref (b + 0))] rfl (Nat.le_of_ble_eq_true rfl) (fun x G RR T NM => ?_)
  have G : sv_G x b xt RX6 cX6_back 1 := G
  unfold wp_X6_back at h
  refine sv_aload_n (pc := 0) G dX6_back_0 0 rfl ?_
  refine sv_getI (pc := 1) G fw_X6_63 (hL.sh rfl) rfl dX6_back_1 ?_
  refine sv_if_ne (pc := 4) G 11 (by decide) dX6_back_4 (fun c_1 => ?_) (fun c_1 => ?_)
  · have h := h.2 c_1
    refine sv_aload_n (pc := 11) G dX6_back_11 0 rfl ?_
    refine sv_getR (pc := 12) G fw_X6_28 (hL.sh rfl) rfl (hL.rf 2 rfl) dX6_back_12 ?_
    refine sv_aload_n (pc := 15) G dX6_back_15 0 rfl ?_
    refine sv_getR (pc := 16) G fw_X6_32 (hL.sh rfl) rfl (hL.rf 3 rfl) dX6_back_16 ?_
    refine sv_callV (cs := 0) (sl := 0) (st := []) (As := [.ref (b + 15)]) (a := 7) (pc := 19) G RR (c_X0_become hL sv_C7 sv_C15 h) mw_X0_become lk_X6_194 (hL.sh rfl) (by decide) rfl rfl ⟨(Nat.le_of_ble_eq_true rfl), (Nat.le_of_ble_eq_true rfl)⟩ ⟨(Nat.le_of_ble_eq_true rfl), (Nat.le_of_ble_eq_true rfl)⟩ (Nat.le_of_ble_eq_true rfl) rfl dX6_back_19 (sv_kV (fun g_2 h => ?_))
    refine sv_aload_n (pc := 22) G dX6_back_22 0 rfl ?_
    refine sv_getR (pc := 23) G fw_X6_28 (hL.sh rfl) rfl (hL.rf 2 rfl) dX6_back_23 ?_
    refine sv_getI (pc := 26) G fw_X6_72 (hL.sh rfl) rfl dX6_back_26 ?_
    exact sv_ireturn (pc := 29) G T ⟨(Nat.le_of_ble_eq_true rfl), (Nat.le_of_ble_eq_true rfl)⟩ dX6_back_29 ⟨_, rfl, rfl, h⟩
  · have h := h.1 c_1
    refine sv_ldcw (pc := 7) G dX6_back_7 cn_X6_308 ?_
    exact sv_ireturn (pc := 10) G T ⟨(Nat.le_of_ble_eq_true rfl), (Nat.le_of_ble_eq_true rfl)⟩ dX6_back_10 ⟨_, rfl, rfl, h⟩
def wp_X6_count (F : sv_Fr) (v1 : Int32) (g : sv_Mg) (Q : Int32 → sv_Mg → Prop) : Prop := ((v1 = 0 → Q (g 7 8) g) ∧ (¬ v1 = 0 → ((v1 = 1 → Q (g 7 15) g) ∧ (¬ v1 = 1 → ((v1 = 2 → Q (g 7 14) g) ∧ (¬ v1 = 2 → ((v1 = 3 → Q (g 7 9) g) ∧ (¬ v1 = 3 → ((v1 = 4 → Q (g 7 10) g) ∧ (¬ v1 = 4 → ((v1 = 5 → Q (g 7 11) g) ∧ (¬ v1 = 5 → ((v1 = 6 → Q (g 7 18) g) ∧ (¬ v1 = 6 → ((v1 = 7 → Q (g 0 9) g) ∧ (¬ v1 = 7 → ((v1 = 8 → Q (g 4 1) g) ∧ (¬ v1 = 8 → ((v1 = 9 → Q (g 7 16) g) ∧ (¬ v1 = 9 → Q (-1000000001) g))))))))))))))))))))
set_option maxRecDepth 100000 in
set_option maxHeartbeats 4000000 in
theorem c_X6_count {b : Nat} {xt : sv_Xt} {F : sv_Fr} {v1 : Int32} {g : sv_Mg} {Q : Int32 → sv_Mg → Prop} (hL : sv_Lay F) (h : wp_X6_count F v1 g Q) : sv_Cal yX6_count cX6_count 2 (some .int) 0 0 0 0 b xt [.ref (b + 0), .int v1] F g (sv_qI F Q) := by
  refine sv_intro mw_X6_count [(0, .ref (b + 0)), (1, .int v1)] rfl (Nat.le_of_ble_eq_true rfl) (fun x G RR T NM => ?_)
  have G : sv_G x b xt RX6 cX6_count 2 := G
  unfold wp_X6_count at h
  refine sv_iload_n (pc := 0) G dX6_count_0 1 rfl ?_
  by_cases c_1 : v1 = 0
  · have h := h.1 c_1
    refine sv_tsw (pc := 1) G dX6_count_1 0 (by rw [c_1]; decide) 56 (by decide) (by decide) rfl (by decide) ?_
    refine sv_aload_n (pc := 56) G dX6_count_56 0 rfl ?_
    refine sv_getR (pc := 57) G fw_X6_28 (hL.sh rfl) rfl (hL.rf 2 rfl) dX6_count_57 ?_
    refine sv_getI (pc := 60) G fw_X6_72 (hL.sh rfl) rfl dX6_count_60 ?_
    exact sv_ireturn (pc := 63) G T ⟨(Nat.le_of_ble_eq_true rfl), (Nat.le_of_ble_eq_true rfl)⟩ dX6_count_63 ⟨_, rfl, rfl, h⟩
  · have h := h.2 c_1
    by_cases c_2 : v1 = 1
    · have h := h.1 c_2
      refine sv_tsw (pc := 1) G dX6_count_1 1 (by rw [c_2]; decide) 64 (by decide) (by decide) rfl (by decide) ?_
      refine sv_aload_n (pc := 64) G dX6_count_64 0 rfl ?_
      refine sv_getR (pc := 65) G fw_X6_28 (hL.sh rfl) rfl (hL.rf 2 rfl) dX6_count_65 ?_
      refine sv_getI (pc := 68) G fw_X6_162 (hL.sh rfl) rfl dX6_count_68 ?_
      exact sv_ireturn (pc := 71) G T ⟨(Nat.le_of_ble_eq_true rfl), (Nat.le_of_ble_eq_true rfl)⟩ dX6_count_71 ⟨_, rfl, rfl, h⟩
    · have h := h.2 c_2
      by_cases c_3 : v1 = 2
      · have h := h.1 c_3
        refine sv_tsw (pc := 1) G dX6_count_1 2 (by rw [c_3]; decide) 72 (by decide) (by decide) rfl (by decide) ?_
        refine sv_aload_n (pc := 72) G dX6_count_72 0 rfl ?_
        refine sv_getR (pc := 73) G fw_X6_28 (hL.sh rfl) rfl (hL.rf 2 rfl) dX6_count_73 ?_
        refine sv_getI (pc := 76) G fw_X6_145 (hL.sh rfl) rfl dX6_count_76 ?_
        exact sv_ireturn (pc := 79) G T ⟨(Nat.le_of_ble_eq_true rfl), (Nat.le_of_ble_eq_true rfl)⟩ dX6_count_79 ⟨_, rfl, rfl, h⟩
      · have h := h.2 c_3
        by_cases c_4 : v1 = 3
        · have h := h.1 c_4
          refine sv_tsw (pc := 1) G dX6_count_1 3 (by rw [c_4]; decide) 80 (by decide) (by decide) rfl (by decide) ?_
          refine sv_aload_n (pc := 80) G dX6_count_80 0 rfl ?_
          refine sv_getR (pc := 81) G fw_X6_28 (hL.sh rfl) rfl (hL.rf 2 rfl) dX6_count_81 ?_
          refine sv_getI (pc := 84) G fw_X6_136 (hL.sh rfl) rfl dX6_count_84 ?_
          exact sv_ireturn (pc := 87) G T ⟨(Nat.le_of_ble_eq_true rfl), (Nat.le_of_ble_eq_true rfl)⟩ dX6_count_87 ⟨_, rfl, rfl, h⟩
        · have h := h.2 c_4
          by_cases c_5 : v1 = 4
          · have h := h.1 c_5
            refine sv_tsw (pc := 1) G dX6_count_1 4 (by rw [c_5]; decide) 88 (by decide) (by decide) rfl (by decide) ?_
            refine sv_aload_n (pc := 88) G dX6_count_88 0 rfl ?_
            refine sv_getR (pc := 89) G fw_X6_28 (hL.sh rfl) rfl (hL.rf 2 rfl) dX6_count_89 ?_
            refine sv_getI (pc := 92) G fw_X6_139 (hL.sh rfl) rfl dX6_count_92 ?_
            exact sv_ireturn (pc := 95) G T ⟨(Nat.le_of_ble_eq_true rfl), (Nat.le_of_ble_eq_true rfl)⟩ dX6_count_95 ⟨_, rfl, rfl, h⟩
          · have h := h.2 c_5
            by_cases c_6 : v1 = 5
            · have h := h.1 c_6
              refine sv_tsw (pc := 1) G dX6_count_1 5 (by rw [c_6]; decide) 96 (by decide) (by decide) rfl (by decide) ?_
              refine sv_aload_n (pc := 96) G dX6_count_96 0 rfl ?_
              refine sv_getR (pc := 97) G fw_X6_28 (hL.sh rfl) rfl (hL.rf 2 rfl) dX6_count_97 ?_
              refine sv_getI (pc := 100) G fw_X6_142 (hL.sh rfl) rfl dX6_count_100 ?_
              exact sv_ireturn (pc := 103) G T ⟨(Nat.le_of_ble_eq_true rfl), (Nat.le_of_ble_eq_true rfl)⟩ dX6_count_103 ⟨_, rfl, rfl, h⟩
            · have h := h.2 c_6
              by_cases c_7 : v1 = 6
              · have h := h.1 c_7
                refine sv_tsw (pc := 1) G dX6_count_1 6 (by rw [c_7]; decide) 104 (by decide) (by decide) rfl (by decide) ?_
                refine sv_aload_n (pc := 104) G dX6_count_104 0 rfl ?_
                refine sv_getR (pc := 105) G fw_X6_28 (hL.sh rfl) rfl (hL.rf 2 rfl) dX6_count_105 ?_
                refine sv_getI (pc := 108) G fw_X6_216 (hL.sh rfl) rfl dX6_count_108 ?_
                exact sv_ireturn (pc := 111) G T ⟨(Nat.le_of_ble_eq_true rfl), (Nat.le_of_ble_eq_true rfl)⟩ dX6_count_111 ⟨_, rfl, rfl, h⟩
              · have h := h.2 c_7
                by_cases c_8 : v1 = 7
                · have h := h.1 c_8
                  refine sv_tsw (pc := 1) G dX6_count_1 7 (by rw [c_8]; decide) 112 (by decide) (by decide) rfl (by decide) ?_
                  refine sv_aload_n (pc := 112) G dX6_count_112 0 rfl ?_
                  refine sv_getI (pc := 113) G fw_X6_59 (hL.sh rfl) rfl dX6_count_113 ?_
                  exact sv_ireturn (pc := 116) G T ⟨(Nat.le_of_ble_eq_true rfl), (Nat.le_of_ble_eq_true rfl)⟩ dX6_count_116 ⟨_, rfl, rfl, h⟩
                · have h := h.2 c_8
                  by_cases c_9 : v1 = 8
                  · have h := h.1 c_9
                    refine sv_tsw (pc := 1) G dX6_count_1 8 (by rw [c_9]; decide) 117 (by decide) (by decide) rfl (by decide) ?_
                    refine sv_aload_n (pc := 117) G dX6_count_117 0 rfl ?_
                    refine sv_getR (pc := 118) G fw_X6_19 (hL.sh rfl) rfl (hL.rf 1 rfl) dX6_count_118 ?_
                    refine sv_getI (pc := 121) G fw_X6_226 (hL.sh rfl) rfl dX6_count_121 ?_
                    exact sv_ireturn (pc := 124) G T ⟨(Nat.le_of_ble_eq_true rfl), (Nat.le_of_ble_eq_true rfl)⟩ dX6_count_124 ⟨_, rfl, rfl, h⟩
                  · have h := h.2 c_9
                    by_cases c_10 : v1 = 9
                    · have h := h.1 c_10
                      refine sv_tsw (pc := 1) G dX6_count_1 9 (by rw [c_10]; decide) 125 (by decide) (by decide) rfl (by decide) ?_
                      refine sv_aload_n (pc := 125) G dX6_count_125 0 rfl ?_
                      refine sv_getR (pc := 126) G fw_X6_28 (hL.sh rfl) rfl (hL.rf 2 rfl) dX6_count_126 ?_
                      refine sv_getI (pc := 129) G fw_X6_159 (hL.sh rfl) rfl dX6_count_129 ?_
                      exact sv_ireturn (pc := 132) G T ⟨(Nat.le_of_ble_eq_true rfl), (Nat.le_of_ble_eq_true rfl)⟩ dX6_count_132 ⟨_, rfl, rfl, h⟩
                    · have h := h.2 c_10
                      refine sv_tswD (pc := 1) G dX6_count_1 (by have qc_1 := lv_neT (a := 0) c_1 (by decide); have qc_2 := lv_neT (a := 1) c_2 (by decide); have qc_3 := lv_neT (a := 2) c_3 (by decide); have qc_4 := lv_neT (a := 3) c_4 (by decide); have qc_5 := lv_neT (a := 4) c_5 (by decide); have qc_6 := lv_neT (a := 5) c_6 (by decide); have qc_7 := lv_neT (a := 6) c_7 (by decide); have qc_8 := lv_neT (a := 7) c_8 (by decide); have qc_9 := lv_neT (a := 8) c_9 (by decide); have qc_10 := lv_neT (a := 9) c_10 (by decide); omega) 133 (by decide) ?_
                      refine sv_ldc (pc := 133) G dX6_count_133 cn_X6_71 ?_
                      exact sv_ireturn (pc := 135) G T ⟨(Nat.le_of_ble_eq_true rfl), (Nat.le_of_ble_eq_true rfl)⟩ dX6_count_135 ⟨_, rfl, rfl, h⟩
