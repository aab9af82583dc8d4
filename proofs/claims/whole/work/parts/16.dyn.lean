def wp_X0_init (F : sv_Fr) (a : Nat) (a1 : Nat) (g : sv_Mg) (Q : sv_Fr → sv_Mg → Prop) : Prop := ∀ F_1 g_2 a_3, F_1 = sv_nw F (10, 10) → g_2 = sv_nz F g → a_3 = F.1.length → F_1.1[a]? = some (0, 19) ∧ ∀ F_5, F_5 = (F_1.1, sv_sr F_1.2 a 1 (some a_3)) → ∀ F_6 g_7 a_8, F_6 = sv_nw F_5 (10, 10) → g_7 = sv_nz F_5 g_2 → a_8 = F_5.1.length → F_6.1[a]? = some (0, 19) ∧ ∀ F_10, F_10 = (F_6.1, sv_sr F_6.2 a 2 (some a_8)) → ∀ F_11 g_12 a_13, F_11 = sv_nw F_10 (10, 10) → g_12 = sv_nz F_10 g_7 → a_13 = F_10.1.length → F_11.1[a]? = some (0, 19) ∧ ∀ F_15, F_15 = (F_11.1, sv_sr F_11.2 a 3 (some a_13)) → ∀ F_16 g_17 a_18, F_16 = sv_nw F_15 (10, 10) → g_17 = sv_nz F_15 g_12 → a_18 = F_15.1.length → F_16.1[a]? = some (0, 19) ∧ ∀ F_20, F_20 = (F_16.1, sv_sr F_16.2 a 4 (some a_18)) → ∀ F_21 g_22 a_23, F_21 = sv_nw F_20 (10, 10) → g_22 = sv_nz F_20 g_17 → a_23 = F_20.1.length → F_21.1[a]? = some (0, 19) ∧ ∀ F_25, F_25 = (F_21.1, sv_sr F_21.2 a 5 (some a_23)) → ∀ F_26 g_27 a_28, F_26 = sv_nw F_25 (10, 10) → g_27 = sv_nz F_25 g_22 → a_28 = F_25.1.length → F_26.1[a]? = some (0, 19) ∧ ∀ F_30, F_30 = (F_26.1, sv_sr F_26.2 a 6 (some a_28)) → ∀ F_31 g_32 a_33, F_31 = sv_nw F_30 (10, 10) → g_32 = sv_nz F_30 g_27 → a_33 = F_30.1.length → F_31.1[a]? = some (0, 19) ∧ ∀ F_35, F_35 = (F_31.1, sv_sr F_31.2 a 7 (some a_33)) → F_35.1[a]? = some (0, 19) ∧ ∀ g_37, g_37 = sv_st g_32 a 8 0 → F_35.1[a]? = some (0, 19) ∧ ∀ g_39, g_39 = sv_st g_37 a 9 0 → F_35.1[a]? = some (0, 19) ∧ ∀ g_41, g_41 = sv_st g_39 a 10 50 → F_35.1[a]? = some (0, 19) ∧ ∀ g_43, g_43 = sv_st g_41 a 11 10 → F_35.1[a]? = some (0, 19) ∧ ∀ g_45, g_45 = sv_st g_43 a 12 0 → F_35.1[a]? = some (0, 19) ∧ ∀ g_47, g_47 = sv_st g_45 a 13 (-1) → F_35.1[a]? = some (0, 19) ∧ ∀ g_49, g_49 = sv_st g_47 a 14 0 → F_35.1[a]? = some (0, 19) ∧ ∀ g_51, g_51 = sv_st g_49 a 15 0 → F_35.1[a]? = some (0, 19) ∧ ∀ g_53, g_53 = sv_st g_51 a 16 1 → F_35.1[a]? = some (0, 19) ∧ ∀ g_55, g_55 = sv_st g_53 a 17 3 → F_35.1[a]? = some (0, 19) ∧ ∀ g_57, g_57 = sv_st g_55 a 18 0 → F_35.1[a]? = some (0, 19) ∧ ∀ F_59, F_59 = (F_35.1, sv_sr F_35.2 a 0 (some a1)) → Q F_59 g_57
set_option maxRecDepth 100000 in
set_option maxHeartbeats 4000000 in
theorem c_X0_init {b : Nat} {xt : sv_Xt} {F : sv_Fr} {a : Nat} {a1 : Nat} {g : sv_Mg} {Q : sv_Fr → sv_Mg → Prop} (h : wp_X0_init F a a1 g Q) : sv_Cal yX0_init cX0_init 2 none 1 20 7 70 b xt [.ref (b + a), .ref (b + a1)] F g (sv_qN Q) := by
  refine sv_intro mw_X0_init [(0, .ref (b + a)), (1, .ref (b + a1))] rfl (Nat.le_of_ble_eq_true rfl) (fun x G RR T NM => ?_)
  have G : sv_G x b xt RX0 cX0_init 2 := G
  have NM : sv_NM x "<init>" := NM
  unfold wp_X0_init at h
  refine sv_aload_n (pc := 0) G dX0_init_0 0 rfl ?_
  refine sv_objInit (pc := 1) G RR lk_X0_3 wd_oi1 wd_oi2 (Nat.le_of_ble_eq_true rfl) (Nat.le_of_ble_eq_true rfl) (Nat.le_of_ble_eq_true rfl) dX0_init_1 ?_
  refine sv_aload_n (pc := 4) G dX0_init_4 0 rfl ?_
  refine sv_bipush (pc := 5) G dX0_init_5 10 bp_10 ?_
  refine sv_newa (cs := 0) (sl := 0) (t := 10) (atype := .int) (pc := 7) G RR 0 (by decide) (by decide) (fun _ => rfl) (fun _ _ h => h) rfl (by decide) wd_aint 10 (by decide) (by decide) ⟨(Nat.le_of_ble_eq_true rfl), (Nat.le_of_ble_eq_true rfl)⟩ dX0_init_7 (fun F_1 g_2 a_3 eF_1 eg_2 ea_3 => ?_)
  have h := h F_1 g_2 a_3 eF_1 eg_2 ea_3
  obtain ⟨s_4, h⟩ := h
  refine sv_putRF (pc := 9) G fw_X0_9 NM (by intro C T h; cases h; rfl) s_4 rfl dX0_init_9 (fun F_5 eF_5 => ?_)
  have h := h F_5 eF_5
  refine sv_aload_n (pc := 12) G dX0_init_12 0 rfl ?_
  refine sv_bipush (pc := 13) G dX0_init_13 10 bp_10 ?_
  refine sv_newa (cs := 1) (sl := 10) (t := 10) (atype := .int) (pc := 15) G RR 0 (by decide) (by decide) (fun _ => rfl) (fun _ _ h => h) rfl (by decide) wd_aint 10 (by decide) (by decide) ⟨(Nat.le_of_ble_eq_true rfl), (Nat.le_of_ble_eq_true rfl)⟩ dX0_init_15 (fun F_6 g_7 a_8 eF_6 eg_7 ea_8 => ?_)
  have h := h F_6 g_7 a_8 eF_6 eg_7 ea_8
  obtain ⟨s_9, h⟩ := h
  refine sv_putRF (pc := 17) G fw_X0_15 NM (by intro C T h; cases h; rfl) s_9 rfl dX0_init_17 (fun F_10 eF_10 => ?_)
  have h := h F_10 eF_10
  refine sv_aload_n (pc := 20) G dX0_init_20 0 rfl ?_
  refine sv_bipush (pc := 21) G dX0_init_21 10 bp_10 ?_
  refine sv_newa (cs := 2) (sl := 20) (t := 10) (atype := .int) (pc := 23) G RR 0 (by decide) (by decide) (fun _ => rfl) (fun _ _ h => h) rfl (by decide) wd_aint 10 (by decide) (by decide) ⟨(Nat.le_of_ble_eq_true rfl), (Nat.le_of_ble_eq_true rfl)⟩ dX0_init_23 (fun F_11 g_12 a_13 eF_11 eg_12 ea_13 => ?_)
  have h := h F_11 g_12 a_13 eF_11 eg_12 ea_13
  obtain ⟨s_14, h⟩ := h
  refine sv_putRF (pc := 25) G fw_X0_18 NM (by intro C T h; cases h; rfl) s_14 rfl dX0_init_25 (fun F_15 eF_15 => ?_)
  have h := h F_15 eF_15
  refine sv_aload_n (pc := 28) G dX0_init_28 0 rfl ?_
  refine sv_bipush (pc := 29) G dX0_init_29 10 bp_10 ?_
  refine sv_newa (cs := 3) (sl := 30) (t := 10) (atype := .int) (pc := 31) G RR 0 (by decide) (by decide) (fun _ => rfl) (fun _ _ h => h) rfl (by decide) wd_aint 10 (by decide) (by decide) ⟨(Nat.le_of_ble_eq_true rfl), (Nat.le_of_ble_eq_true rfl)⟩ dX0_init_31 (fun F_16 g_17 a_18 eF_16 eg_17 ea_18 => ?_)
  have h := h F_16 g_17 a_18 eF_16 eg_17 ea_18
  obtain ⟨s_19, h⟩ := h
  refine sv_putRF (pc := 33) G fw_X0_21 NM (by intro C T h; cases h; rfl) s_19 rfl dX0_init_33 (fun F_20 eF_20 => ?_)
  have h := h F_20 eF_20
  refine sv_aload_n (pc := 36) G dX0_init_36 0 rfl ?_
  refine sv_bipush (pc := 37) G dX0_init_37 10 bp_10 ?_
  refine sv_newa (cs := 4) (sl := 40) (t := 10) (atype := .int) (pc := 39) G RR 0 (by decide) (by decide) (fun _ => rfl) (fun _ _ h => h) rfl (by decide) wd_aint 10 (by decide) (by decide) ⟨(Nat.le_of_ble_eq_true rfl), (Nat.le_of_ble_eq_true rfl)⟩ dX0_init_39 (fun F_21 g_22 a_23 eF_21 eg_22 ea_23 => ?_)
  have h := h F_21 g_22 a_23 eF_21 eg_22 ea_23
  obtain ⟨s_24, h⟩ := h
  refine sv_putRF (pc := 41) G fw_X0_24 NM (by intro C T h; cases h; rfl) s_24 rfl dX0_init_41 (fun F_25 eF_25 => ?_)
  have h := h F_25 eF_25
  refine sv_aload_n (pc := 44) G dX0_init_44 0 rfl ?_
  refine sv_bipush (pc := 45) G dX0_init_45 10 bp_10 ?_
  refine sv_newa (cs := 5) (sl := 50) (t := 10) (atype := .int) (pc := 47) G RR 0 (by decide) (by decide) (fun _ => rfl) (fun _ _ h => h) rfl (by decide) wd_aint 10 (by decide) (by decide) ⟨(Nat.le_of_ble_eq_true rfl), (Nat.le_of_ble_eq_true rfl)⟩ dX0_init_47 (fun F_26 g_27 a_28 eF_26 eg_27 ea_28 => ?_)
  have h := h F_26 g_27 a_28 eF_26 eg_27 ea_28
  obtain ⟨s_29, h⟩ := h
  refine sv_putRF (pc := 49) G fw_X0_27 NM (by intro C T h; cases h; rfl) s_29 rfl dX0_init_49 (fun F_30 eF_30 => ?_)
  have h := h F_30 eF_30
  refine sv_aload_n (pc := 52) G dX0_init_52 0 rfl ?_
  refine sv_bipush (pc := 53) G dX0_init_53 10 bp_10 ?_
  refine sv_newa (cs := 6) (sl := 60) (t := 10) (atype := .int) (pc := 55) G RR 0 (by decide) (by decide) (fun _ => rfl) (fun _ _ h => h) rfl (by decide) wd_aint 10 (by decide) (by decide) ⟨(Nat.le_of_ble_eq_true rfl), (Nat.le_of_ble_eq_true rfl)⟩ dX0_init_55 (fun F_31 g_32 a_33 eF_31 eg_32 ea_33 => ?_)
  have h := h F_31 g_32 a_33 eF_31 eg_32 ea_33
  obtain ⟨s_34, h⟩ := h
  refine sv_putRF (pc := 57) G fw_X0_30 NM (by intro C T h; cases h; rfl) s_34 rfl dX0_init_57 (fun F_35 eF_35 => ?_)
  have h := h F_35 eF_35
  refine sv_aload_n (pc := 60) G dX0_init_60 0 rfl ?_
  refine sv_iconst (pc := 61) G dX0_init_61 0 ic_0 ?_
  obtain ⟨s_36, h⟩ := h
  refine sv_putI (pc := 62) G fw_X0_33 s_36 rfl dX0_init_62 (fun g_37 eg_37 => ?_)
  have h := h g_37 eg_37
  refine sv_aload_n (pc := 65) G dX0_init_65 0 rfl ?_
  refine sv_iconst (pc := 66) G dX0_init_66 0 ic_0 ?_
  obtain ⟨s_38, h⟩ := h
  refine sv_putI (pc := 67) G fw_X0_37 s_38 rfl dX0_init_67 (fun g_39 eg_39 => ?_)
  have h := h g_39 eg_39
  refine sv_aload_n (pc := 70) G dX0_init_70 0 rfl ?_
  refine sv_bipush (pc := 71) G dX0_init_71 50 bp_50 ?_
  obtain ⟨s_40, h⟩ := h
  refine sv_putI (pc := 73) G fw_X0_40 s_40 rfl dX0_init_73 (fun g_41 eg_41 => ?_)
  have h := h g_41 eg_41
  refine sv_aload_n (pc := 76) G dX0_init_76 0 rfl ?_
  refine sv_bipush (pc := 77) G dX0_init_77 10 bp_10 ?_
  obtain ⟨s_42, h⟩ := h
  refine sv_putI (pc := 79) G fw_X0_43 s_42 rfl dX0_init_79 (fun g_43 eg_43 => ?_)
  have h := h g_43 eg_43
  refine sv_aload_n (pc := 82) G dX0_init_82 0 rfl ?_
  refine sv_iconst (pc := 83) G dX0_init_83 0 ic_0 ?_
  obtain ⟨s_44, h⟩ := h
  refine sv_putI (pc := 84) G fw_X0_46 s_44 rfl dX0_init_84 (fun g_45 eg_45 => ?_)
  have h := h g_45 eg_45
  refine sv_aload_n (pc := 87) G dX0_init_87 0 rfl ?_
  refine sv_iconst (pc := 88) G dX0_init_88 (-1) ic_m1 ?_
  obtain ⟨s_46, h⟩ := h
  refine sv_putI (pc := 89) G fw_X0_49 s_46 rfl dX0_init_89 (fun g_47 eg_47 => ?_)
  have h := h g_47 eg_47
  refine sv_aload_n (pc := 92) G dX0_init_92 0 rfl ?_
  refine sv_iconst (pc := 93) G dX0_init_93 0 ic_0 ?_
  obtain ⟨s_48, h⟩ := h
  refine sv_putI (pc := 94) G fw_X0_52 s_48 rfl dX0_init_94 (fun g_49 eg_49 => ?_)
  have h := h g_49 eg_49
  refine sv_aload_n (pc := 97) G dX0_init_97 0 rfl ?_
  refine sv_iconst (pc := 98) G dX0_init_98 0 ic_0 ?_
  obtain ⟨s_50, h⟩ := h
  refine sv_putI (pc := 99) G fw_X0_55 s_50 rfl dX0_init_99 (fun g_51 eg_51 => ?_)
  have h := h g_51 eg_51
  refine sv_aload_n (pc := 102) G dX0_init_102 0 rfl ?_
  refine sv_iconst (pc := 103) G dX0_init_103 1 ic_1 ?_
  obtain ⟨s_52, h⟩ := h
  refine sv_putI (pc := 104) G fw_X0_58 s_52 rfl dX0_init_104 (fun g_53 eg_53 => ?_)
  have h := h g_53 eg_53
  refine sv_aload_n (pc := 107) G dX0_init_107 0 rfl ?_
  refine sv_iconst (pc := 108) G dX0_init_108 3 ic_3 ?_
  obtain ⟨s_54, h⟩ := h
  refine sv_putI (pc := 109) G fw_X0_61 s_54 rfl dX0_init_109 (fun g_55 eg_55 => ?_)
  have h := h g_55 eg_55
  refine sv_aload_n (pc := 112) G dX0_init_112 0 rfl ?_
  refine sv_iconst (pc := 113) G dX0_init_113 0 ic_0 ?_
  obtain ⟨s_56, h⟩ := h
  refine sv_putI (pc := 114) G fw_X0_64 s_56 rfl dX0_init_114 (fun g_57 eg_57 => ?_)
  have h := h g_57 eg_57
  refine sv_aload_n (pc := 117) G dX0_init_117 0 rfl ?_
  refine sv_aload_n (pc := 118) G dX0_init_118 1 rfl ?_
  obtain ⟨s_58, h⟩ := h
  refine sv_putRF (pc := 119) G fw_X0_67 NM (by intro C T h; cases h; rfl) s_58 rfl dX0_init_119 (fun F_59 eF_59 => ?_)
  have h := h F_59 eF_59
  exact sv_vreturn (cs := 7) (sl := 70) (pc := 122) G T ⟨(Nat.le_of_ble_eq_true rfl), (Nat.le_of_ble_eq_true rfl)⟩ dX0_init_122 ⟨rfl, h⟩
def wp_X1_init (F : sv_Fr) (a : Nat) (a3 : Nat) (v1 : Int32) (v2 : Int32) (g : sv_Mg) (Q : sv_Fr → sv_Mg → Prop) : Prop := F.1[a]? = some (1, 3) ∧ ∀ g_2, g_2 = sv_st g a 0 v1 → F.1[a]? = some (1, 3) ∧ ∀ g_4, g_4 = sv_st g_2 a 1 v2 → F.1[a]? = some (1, 3) ∧ ∀ F_6, F_6 = (F.1, sv_sr F.2 a 2 (some a3)) → Q F_6 g_4
set_option maxRecDepth 100000 in
set_option maxHeartbeats 4000000 in
theorem c_X1_init {b : Nat} {xt : sv_Xt} {F : sv_Fr} {a : Nat} {a3 : Nat} {v1 : Int32} {v2 : Int32} {g : sv_Mg} {Q : sv_Fr → sv_Mg → Prop} (h : wp_X1_init F a a3 v1 v2 g Q) : sv_Cal yX1_init cX1_init 4 none 1 20 0 0 b xt [.ref (b + a), .int v1, .int v2, .ref (b + a3)] F g (sv_qN Q) := by
  refine sv_intro mw_X1_init [(0, .ref (b + a)), (1, .int v1), (2, .int v2), (3, .ref (b + a3))] rfl (Nat.le_of_ble_eq_true rfl) (fun x G RR T NM => ?_)
  have G : sv_G x b xt RX1 cX1_init 4 := G
  have NM : sv_NM x "<init>" := NM
  unfold wp_X1_init at h
  refine sv_aload_n (pc := 0) G dX1_init_0 0 rfl ?_
  refine sv_objInit (pc := 1) G RR lk_X1_1 wd_oi1 wd_oi2 (Nat.le_of_ble_eq_true rfl) (Nat.le_of_ble_eq_true rfl) (Nat.le_of_ble_eq_true rfl) dX1_init_1 ?_
  refine sv_aload_n (pc := 4) G dX1_init_4 0 rfl ?_
  refine sv_iload_n (pc := 5) G dX1_init_5 1 rfl ?_
  obtain ⟨s_1, h⟩ := h
  refine sv_putIF (pc := 6) G fw_X1_7 NM (by intro C T h; cases h; rfl) s_1 rfl dX1_init_6 (fun g_2 eg_2 => ?_)
  have h := h g_2 eg_2
  refine sv_aload_n (pc := 9) G dX1_init_9 0 rfl ?_
  refine sv_iload_n (pc := 10) G dX1_init_10 2 rfl ?_
  obtain ⟨s_3, h⟩ := h
  refine sv_putIF (pc := 11) G fw_X1_13 NM (by intro C T h; cases h; rfl) s_3 rfl dX1_init_11 (fun g_4 eg_4 => ?_)
  have h := h g_4 eg_4
  refine sv_aload_n (pc := 14) G dX1_init_14 0 rfl ?_
  refine sv_aload_n (pc := 15) G dX1_init_15 3 rfl ?_
  obtain ⟨s_5, h⟩ := h
  refine sv_putRF (pc := 16) G fw_X1_16 NM (by intro C T h; cases h; rfl) s_5 rfl dX1_init_16 (fun F_6 eF_6 => ?_)
  have h := h F_6 eF_6
  exact sv_vreturn (cs := 0) (sl := 0) (pc := 19) G T ⟨(Nat.le_of_ble_eq_true rfl), (Nat.le_of_ble_eq_true rfl)⟩ dX1_init_19 ⟨rfl, h⟩
def wp_X2_init (F : sv_Fr) (a : Nat) (g : sv_Mg) (Q : sv_Fr → sv_Mg → Prop) : Prop := ∀ F_1 g_2 a_3, F_1 = sv_nw F (20, 14) → g_2 = sv_nz F g → a_3 = F.1.length → F_1.1[a]? = some (2, 2) ∧ ∀ F_5, F_5 = (F_1.1, sv_sr F_1.2 a 0 (some a_3)) → ∀ F_6 g_7 a_8, F_6 = sv_nw F_5 (10, 96) → g_7 = sv_nz F_5 g_2 → a_8 = F_5.1.length → F_6.1[a]? = some (2, 2) ∧ ∀ F_10, F_10 = (F_6.1, sv_sr F_6.2 a 1 (some a_8)) → Q F_10 g_7
set_option maxRecDepth 100000 in
set_option maxHeartbeats 4000000 in
theorem c_X2_init {b : Nat} {xt : sv_Xt} {F : sv_Fr} {a : Nat} {g : sv_Mg} {Q : sv_Fr → sv_Mg → Prop} (h : wp_X2_init F a g Q) : sv_Cal yX2_init cX2_init 1 none 1 20 2 110 b xt [.ref (b + a)] F g (sv_qN Q) := by
  refine sv_intro mw_X2_init [(0, .ref (b + a))] rfl (Nat.le_of_ble_eq_true rfl) (fun x G RR T NM => ?_)
  have G : sv_G x b xt RX2 cX2_init 1 := G
  have NM : sv_NM x "<init>" := NM
  unfold wp_X2_init at h
  refine sv_aload_n (pc := 0) G dX2_init_0 0 rfl ?_
  refine sv_objInit (pc := 1) G RR lk_X2_3 wd_oi1 wd_oi2 (Nat.le_of_ble_eq_true rfl) (Nat.le_of_ble_eq_true rfl) (Nat.le_of_ble_eq_true rfl) dX2_init_1 ?_
  refine sv_aload_n (pc := 4) G dX2_init_4 0 rfl ?_
  refine sv_bipush (pc := 5) G dX2_init_5 14 bp_14 ?_
  refine sv_anew (cs := 0) (sl := 0) (t := 20) (pc := 7) G RR 3 (by decide) (fun _ => rfl) (fun _ h => h.2.1.1) cl_X2_9 14 (by decide) (by decide) ⟨(Nat.le_of_ble_eq_true rfl), (Nat.le_of_ble_eq_true rfl)⟩ dX2_init_7 (fun F_1 g_2 a_3 eF_1 eg_2 ea_3 => ?_)
  have h := h F_1 g_2 a_3 eF_1 eg_2 ea_3
  obtain ⟨s_4, h⟩ := h
  refine sv_putRF (pc := 10) G fw_X2_11 NM (by intro C T h; cases h; rfl) s_4 rfl dX2_init_10 (fun F_5 eF_5 => ?_)
  have h := h F_5 eF_5
  refine sv_aload_n (pc := 13) G dX2_init_13 0 rfl ?_
  refine sv_bipush (pc := 14) G dX2_init_14 96 bp_96 ?_
  refine sv_newa (cs := 1) (sl := 14) (t := 10) (atype := .int) (pc := 16) G RR 0 (by decide) (by decide) (fun _ => rfl) (fun _ _ h => h) rfl (by decide) wd_aint 96 (by decide) (by decide) ⟨(Nat.le_of_ble_eq_true rfl), (Nat.le_of_ble_eq_true rfl)⟩ dX2_init_16 (fun F_6 g_7 a_8 eF_6 eg_7 ea_8 => ?_)
  have h := h F_6 g_7 a_8 eF_6 eg_7 ea_8
  obtain ⟨s_9, h⟩ := h
  refine sv_putRF (pc := 18) G fw_X2_17 NM (by intro C T h; cases h; rfl) s_9 rfl dX2_init_18 (fun F_10 eF_10 => ?_)
  have h := h F_10 eF_10
  exact sv_vreturn (cs := 2) (sl := 110) (pc := 21) G T ⟨(Nat.le_of_ble_eq_true rfl), (Nat.le_of_ble_eq_true rfl)⟩ dX2_init_21 ⟨rfl, h⟩
def wp_X3_init (F : sv_Fr) (a : Nat) (g : sv_Mg) (Q : sv_Fr → sv_Mg → Prop) : Prop := ∀ F_1 g_2 a_3, F_1 = sv_nw F (10, 96) → g_2 = sv_nz F g → a_3 = F.1.length → F_1.1[a]? = some (3, 10) ∧ ∀ F_5, F_5 = (F_1.1, sv_sr F_1.2 a 0 (some a_3)) → F_5.1[a]? = some (3, 10) ∧ ∀ g_7, g_7 = sv_st g_2 a 1 0 → F_5.1[a]? = some (3, 10) ∧ ∀ g_9, g_9 = sv_st g_7 a 2 0 → F_5.1[a]? = some (3, 10) ∧ ∀ g_11, g_11 = sv_st g_9 a 3 0 → F_5.1[a]? = some (3, 10) ∧ ∀ g_13, g_13 = sv_st g_11 a 4 0 → F_5.1[a]? = some (3, 10) ∧ ∀ g_15, g_15 = sv_st g_13 a 5 0 → F_5.1[a]? = some (3, 10) ∧ ∀ g_17, g_17 = sv_st g_15 a 6 0 → F_5.1[a]? = some (3, 10) ∧ ∀ g_19, g_19 = sv_st g_17 a 7 0 → ∀ F_20 g_21 a_22, F_20 = sv_nw F_5 (10, 96) → g_21 = sv_nz F_5 g_19 → a_22 = F_5.1.length → F_20.1[a]? = some (3, 10) ∧ ∀ F_24, F_24 = (F_20.1, sv_sr F_20.2 a 8 (some a_22)) → F_24.1[a]? = some (3, 10) ∧ ∀ g_26, g_26 = sv_st g_21 a 9 0 → Q F_24 g_26
set_option maxRecDepth 100000 in
set_option maxHeartbeats 4000000 in
theorem c_X3_init {b : Nat} {xt : sv_Xt} {F : sv_Fr} {a : Nat} {g : sv_Mg} {Q : sv_Fr → sv_Mg → Prop} (h : wp_X3_init F a g Q) : sv_Cal yX3_init cX3_init 1 none 1 20 2 192 b xt [.ref (b + a)] F g (sv_qN Q) := by
  refine sv_intro mw_X3_init [(0, .ref (b + a))] rfl (Nat.le_of_ble_eq_true rfl) (fun x G RR T NM => ?_)
  have G : sv_G x b xt RX3 cX3_init 1 := G
  have NM : sv_NM x "<init>" := NM
  unfold wp_X3_init at h
  refine sv_aload_n (pc := 0) G dX3_init_0 0 rfl ?_
  refine sv_objInit (pc := 1) G RR lk_X3_3 wd_oi1 wd_oi2 (Nat.le_of_ble_eq_true rfl) (Nat.le_of_ble_eq_true rfl) (Nat.le_of_ble_eq_true rfl) dX3_init_1 ?_
  refine sv_aload_n (pc := 4) G dX3_init_4 0 rfl ?_
  refine sv_bipush (pc := 5) G dX3_init_5 96 bp_96 ?_
  refine sv_newa (cs := 0) (sl := 0) (t := 10) (atype := .int) (pc := 7) G RR 0 (by decide) (by decide) (fun _ => rfl) (fun _ _ h => h) rfl (by decide) wd_aint 96 (by decide) (by decide) ⟨(Nat.le_of_ble_eq_true rfl), (Nat.le_of_ble_eq_true rfl)⟩ dX3_init_7 (fun F_1 g_2 a_3 eF_1 eg_2 ea_3 => ?_)
  have h := h F_1 g_2 a_3 eF_1 eg_2 ea_3
  obtain ⟨s_4, h⟩ := h
  refine sv_putRF (pc := 9) G fw_X3_9 NM (by intro C T h; cases h; rfl) s_4 rfl dX3_init_9 (fun F_5 eF_5 => ?_)
  have h := h F_5 eF_5
  refine sv_aload_n (pc := 12) G dX3_init_12 0 rfl ?_
  refine sv_iconst (pc := 13) G dX3_init_13 0 ic_0 ?_
  obtain ⟨s_6, h⟩ := h
  refine sv_putI (pc := 14) G fw_X3_15 s_6 rfl dX3_init_14 (fun g_7 eg_7 => ?_)
  have h := h g_7 eg_7
  refine sv_aload_n (pc := 17) G dX3_init_17 0 rfl ?_
  refine sv_iconst (pc := 18) G dX3_init_18 0 ic_0 ?_
  obtain ⟨s_8, h⟩ := h
  refine sv_putI (pc := 19) G fw_X3_19 s_8 rfl dX3_init_19 (fun g_9 eg_9 => ?_)
  have h := h g_9 eg_9
  refine sv_aload_n (pc := 22) G dX3_init_22 0 rfl ?_
  refine sv_iconst (pc := 23) G dX3_init_23 0 ic_0 ?_
  obtain ⟨s_10, h⟩ := h
  refine sv_putI (pc := 24) G fw_X3_22 s_10 rfl dX3_init_24 (fun g_11 eg_11 => ?_)
  have h := h g_11 eg_11
  refine sv_aload_n (pc := 27) G dX3_init_27 0 rfl ?_
  refine sv_iconst (pc := 28) G dX3_init_28 0 ic_0 ?_
  obtain ⟨s_12, h⟩ := h
  refine sv_putI (pc := 29) G fw_X3_25 s_12 rfl dX3_init_29 (fun g_13 eg_13 => ?_)
  have h := h g_13 eg_13
  refine sv_aload_n (pc := 32) G dX3_init_32 0 rfl ?_
  refine sv_iconst (pc := 33) G dX3_init_33 0 ic_0 ?_
  obtain ⟨s_14, h⟩ := h
  refine sv_putI (pc := 34) G fw_X3_28 s_14 rfl dX3_init_34 (fun g_15 eg_15 => ?_)
  have h := h g_15 eg_15
  refine sv_aload_n (pc := 37) G dX3_init_37 0 rfl ?_
  refine sv_iconst (pc := 38) G dX3_init_38 0 ic_0 ?_
  obtain ⟨s_16, h⟩ := h
  refine sv_putI (pc := 39) G fw_X3_31 s_16 rfl dX3_init_39 (fun g_17 eg_17 => ?_)
  have h := h g_17 eg_17
  refine sv_aload_n (pc := 42) G dX3_init_42 0 rfl ?_
  refine sv_iconst (pc := 43) G dX3_init_43 0 ic_0 ?_
  obtain ⟨s_18, h⟩ := h
  refine sv_putI (pc := 44) G fw_X3_34 s_18 rfl dX3_init_44 (fun g_19 eg_19 => ?_)
  have h := h g_19 eg_19
  refine sv_aload_n (pc := 47) G dX3_init_47 0 rfl ?_
  refine sv_bipush (pc := 48) G dX3_init_48 96 bp_96 ?_
  refine sv_newa (cs := 1) (sl := 96) (t := 10) (atype := .int) (pc := 50) G RR 0 (by decide) (by decide) (fun _ => rfl) (fun _ _ h => h) rfl (by decide) wd_aint 96 (by decide) (by decide) ⟨(Nat.le_of_ble_eq_true rfl), (Nat.le_of_ble_eq_true rfl)⟩ dX3_init_50 (fun F_20 g_21 a_22 eF_20 eg_21 ea_22 => ?_)
  have h := h F_20 g_21 a_22 eF_20 eg_21 ea_22
  obtain ⟨s_23, h⟩ := h
  refine sv_putRF (pc := 52) G fw_X3_37 NM (by intro C T h; cases h; rfl) s_23 rfl dX3_init_52 (fun F_24 eF_24 => ?_)
  have h := h F_24 eF_24
  refine sv_aload_n (pc := 55) G dX3_init_55 0 rfl ?_
  refine sv_iconst (pc := 56) G dX3_init_56 0 ic_0 ?_
  obtain ⟨s_25, h⟩ := h
  refine sv_putI (pc := 57) G fw_X3_40 s_25 rfl dX3_init_57 (fun g_26 eg_26 => ?_)
  have h := h g_26 eg_26
  exact sv_vreturn (cs := 2) (sl := 192) (pc := 60) G T ⟨(Nat.le_of_ble_eq_true rfl), (Nat.le_of_ble_eq_true rfl)⟩ dX3_init_60 ⟨rfl, h⟩
def wp_J7_copyOf_59c91 (F : sv_Fr) (a0 : Nat) (v1 : Int32) (g : sv_Mg) (Q : Nat → sv_Fr → sv_Mg → Prop) : Prop := F.1[a0]? = some (10, sv_ln F a0) ∧ ((v1 = (nI (sv_ln F a0)) → False) ∧ (¬ v1 = (nI (sv_ln F a0)) → ∃ N_5, v1 = nI N_5 ∧ N_5 ≤ 96 ∧ ∀ F_2 g_3 a_4, F_2 = sv_nw F (10, N_5) → g_3 = sv_nz F g → a_4 = F.1.length → sv_Lay F_2 ∧ F_2.1[a0]? = some (10, (sv_ln F a0)) ∧ ∃ k_9, (if v1 < (nI (sv_ln F a0)) then v1 else (nI (sv_ln F a0))) = nI k_9 ∧ k_9 ≤ 96 ∧ F_2.1[a0]? = some (10, (sv_ln F a0)) ∧ F_2.1[a_4]? = some (10, N_5) ∧ 0 + k_9 ≤ (sv_ln F a0) ∧ 0 + k_9 ≤ N_5 ∧ ∀ g_8, g_8 = sv_sa g_3 a_4 (va_cpy (g_3 a0) (g_3 a_4) 0 0 k_9) → Q a_4 F_2 g_8))
set_option maxRecDepth 100000 in
set_option maxHeartbeats 4000000 in
theorem c_J7_copyOf_59c91 {b : Nat} {xt : sv_Xt} {F : sv_Fr} {a0 : Nat} {v1 : Int32} {g : sv_Mg} {Q : Nat → sv_Fr → sv_Mg → Prop} (hL : sv_Lay F) (h : wp_J7_copyOf_59c91 F a0 v1 g Q) : sv_Cal yJ7_copyOf_59c91 cJ7_copyOf_59c91 3 (some (.array .int)) 1 100 1 96 b xt [.ref (b + a0), .int v1] F g (sv_qA b Q) := by
  refine sv_intro mw_J7_copyOf_59c91 [(0, .ref (b + a0)), (1, .int v1)] rfl (Nat.le_of_ble_eq_true rfl) (fun x G RR T NM => ?_)
  have G : sv_G x b xt RJ7 cJ7_copyOf_59c91 3 := G
  have NM : sv_NM x "copyOf" := NM
  unfold wp_J7_copyOf_59c91 at h
  obtain ⟨ha0, h⟩ := h
  refine sv_iload_n (pc := 0) G dJ7_copyOf_59c91_0 1 rfl ?_
  refine sv_aload_n (pc := 1) G dJ7_copyOf_59c91_1 0 rfl ?_
  refine sv_alen (pc := 2) G ha0 dJ7_copyOf_59c91_2 ?_
  refine sv_ic_ne (pc := 3) G 14 (by decide) dJ7_copyOf_59c91_3 (fun c_1 => ?_) (fun c_1 => ?_)
  · have h := h.2 c_1
    refine sv_iload_n (pc := 14) G dJ7_copyOf_59c91_14 1 rfl ?_
    obtain ⟨N_5, eN_5, lN_5, h⟩ := h
    refine sv_newa (cs := 0) (sl := 0) (t := 10) (atype := .int) (pc := 15) G RR 0 (by decide) (by decide) (fun _ => rfl) (fun _ _ h => h) rfl (by decide) wd_aint N_5 eN_5 (Nat.le_trans lN_5 (by decide)) ⟨(Nat.le_of_ble_eq_true rfl), by omega⟩ dJ7_copyOf_59c91_15 (fun F_2 g_3 a_4 eF_2 eg_3 ea_4 => ?_)
    have h := h F_2 g_3 a_4 eF_2 eg_3 ea_4
    refine sv_widen (cs' := 1) (sl' := 96) (Nat.le_of_ble_eq_true rfl) (by omega) ?_
    obtain ⟨s_6, h⟩ := h
    refine sv_astore_n (pc := 17) G dJ7_copyOf_59c91_17 [(2, .ref (b + a_4)), (0, .ref (b + a0)), (1, .int v1)] (by decide) rfl ?_
    refine sv_aload_n (pc := 18) G dJ7_copyOf_59c91_18 1 rfl ?_
    refine sv_iconst (pc := 19) G dJ7_copyOf_59c91_19 0 ic_0 ?_
    refine sv_aload_n (pc := 20) G dJ7_copyOf_59c91_20 0 rfl ?_
    refine sv_iconst (pc := 21) G dJ7_copyOf_59c91_21 0 ic_0 ?_
    refine sv_aload_n (pc := 22) G dJ7_copyOf_59c91_22 1 rfl ?_
    obtain ⟨s_7, h⟩ := h
    refine sv_alen (pc := 23) G s_7 dJ7_copyOf_59c91_23 ?_
    refine sv_iload_n (pc := 24) G dJ7_copyOf_59c91_24 2 rfl ?_
    refine sv_min (cs := 1) (sl := 96) (pc := 25) G RR lk_J7_304 wd_min1 wd_math wd_min2 (Nat.le_of_ble_eq_true rfl) (Nat.le_of_ble_eq_true rfl) (Nat.le_of_ble_eq_true rfl) ⟨(Nat.le_of_ble_eq_true rfl), (Nat.le_of_ble_eq_true rfl)⟩ dJ7_copyOf_59c91_25 ?_
    obtain ⟨k_9, ek_9, lk_9, h⟩ := h
    obtain ⟨s_10, h⟩ := h
    obtain ⟨s_11, h⟩ := h
    obtain ⟨s_12, h⟩ := h
    obtain ⟨s_13, h⟩ := h
    refine sv_copyK (pc := 28) G RR lk_J7_150 wd_ac1 wd_ac2 wd_sys s_10 s_11 (by decide) (by decide) (by rw [ek_9]; exact nI_pos (by omega)) tn_0 tn_0 (by rw [ek_9]; exact nI_clamp (by omega)) s_12 s_13 (Nat.le_of_ble_eq_true rfl) (Nat.le_of_ble_eq_true rfl) dJ7_copyOf_59c91_28 (fun g_8 eg_8 => ?_)
    have h := h g_8 eg_8
    refine sv_aload_n (pc := 31) G dJ7_copyOf_59c91_31 0 rfl ?_
    exact sv_areturn (cs := 1) (sl := 96) (pc := 32) G T rfl ⟨(Nat.le_of_ble_eq_true rfl), (Nat.le_of_ble_eq_true rfl)⟩ dJ7_copyOf_59c91_32 ⟨_, rfl, h⟩
  · have h := h.1 c_1
    exact h.elim
def wp_X3_law (F : sv_Fr) (g : sv_Mg) (Q : Nat → sv_Fr → sv_Mg → Prop) : Prop := ∀ F_1 g_2 a_3, F_1 = sv_nw F (1, 3) → g_2 = sv_nz F g → a_3 = F.1.length → sv_Lay F_1 ∧ wp_J7_copyOf_59c91 F_1 6 (g_2 4 9) g_2 (fun a_7 F_6 g_5 => sv_Lay F_6 ∧ wp_X1_init F_6 a_3 a_7 (g_2 4 6) (g_2 4 7) g_5 (fun F_10 g_9 => sv_Lay F_10 ∧ Q a_3 F_10 g_9))
set_option maxRecDepth 100000 in
set_option maxHeartbeats 4000000 in
theorem c_X3_law {b : Nat} {xt : sv_Xt} {F : sv_Fr} {g : sv_Mg} {Q : Nat → sv_Fr → sv_Mg → Prop} (hL : sv_Lay F) (h : wp_X3_law F g Q) : sv_Cal yX3_law cX3_law 1 (some (.object "SmokeVotes$Law")) 2 122 2 99 b xt [.ref (b + 4)] F g (sv_qA b Q) := by
  refine sv_intro mw_X3_law [(0, .ref (b + 4))] rfl (Nat.le_of_ble_eq_true rfl) (fun x G RR T NM => ?_)
  have G : sv_G x b xt RX3 cX3_law 1 := G
  have NM : sv_NM x "law" := NM
  unfold wp_X3_law at h
  refine sv_new (cs := 0) (sl := 0) (pc := 0) G RR cw_X3_54 ⟨(Nat.le_of_ble_eq_true rfl), (Nat.le_of_ble_eq_true rfl)⟩ dX3_law_0 (fun F_1 g_2 a_3 eF_1 eg_2 ea_3 => ?_)
  have h := h F_1 g_2 a_3 eF_1 eg_2 ea_3
  obtain ⟨s_4, h⟩ := h
  refine sv_dup (pc := 3) G dX3_law_3 rfl ?_
  refine sv_aload_n (pc := 4) G dX3_law_4 0 rfl ?_
  refine sv_getI (pc := 5) G fw_X3_31 (s_4.sh rfl) rfl dX3_law_5 ?_
  refine sv_aload_n (pc := 8) G dX3_law_8 0 rfl ?_
  refine sv_getI (pc := 9) G fw_X3_34 (s_4.sh rfl) rfl dX3_law_9 ?_
  refine sv_aload_n (pc := 12) G dX3_law_12 0 rfl ?_
  refine sv_getR (pc := 13) G fw_X3_37 (s_4.sh rfl) rfl (s_4.rf 12 rfl) dX3_law_13 ?_
  refine sv_aload_n (pc := 16) G dX3_law_16 0 rfl ?_
  refine sv_getI (pc := 17) G fw_X3_40 (s_4.sh rfl) rfl dX3_law_17 ?_
  refine sv_callS (cs := 1) (sl := 3) (st := [.int (g_2 4 7), .int (g_2 4 6), .ref (b + a_3), .ref (b + a_3)]) (As := [.ref (b + 6), .int (g_2 4 9)]) (pc := 20) G RR (c_J7_copyOf_59c91 s_4 h) mw_J7_copyOf_59c91 lk_X3_56 rfl ⟨(Nat.le_of_ble_eq_true rfl), (Nat.le_of_ble_eq_true rfl)⟩ ⟨(Nat.le_of_ble_eq_true rfl), (Nat.le_of_ble_eq_true rfl)⟩ (Nat.le_of_ble_eq_true rfl) rfl dX3_law_20 (sv_kA (fun a_7 F_6 g_5 h => ?_))
  obtain ⟨s_8, h⟩ := h
  refine sv_callI (cs := 2) (sl := 99) (st := [.ref (b + a_3)]) (As := [.int (g_2 4 6), .int (g_2 4 7), .ref (b + a_7)]) (a := a_3) (pc := 23) G RR (c_X1_init h) mw_X1_init lk_X3_62 rfl ⟨(Nat.le_of_ble_eq_true rfl), (Nat.le_of_ble_eq_true rfl)⟩ ⟨(Nat.le_of_ble_eq_true rfl), (Nat.le_of_ble_eq_true rfl)⟩ (Nat.le_of_ble_eq_true rfl) rfl dX3_law_23 (sv_kN (fun F_10 g_9 h => ?_))
  obtain ⟨s_11, h⟩ := h
  exact sv_areturn (cs := 2) (sl := 99) (pc := 26) G T rfl ⟨(Nat.le_of_ble_eq_true rfl), (Nat.le_of_ble_eq_true rfl)⟩ dX3_law_26 ⟨_, rfl, h⟩
def wp_X4_init (F : sv_Fr) (a : Nat) (g : sv_Mg) (Q : sv_Fr → sv_Mg → Prop) : Prop := ∀ F_1 g_2 a_3, F_1 = sv_nw F (10, 24) → g_2 = sv_nz F g → a_3 = F.1.length → F_1.1[a]? = some (4, 3) ∧ ∀ F_5, F_5 = (F_1.1, sv_sr F_1.2 a 0 (some a_3)) → F_5.1[a]? = some (4, 3) ∧ ∀ g_7, g_7 = sv_st g_2 a 1 (-1) → F_5.1[a]? = some (4, 3) ∧ ∀ g_9, g_9 = sv_st g_7 a 2 0 → Q F_5 g_9
set_option maxRecDepth 100000 in
set_option maxHeartbeats 4000000 in
theorem c_X4_init {b : Nat} {xt : sv_Xt} {F : sv_Fr} {a : Nat} {g : sv_Mg} {Q : sv_Fr → sv_Mg → Prop} (h : wp_X4_init F a g Q) : sv_Cal yX4_init cX4_init 1 none 1 20 1 24 b xt [.ref (b + a)] F g (sv_qN Q) := by
  refine sv_intro mw_X4_init [(0, .ref (b + a))] rfl (Nat.le_of_ble_eq_true rfl) (fun x G RR T NM => ?_)
  have G : sv_G x b xt RX4 cX4_init 1 := G
  have NM : sv_NM x "<init>" := NM
  unfold wp_X4_init at h
  refine sv_aload_n (pc := 0) G dX4_init_0 0 rfl ?_
  refine sv_objInit (pc := 1) G RR lk_X4_3 wd_oi1 wd_oi2 (Nat.le_of_ble_eq_true rfl) (Nat.le_of_ble_eq_true rfl) (Nat.le_of_ble_eq_true rfl) dX4_init_1 ?_
  refine sv_aload_n (pc := 4) G dX4_init_4 0 rfl ?_
  refine sv_bipush (pc := 5) G dX4_init_5 24 bp_24 ?_
  refine sv_newa (cs := 0) (sl := 0) (t := 10) (atype := .int) (pc := 7) G RR 0 (by decide) (by decide) (fun _ => rfl) (fun _ _ h => h) rfl (by decide) wd_aint 24 (by decide) (by decide) ⟨(Nat.le_of_ble_eq_true rfl), (Nat.le_of_ble_eq_true rfl)⟩ dX4_init_7 (fun F_1 g_2 a_3 eF_1 eg_2 ea_3 => ?_)
  have h := h F_1 g_2 a_3 eF_1 eg_2 ea_3
  obtain ⟨s_4, h⟩ := h
  refine sv_putRF (pc := 9) G fw_X4_9 NM (by intro C T h; cases h; rfl) s_4 rfl dX4_init_9 (fun F_5 eF_5 => ?_)
  have h := h F_5 eF_5
  refine sv_aload_n (pc := 12) G dX4_init_12 0 rfl ?_
  refine sv_iconst (pc := 13) G dX4_init_13 (-1) ic_m1 ?_
  obtain ⟨s_6, h⟩ := h
  refine sv_putI (pc := 14) G fw_X4_15 s_6 rfl dX4_init_14 (fun g_7 eg_7 => ?_)
  have h := h g_7 eg_7
  refine sv_aload_n (pc := 17) G dX4_init_17 0 rfl ?_
  refine sv_iconst (pc := 18) G dX4_init_18 0 ic_0 ?_
  obtain ⟨s_8, h⟩ := h
  refine sv_putI (pc := 19) G fw_X4_19 s_8 rfl dX4_init_19 (fun g_9 eg_9 => ?_)
  have h := h g_9 eg_9
  exact sv_vreturn (cs := 1) (sl := 24) (pc := 22) G T ⟨(Nat.le_of_ble_eq_true rfl), (Nat.le_of_ble_eq_true rfl)⟩ dX4_init_22 ⟨rfl, h⟩
def wp_X5_init (F : sv_Fr) (a : Nat) (g : sv_Mg) (Q : sv_Fr → sv_Mg → Prop) : Prop := ∀ F_1 g_2 a_3, F_1 = sv_nw F (4, 3) → g_2 = sv_nz F g → a_3 = F.1.length → wp_X4_init F_1 a_3 g_2 (fun F_5 g_4 => F_5.1[a]? = some (5, 5) ∧ ∀ F_7, F_7 = (F_5.1, sv_sr F_5.2 a 0 (some a_3)) → F_7.1[a]? = some (5, 5) ∧ ∀ g_9, g_9 = sv_st g_4 a 1 0 → F_7.1[a]? = some (5, 5) ∧ ∀ g_11, g_11 = sv_st g_9 a 2 0 → F_7.1[a]? = some (5, 5) ∧ ∀ g_13, g_13 = sv_st g_11 a 3 0 → F_7.1[a]? = some (5, 5) ∧ ∀ g_15, g_15 = sv_st g_13 a 4 0 → Q F_7 g_15)
set_option maxRecDepth 100000 in
set_option maxHeartbeats 4000000 in
theorem c_X5_init {b : Nat} {xt : sv_Xt} {F : sv_Fr} {a : Nat} {g : sv_Mg} {Q : sv_Fr → sv_Mg → Prop} (h : wp_X5_init F a g Q) : sv_Cal yX5_init cX5_init 1 none 2 40 2 27 b xt [.ref (b + a)] F g (sv_qN Q) := by
  refine sv_intro mw_X5_init [(0, .ref (b + a))] rfl (Nat.le_of_ble_eq_true rfl) (fun x G RR T NM => ?_)
  have G : sv_G x b xt RX5 cX5_init 1 := G
  have NM : sv_NM x "<init>" := NM
  unfold wp_X5_init at h
  refine sv_aload_n (pc := 0) G dX5_init_0 0 rfl ?_
  refine sv_objInit (pc := 1) G RR lk_X5_3 wd_oi1 wd_oi2 (Nat.le_of_ble_eq_true rfl) (Nat.le_of_ble_eq_true rfl) (Nat.le_of_ble_eq_true rfl) dX5_init_1 ?_
  refine sv_aload_n (pc := 4) G dX5_init_4 0 rfl ?_
  refine sv_new (cs := 0) (sl := 0) (pc := 5) G RR cw_X5_9 ⟨(Nat.le_of_ble_eq_true rfl), (Nat.le_of_ble_eq_true rfl)⟩ dX5_init_5 (fun F_1 g_2 a_3 eF_1 eg_2 ea_3 => ?_)
  have h := h F_1 g_2 a_3 eF_1 eg_2 ea_3
  refine sv_dup (pc := 8) G dX5_init_8 rfl ?_
  refine sv_callIN (cs := 1) (sl := 3) (st := [.ref (b + a_3), .ref (b + a)]) (As := []) (a := a_3) (pc := 9) G RR (c_X4_init h) mw_X4_init lk_X5_11 rfl ⟨(Nat.le_of_ble_eq_true rfl), (Nat.le_of_ble_eq_true rfl)⟩ ⟨(Nat.le_of_ble_eq_true rfl), (Nat.le_of_ble_eq_true rfl)⟩ (Nat.le_of_ble_eq_true rfl) rfl dX5_init_9 (sv_kN (fun F_5 g_4 h => ?_))
  obtain ⟨s_6, h⟩ := h
  refine sv_putRF (pc := 12) G fw_X5_12 NM (by intro C T h; cases h; rfl) s_6 rfl dX5_init_12 (fun F_7 eF_7 => ?_)
  have h := h F_7 eF_7
  refine sv_aload_n (pc := 15) G dX5_init_15 0 rfl ?_
  refine sv_iconst (pc := 16) G dX5_init_16 0 ic_0 ?_
  obtain ⟨s_8, h⟩ := h
  refine sv_putI (pc := 17) G fw_X5_18 s_8 rfl dX5_init_17 (fun g_9 eg_9 => ?_)
  have h := h g_9 eg_9
  refine sv_aload_n (pc := 20) G dX5_init_20 0 rfl ?_
  refine sv_iconst (pc := 21) G dX5_init_21 0 ic_0 ?_
  obtain ⟨s_10, h⟩ := h
  refine sv_putI (pc := 22) G fw_X5_22 s_10 rfl dX5_init_22 (fun g_11 eg_11 => ?_)
  have h := h g_11 eg_11
  refine sv_aload_n (pc := 25) G dX5_init_25 0 rfl ?_
  refine sv_iconst (pc := 26) G dX5_init_26 0 ic_0 ?_
  obtain ⟨s_12, h⟩ := h
  refine sv_putI (pc := 27) G fw_X5_25 s_12 rfl dX5_init_27 (fun g_13 eg_13 => ?_)
  have h := h g_13 eg_13
  refine sv_aload_n (pc := 30) G dX5_init_30 0 rfl ?_
  refine sv_iconst (pc := 31) G dX5_init_31 0 ic_0 ?_
  obtain ⟨s_14, h⟩ := h
  refine sv_putI (pc := 32) G fw_X5_28 s_14 rfl dX5_init_32 (fun g_15 eg_15 => ?_)
  have h := h g_15 eg_15
  exact sv_vreturn (cs := 2) (sl := 27) (pc := 35) G T ⟨(Nat.le_of_ble_eq_true rfl), (Nat.le_of_ble_eq_true rfl)⟩ dX5_init_35 ⟨rfl, h⟩
def wp_X6_init (F : sv_Fr) (a : Nat) (g : sv_Mg) (Q : sv_Fr → sv_Mg → Prop) : Prop := ∀ F_1 g_2 a_3, F_1 = sv_nw F (2, 2) → g_2 = sv_nz F g → a_3 = F.1.length → wp_X2_init F_1 a_3 g_2 (fun F_5 g_4 => F_5.1[a]? = some (6, 11) ∧ ∀ F_7, F_7 = (F_5.1, sv_sr F_5.2 a 0 (some a_3)) → ∀ F_8 g_9 a_10, F_8 = sv_nw F_7 (3, 10) → g_9 = sv_nz F_7 g_4 → a_10 = F_7.1.length → wp_X3_init F_8 a_10 g_9 (fun F_12 g_11 => F_12.1[a]? = some (6, 11) ∧ ∀ F_14, F_14 = (F_12.1, sv_sr F_12.2 a 1 (some a_10)) → ∀ F_15 g_16 a_17, F_15 = sv_nw F_14 (0, 19) → g_16 = sv_nz F_14 g_11 → a_17 = F_14.1.length → F_15.1[a]? = some (6, 11) ∧ F_15.2 a 0 = some a_3 ∧ wp_X0_init F_15 a_17 a_3 g_16 (fun F_21 g_20 => F_21.1[a]? = some (6, 11) ∧ ∀ F_23, F_23 = (F_21.1, sv_sr F_21.2 a 2 (some a_17)) → ∀ F_24 g_25 a_26, F_24 = sv_nw F_23 (0, 19) → g_25 = sv_nz F_23 g_20 → a_26 = F_23.1.length → F_24.1[a]? = some (6, 11) ∧ F_24.2 a 0 = some a_3 ∧ wp_X0_init F_24 a_26 a_3 g_25 (fun F_30 g_29 => F_30.1[a]? = some (6, 11) ∧ ∀ F_32, F_32 = (F_30.1, sv_sr F_30.2 a 3 (some a_26)) → ∀ F_33 g_34 a_35, F_33 = sv_nw F_32 (0, 19) → g_34 = sv_nz F_32 g_29 → a_35 = F_32.1.length → F_33.1[a]? = some (6, 11) ∧ F_33.2 a 0 = some a_3 ∧ wp_X0_init F_33 a_35 a_3 g_34 (fun F_39 g_38 => F_39.1[a]? = some (6, 11) ∧ ∀ F_41, F_41 = (F_39.1, sv_sr F_39.2 a 4 (some a_35)) → ∀ F_42 g_43 a_44, F_42 = sv_nw F_41 (21, 4) → g_43 = sv_nz F_41 g_38 → a_44 = F_41.1.length → F_42.1[a]? = some (6, 11) ∧ ∀ F_46, F_46 = (F_42.1, sv_sr F_42.2 a 5 (some a_44)) → F_46.1[a]? = some (6, 11) ∧ F_46.2 a 5 = some a_44 ∧ ∀ F_49 g_50 a_51, F_49 = sv_nw F_46 (4, 3) → g_50 = sv_nz F_46 g_43 → a_51 = F_46.1.length → wp_X4_init F_49 a_51 g_50 (fun F_53 g_52 => F_53.1[a_44]? = some (21, 4) ∧ F_53.1[a_51]? = some (4, 3) ∧ ∀ F_56, F_56 = (F_53.1, sv_sr F_53.2 a_44 (0 : Int32).toNatClampNeg (some a_51)) → F_56.1[a]? = some (6, 11) ∧ F_56.2 a 5 = some a_44 ∧ ∀ F_59 g_60 a_61, F_59 = sv_nw F_56 (4, 3) → g_60 = sv_nz F_56 g_52 → a_61 = F_56.1.length → wp_X4_init F_59 a_61 g_60 (fun F_63 g_62 => F_63.1[a_44]? = some (21, 4) ∧ F_63.1[a_61]? = some (4, 3) ∧ ∀ F_66, F_66 = (F_63.1, sv_sr F_63.2 a_44 (1 : Int32).toNatClampNeg (some a_61)) → F_66.1[a]? = some (6, 11) ∧ F_66.2 a 5 = some a_44 ∧ ∀ F_69 g_70 a_71, F_69 = sv_nw F_66 (4, 3) → g_70 = sv_nz F_66 g_62 → a_71 = F_66.1.length → wp_X4_init F_69 a_71 g_70 (fun F_73 g_72 => F_73.1[a_44]? = some (21, 4) ∧ F_73.1[a_71]? = some (4, 3) ∧ ∀ F_76, F_76 = (F_73.1, sv_sr F_73.2 a_44 (2 : Int32).toNatClampNeg (some a_71)) → F_76.1[a]? = some (6, 11) ∧ F_76.2 a 5 = some a_44 ∧ ∀ F_79 g_80 a_81, F_79 = sv_nw F_76 (4, 3) → g_80 = sv_nz F_76 g_72 → a_81 = F_76.1.length → wp_X4_init F_79 a_81 g_80 (fun F_83 g_82 => F_83.1[a_44]? = some (21, 4) ∧ F_83.1[a_81]? = some (4, 3) ∧ ∀ F_86, F_86 = (F_83.1, sv_sr F_83.2 a_44 (3 : Int32).toNatClampNeg (some a_81)) → ∀ F_87 g_88 a_89, F_87 = sv_nw F_86 (22, 5) → g_88 = sv_nz F_86 g_82 → a_89 = F_86.1.length → F_87.1[a]? = some (6, 11) ∧ ∀ F_91, F_91 = (F_87.1, sv_sr F_87.2 a 6 (some a_89)) → F_91.1[a]? = some (6, 11) ∧ F_91.2 a 6 = some a_89 ∧ ∀ F_94 g_95 a_96, F_94 = sv_nw F_91 (5, 5) → g_95 = sv_nz F_91 g_88 → a_96 = F_91.1.length → wp_X5_init F_94 a_96 g_95 (fun F_98 g_97 => F_98.1[a_89]? = some (22, 5) ∧ F_98.1[a_96]? = some (5, 5) ∧ ∀ F_101, F_101 = (F_98.1, sv_sr F_98.2 a_89 (0 : Int32).toNatClampNeg (some a_96)) → F_101.1[a]? = some (6, 11) ∧ F_101.2 a 6 = some a_89 ∧ ∀ F_104 g_105 a_106, F_104 = sv_nw F_101 (5, 5) → g_105 = sv_nz F_101 g_97 → a_106 = F_101.1.length → wp_X5_init F_104 a_106 g_105 (fun F_108 g_107 => F_108.1[a_89]? = some (22, 5) ∧ F_108.1[a_106]? = some (5, 5) ∧ ∀ F_111, F_111 = (F_108.1, sv_sr F_108.2 a_89 (1 : Int32).toNatClampNeg (some a_106)) → F_111.1[a]? = some (6, 11) ∧ F_111.2 a 6 = some a_89 ∧ ∀ F_114 g_115 a_116, F_114 = sv_nw F_111 (5, 5) → g_115 = sv_nz F_111 g_107 → a_116 = F_111.1.length → wp_X5_init F_114 a_116 g_115 (fun F_118 g_117 => F_118.1[a_89]? = some (22, 5) ∧ F_118.1[a_116]? = some (5, 5) ∧ ∀ F_121, F_121 = (F_118.1, sv_sr F_118.2 a_89 (2 : Int32).toNatClampNeg (some a_116)) → F_121.1[a]? = some (6, 11) ∧ F_121.2 a 6 = some a_89 ∧ ∀ F_124 g_125 a_126, F_124 = sv_nw F_121 (5, 5) → g_125 = sv_nz F_121 g_117 → a_126 = F_121.1.length → wp_X5_init F_124 a_126 g_125 (fun F_128 g_127 => F_128.1[a_89]? = some (22, 5) ∧ F_128.1[a_126]? = some (5, 5) ∧ ∀ F_131, F_131 = (F_128.1, sv_sr F_128.2 a_89 (3 : Int32).toNatClampNeg (some a_126)) → F_131.1[a]? = some (6, 11) ∧ F_131.2 a 6 = some a_89 ∧ ∀ F_134 g_135 a_136, F_134 = sv_nw F_131 (5, 5) → g_135 = sv_nz F_131 g_127 → a_136 = F_131.1.length → wp_X5_init F_134 a_136 g_135 (fun F_138 g_137 => F_138.1[a_89]? = some (22, 5) ∧ F_138.1[a_136]? = some (5, 5) ∧ ∀ F_141, F_141 = (F_138.1, sv_sr F_138.2 a_89 (4 : Int32).toNatClampNeg (some a_136)) → ∀ F_142 g_143 a_144, F_142 = sv_nw F_141 (10, 60) → g_143 = sv_nz F_141 g_137 → a_144 = F_141.1.length → F_142.1[a]? = some (6, 11) ∧ ∀ F_146, F_146 = (F_142.1, sv_sr F_142.2 a 7 (some a_144)) → ∀ F_147 g_148 a_149, F_147 = sv_nw F_146 (10, 13) → g_148 = sv_nz F_146 g_143 → a_149 = F_146.1.length → F_147.1[a]? = some (6, 11) ∧ ∀ F_151, F_151 = (F_147.1, sv_sr F_147.2 a 8 (some a_149)) → F_151.1[a]? = some (6, 11) ∧ ∀ g_153, g_153 = sv_st g_148 a 9 0 → F_151.1[a]? = some (6, 11) ∧ ∀ g_155, g_155 = sv_st g_153 a 10 0 → Q F_151 g_155))))))))))))))
set_option maxRecDepth 100000 in
set_option maxHeartbeats 4000000 in
theorem c_X6_init {b : Nat} {xt : sv_Xt} {F : sv_Fr} {a : Nat} {g : sv_Mg} {Q : sv_Fr → sv_Mg → Prop} (h : wp_X6_init F a g Q) : sv_Cal yX6_init cX6_init 2 none 3 60 57 931 b xt [.ref (b + a)] F g (sv_qN Q) := by
  refine sv_intro mw_X6_init [(0, .ref (b + a))] rfl (Nat.le_of_ble_eq_true rfl) (fun x G RR T NM => ?_)
  have G : sv_G x b xt RX6 cX6_init 2 := G
  have NM : sv_NM x "<init>" := NM
  unfold wp_X6_init at h
  refine sv_aload_n (pc := 0) G dX6_init_0 0 rfl ?_
  refine sv_objInit (pc := 1) G RR lk_X6_1 wd_oi1 wd_oi2 (Nat.le_of_ble_eq_true rfl) (Nat.le_of_ble_eq_true rfl) (Nat.le_of_ble_eq_true rfl) dX6_init_1 ?_
  refine sv_aload_n (pc := 4) G dX6_init_4 0 rfl ?_
  refine sv_new (cs := 0) (sl := 0) (pc := 5) G RR cw_X6_7 ⟨(Nat.le_of_ble_eq_true rfl), (Nat.le_of_ble_eq_true rfl)⟩ dX6_init_5 (fun F_1 g_2 a_3 eF_1 eg_2 ea_3 => ?_)
  have h := h F_1 g_2 a_3 eF_1 eg_2 ea_3
  refine sv_dup (pc := 8) G dX6_init_8 rfl ?_
  refine sv_callIN (cs := 1) (sl := 2) (st := [.ref (b + a_3), .ref (b + a)]) (As := []) (a := a_3) (pc := 9) G RR (c_X2_init h) mw_X2_init lk_X6_9 rfl ⟨(Nat.le_of_ble_eq_true rfl), (Nat.le_of_ble_eq_true rfl)⟩ ⟨(Nat.le_of_ble_eq_true rfl), (Nat.le_of_ble_eq_true rfl)⟩ (Nat.le_of_ble_eq_true rfl) rfl dX6_init_9 (sv_kN (fun F_5 g_4 h => ?_))
  obtain ⟨s_6, h⟩ := h
  refine sv_putRF (pc := 12) G fw_X6_10 NM (by intro C T h; cases h; rfl) s_6 rfl dX6_init_12 (fun F_7 eF_7 => ?_)
  have h := h F_7 eF_7
  refine sv_aload_n (pc := 15) G dX6_init_15 0 rfl ?_
  refine sv_new (cs := 3) (sl := 112) (pc := 16) G RR cw_X6_16 ⟨(Nat.le_of_ble_eq_true rfl), (Nat.le_of_ble_eq_true rfl)⟩ dX6_init_16 (fun F_8 g_9 a_10 eF_8 eg_9 ea_10 => ?_)
  have h := h F_8 g_9 a_10 eF_8 eg_9 ea_10
  refine sv_dup (pc := 19) G dX6_init_19 rfl ?_
  refine sv_callIN (cs := 4) (sl := 122) (st := [.ref (b + a_10), .ref (b + a)]) (As := []) (a := a_10) (pc := 20) G RR (c_X3_init h) mw_X3_init lk_X6_18 rfl ⟨(Nat.le_of_ble_eq_true rfl), (Nat.le_of_ble_eq_true rfl)⟩ ⟨(Nat.le_of_ble_eq_true rfl), (Nat.le_of_ble_eq_true rfl)⟩ (Nat.le_of_ble_eq_true rfl) rfl dX6_init_20 (sv_kN (fun F_12 g_11 h => ?_))
  obtain ⟨s_13, h⟩ := h
  refine sv_putRF (pc := 23) G fw_X6_19 NM (by intro C T h; cases h; rfl) s_13 rfl dX6_init_23 (fun F_14 eF_14 => ?_)
  have h := h F_14 eF_14
  refine sv_aload_n (pc := 26) G dX6_init_26 0 rfl ?_
  refine sv_new (cs := 6) (sl := 314) (pc := 27) G RR cw_X6_23 ⟨(Nat.le_of_ble_eq_true rfl), (Nat.le_of_ble_eq_true rfl)⟩ dX6_init_27 (fun F_15 g_16 a_17 eF_15 eg_16 ea_17 => ?_)
  have h := h F_15 g_16 a_17 eF_15 eg_16 ea_17
  refine sv_dup (pc := 30) G dX6_init_30 rfl ?_
  refine sv_aload_n (pc := 31) G dX6_init_31 0 rfl ?_
  obtain ⟨s_18, h⟩ := h
  obtain ⟨s_19, h⟩ := h
  refine sv_getR (pc := 32) G fw_X6_10 s_18 rfl s_19 dX6_init_32 ?_
  refine sv_callI (cs := 7) (sl := 333) (st := [.ref (b + a_17), .ref (b + a)]) (As := [.ref (b + a_3)]) (a := a_17) (pc := 35) G RR (c_X0_init h) mw_X0_init lk_X6_25 rfl ⟨(Nat.le_of_ble_eq_true rfl), (Nat.le_of_ble_eq_true rfl)⟩ ⟨(Nat.le_of_ble_eq_true rfl), (Nat.le_of_ble_eq_true rfl)⟩ (Nat.le_of_ble_eq_true rfl) rfl dX6_init_35 (sv_kN (fun F_21 g_20 h => ?_))
  obtain ⟨s_22, h⟩ := h
  refine sv_putRF (pc := 38) G fw_X6_28 NM (by intro C T h; cases h; rfl) s_22 rfl dX6_init_38 (fun F_23 eF_23 => ?_)
  have h := h F_23 eF_23
  refine sv_aload_n (pc := 41) G dX6_init_41 0 rfl ?_
  refine sv_new (cs := 14) (sl := 403) (pc := 42) G RR cw_X6_23 ⟨(Nat.le_of_ble_eq_true rfl), (Nat.le_of_ble_eq_true rfl)⟩ dX6_init_42 (fun F_24 g_25 a_26 eF_24 eg_25 ea_26 => ?_)
  have h := h F_24 g_25 a_26 eF_24 eg_25 ea_26
  refine sv_dup (pc := 45) G dX6_init_45 rfl ?_
  refine sv_aload_n (pc := 46) G dX6_init_46 0 rfl ?_
  obtain ⟨s_27, h⟩ := h
  obtain ⟨s_28, h⟩ := h
  refine sv_getR (pc := 47) G fw_X6_10 s_27 rfl s_28 dX6_init_47 ?_
  refine sv_callI (cs := 15) (sl := 422) (st := [.ref (b + a_26), .ref (b + a)]) (As := [.ref (b + a_3)]) (a := a_26) (pc := 50) G RR (c_X0_init h) mw_X0_init lk_X6_25 rfl ⟨(Nat.le_of_ble_eq_true rfl), (Nat.le_of_ble_eq_true rfl)⟩ ⟨(Nat.le_of_ble_eq_true rfl), (Nat.le_of_ble_eq_true rfl)⟩ (Nat.le_of_ble_eq_true rfl) rfl dX6_init_50 (sv_kN (fun F_30 g_29 h => ?_))
  obtain ⟨s_31, h⟩ := h
  refine sv_putRF (pc := 53) G fw_X6_32 NM (by intro C T h; cases h; rfl) s_31 rfl dX6_init_53 (fun F_32 eF_32 => ?_)
  have h := h F_32 eF_32
  refine sv_aload_n (pc := 56) G dX6_init_56 0 rfl ?_
  refine sv_new (cs := 22) (sl := 492) (pc := 57) G RR cw_X6_23 ⟨(Nat.le_of_ble_eq_true rfl), (Nat.le_of_ble_eq_true rfl)⟩ dX6_init_57 (fun F_33 g_34 a_35 eF_33 eg_34 ea_35 => ?_)
  have h := h F_33 g_34 a_35 eF_33 eg_34 ea_35
  refine sv_dup (pc := 60) G dX6_init_60 rfl ?_
  refine sv_aload_n (pc := 61) G dX6_init_61 0 rfl ?_
  obtain ⟨s_36, h⟩ := h
  obtain ⟨s_37, h⟩ := h
  refine sv_getR (pc := 62) G fw_X6_10 s_36 rfl s_37 dX6_init_62 ?_
  refine sv_callI (cs := 23) (sl := 511) (st := [.ref (b + a_35), .ref (b + a)]) (As := [.ref (b + a_3)]) (a := a_35) (pc := 65) G RR (c_X0_init h) mw_X0_init lk_X6_25 rfl ⟨(Nat.le_of_ble_eq_true rfl), (Nat.le_of_ble_eq_true rfl)⟩ ⟨(Nat.le_of_ble_eq_true rfl), (Nat.le_of_ble_eq_true rfl)⟩ (Nat.le_of_ble_eq_true rfl) rfl dX6_init_65 (sv_kN (fun F_39 g_38 h => ?_))
  obtain ⟨s_40, h⟩ := h
  refine sv_putRF (pc := 68) G fw_X6_35 NM (by intro C T h; cases h; rfl) s_40 rfl dX6_init_68 (fun F_41 eF_41 => ?_)
  have h := h F_41 eF_41
  refine sv_aload_n (pc := 71) G dX6_init_71 0 rfl ?_
  refine sv_iconst (pc := 72) G dX6_init_72 4 ic_4 ?_
  refine sv_anew (cs := 30) (sl := 581) (t := 21) (pc := 73) G RR 4 (by decide) (fun _ => rfl) (fun _ h => h.2.1.2.1) cl_X6_38 4 (by decide) (by decide) ⟨(Nat.le_of_ble_eq_true rfl), (Nat.le_of_ble_eq_true rfl)⟩ dX6_init_73 (fun F_42 g_43 a_44 eF_42 eg_43 ea_44 => ?_)
  have h := h F_42 g_43 a_44 eF_42 eg_43 ea_44
  obtain ⟨s_45, h⟩ := h
  refine sv_putRF (pc := 76) G fw_X6_40 NM (by intro C T h; cases h; rfl) s_45 rfl dX6_init_76 (fun F_46 eF_46 => ?_)
  have h := h F_46 eF_46
  refine sv_iconst (pc := 79) G dX6_init_79 0 ic_0 ?_
  refine sv_istore_n (pc := 80) G dX6_init_80 [(1, .int 0), (0, .ref (b + a))] (by decide) rfl ?_
  refine sv_iload_n (pc := 81) G dX6_init_81 0 rfl ?_
  refine sv_iconst (pc := 82) G dX6_init_82 4 ic_4 ?_
  refine sv_ic_ge (pc := 83) G 105 (by decide) dX6_init_83 (fun q => absurd q (by decide)) (fun _ => ?_)
  refine sv_aload_n (pc := 86) G dX6_init_86 1 rfl ?_
  obtain ⟨s_47, h⟩ := h
  obtain ⟨s_48, h⟩ := h
  refine sv_getR (pc := 87) G fw_X6_40 s_47 rfl s_48 dX6_init_87 ?_
  refine sv_iload_n (pc := 90) G dX6_init_90 0 rfl ?_
  refine sv_new (cs := 31) (sl := 585) (pc := 91) G RR cw_X6_38 ⟨(Nat.le_of_ble_eq_true rfl), (Nat.le_of_ble_eq_true rfl)⟩ dX6_init_91 (fun F_49 g_50 a_51 eF_49 eg_50 ea_51 => ?_)
  have h := h F_49 g_50 a_51 eF_49 eg_50 ea_51
  refine sv_dup (pc := 94) G dX6_init_94 rfl ?_
  refine sv_callIN (cs := 32) (sl := 588) (st := [.ref (b + a_51), .int 0, .ref (b + a_44)]) (As := []) (a := a_51) (pc := 95) G RR (c_X4_init h) mw_X4_init lk_X6_44 rfl ⟨(Nat.le_of_ble_eq_true rfl), (Nat.le_of_ble_eq_true rfl)⟩ ⟨(Nat.le_of_ble_eq_true rfl), (Nat.le_of_ble_eq_true rfl)⟩ (Nat.le_of_ble_eq_true rfl) rfl dX6_init_95 (sv_kN (fun F_53 g_52 h => ?_))
  obtain ⟨s_54, h⟩ := h
  obtain ⟨s_55, h⟩ := h
  refine sv_aast (pc := 98) G 4 (fun _ => rfl) (by decide) s_54 vi_0_4 s_55 (by decide) rfl dX6_init_98 (fun F_56 eF_56 => ?_)
  have h := h F_56 eF_56
  refine sv_iinc (pc := 99) G dX6_init_99 0 1 [(1, .int 1), (0, .ref (b + a))] (by decide) rfl (by decide) rfl ?_
  refine sv_goto (pc := 102) G dX6_init_102 81 (by decide) ?_
  refine sv_iload_n (pc := 81) G dX6_init_81 0 rfl ?_
  refine sv_iconst (pc := 82) G dX6_init_82 4 ic_4 ?_
  refine sv_ic_ge (pc := 83) G 105 (by decide) dX6_init_83 (fun q => absurd q (by decide)) (fun _ => ?_)
  refine sv_aload_n (pc := 86) G dX6_init_86 1 rfl ?_
  obtain ⟨s_57, h⟩ := h
  obtain ⟨s_58, h⟩ := h
  refine sv_getR (pc := 87) G fw_X6_40 s_57 rfl s_58 dX6_init_87 ?_
  refine sv_iload_n (pc := 90) G dX6_init_90 0 rfl ?_
  refine sv_new (cs := 33) (sl := 612) (pc := 91) G RR cw_X6_38 ⟨(Nat.le_of_ble_eq_true rfl), (Nat.le_of_ble_eq_true rfl)⟩ dX6_init_91 (fun F_59 g_60 a_61 eF_59 eg_60 ea_61 => ?_)
  have h := h F_59 g_60 a_61 eF_59 eg_60 ea_61
  refine sv_dup (pc := 94) G dX6_init_94 rfl ?_
  refine sv_callIN (cs := 34) (sl := 615) (st := [.ref (b + a_61), .int 1, .ref (b + a_44)]) (As := []) (a := a_61) (pc := 95) G RR (c_X4_init h) mw_X4_init lk_X6_44 rfl ⟨(Nat.le_of_ble_eq_true rfl), (Nat.le_of_ble_eq_true rfl)⟩ ⟨(Nat.le_of_ble_eq_true rfl), (Nat.le_of_ble_eq_true rfl)⟩ (Nat.le_of_ble_eq_true rfl) rfl dX6_init_95 (sv_kN (fun F_63 g_62 h => ?_))
  obtain ⟨s_64, h⟩ := h
  obtain ⟨s_65, h⟩ := h
  refine sv_aast (pc := 98) G 4 (fun _ => rfl) (by decide) s_64 vi_1_4 s_65 (by decide) rfl dX6_init_98 (fun F_66 eF_66 => ?_)
  have h := h F_66 eF_66
  refine sv_iinc (pc := 99) G dX6_init_99 0 2 [(1, .int 2), (0, .ref (b + a))] (by decide) rfl (by decide) rfl ?_
  refine sv_goto (pc := 102) G dX6_init_102 81 (by decide) ?_
  refine sv_iload_n (pc := 81) G dX6_init_81 0 rfl ?_
  refine sv_iconst (pc := 82) G dX6_init_82 4 ic_4 ?_
  refine sv_ic_ge (pc := 83) G 105 (by decide) dX6_init_83 (fun q => absurd q (by decide)) (fun _ => ?_)
  refine sv_aload_n (pc := 86) G dX6_init_86 1 rfl ?_
  obtain ⟨s_67, h⟩ := h
  obtain ⟨s_68, h⟩ := h
  refine sv_getR (pc := 87) G fw_X6_40 s_67 rfl s_68 dX6_init_87 ?_
  refine sv_iload_n (pc := 90) G dX6_init_90 0 rfl ?_
  refine sv_new (cs := 35) (sl := 639) (pc := 91) G RR cw_X6_38 ⟨(Nat.le_of_ble_eq_true rfl), (Nat.le_of_ble_eq_true rfl)⟩ dX6_init_91 (fun F_69 g_70 a_71 eF_69 eg_70 ea_71 => ?_)
  have h := h F_69 g_70 a_71 eF_69 eg_70 ea_71
  refine sv_dup (pc := 94) G dX6_init_94 rfl ?_
  refine sv_callIN (cs := 36) (sl := 642) (st := [.ref (b + a_71), .int 2, .ref (b + a_44)]) (As := []) (a := a_71) (pc := 95) G RR (c_X4_init h) mw_X4_init lk_X6_44 rfl ⟨(Nat.le_of_ble_eq_true rfl), (Nat.le_of_ble_eq_true rfl)⟩ ⟨(Nat.le_of_ble_eq_true rfl), (Nat.le_of_ble_eq_true rfl)⟩ (Nat.le_of_ble_eq_true rfl) rfl dX6_init_95 (sv_kN (fun F_73 g_72 h => ?_))
  obtain ⟨s_74, h⟩ := h
  obtain ⟨s_75, h⟩ := h
  refine sv_aast (pc := 98) G 4 (fun _ => rfl) (by decide) s_74 vi_2_4 s_75 (by decide) rfl dX6_init_98 (fun F_76 eF_76 => ?_)
  have h := h F_76 eF_76
  refine sv_iinc (pc := 99) G dX6_init_99 0 3 [(1, .int 3), (0, .ref (b + a))] (by decide) rfl (by decide) rfl ?_
  refine sv_goto (pc := 102) G dX6_init_102 81 (by decide) ?_
  refine sv_iload_n (pc := 81) G dX6_init_81 0 rfl ?_
  refine sv_iconst (pc := 82) G dX6_init_82 4 ic_4 ?_
  refine sv_ic_ge (pc := 83) G 105 (by decide) dX6_init_83 (fun q => absurd q (by decide)) (fun _ => ?_)
  refine sv_aload_n (pc := 86) G dX6_init_86 1 rfl ?_
  obtain ⟨s_77, h⟩ := h
  obtain ⟨s_78, h⟩ := h
  refine sv_getR (pc := 87) G fw_X6_40 s_77 rfl s_78 dX6_init_87 ?_
  refine sv_iload_n (pc := 90) G dX6_init_90 0 rfl ?_
  refine sv_new (cs := 37) (sl := 666) (pc := 91) G RR cw_X6_38 ⟨(Nat.le_of_ble_eq_true rfl), (Nat.le_of_ble_eq_true rfl)⟩ dX6_init_91 (fun F_79 g_80 a_81 eF_79 eg_80 ea_81 => ?_)
  have h := h F_79 g_80 a_81 eF_79 eg_80 ea_81
  refine sv_dup (pc := 94) G dX6_init_94 rfl ?_
  refine sv_callIN (cs := 38) (sl := 669) (st := [.ref (b + a_81), .int 3, .ref (b + a_44)]) (As := []) (a := a_81) (pc := 95) G RR (c_X4_init h) mw_X4_init lk_X6_44 rfl ⟨(Nat.le_of_ble_eq_true rfl), (Nat.le_of_ble_eq_true rfl)⟩ ⟨(Nat.le_of_ble_eq_true rfl), (Nat.le_of_ble_eq_true rfl)⟩ (Nat.le_of_ble_eq_true rfl) rfl dX6_init_95 (sv_kN (fun F_83 g_82 h => ?_))
  obtain ⟨s_84, h⟩ := h
  obtain ⟨s_85, h⟩ := h
  refine sv_aast (pc := 98) G 4 (fun _ => rfl) (by decide) s_84 vi_3_4 s_85 (by decide) rfl dX6_init_98 (fun F_86 eF_86 => ?_)
  have h := h F_86 eF_86
  refine sv_iinc (pc := 99) G dX6_init_99 0 4 [(1, .int 4), (0, .ref (b + a))] (by decide) rfl (by decide) rfl ?_
  refine sv_goto (pc := 102) G dX6_init_102 81 (by decide) ?_
  refine sv_iload_n (pc := 81) G dX6_init_81 0 rfl ?_
  refine sv_iconst (pc := 82) G dX6_init_82 4 ic_4 ?_
  refine sv_ic_ge (pc := 83) G 105 (by decide) dX6_init_83 (fun _ => ?_) (fun q => absurd q (by decide))
  refine sv_aload_n (pc := 105) G dX6_init_105 1 rfl ?_
  refine sv_iconst (pc := 106) G dX6_init_106 5 ic_5 ?_
  refine sv_anew (cs := 39) (sl := 693) (t := 22) (pc := 107) G RR 5 (by decide) (fun _ => rfl) (fun _ h => h.2.1.2.2) cl_X6_45 5 (by decide) (by decide) ⟨(Nat.le_of_ble_eq_true rfl), (Nat.le_of_ble_eq_true rfl)⟩ dX6_init_107 (fun F_87 g_88 a_89 eF_87 eg_88 ea_89 => ?_)
  have h := h F_87 g_88 a_89 eF_87 eg_88 ea_89
  obtain ⟨s_90, h⟩ := h
  refine sv_putRF (pc := 110) G fw_X6_47 NM (by intro C T h; cases h; rfl) s_90 rfl dX6_init_110 (fun F_91 eF_91 => ?_)
  have h := h F_91 eF_91
  refine sv_iconst (pc := 113) G dX6_init_113 0 ic_0 ?_
  refine sv_istore_n (pc := 114) G dX6_init_114 [(1, .int 0), (0, .ref (b + a))] (by decide) rfl ?_
  refine sv_iload_n (pc := 115) G dX6_init_115 0 rfl ?_
  refine sv_iconst (pc := 116) G dX6_init_116 5 ic_5 ?_
  refine sv_ic_ge (pc := 117) G 139 (by decide) dX6_init_117 (fun q => absurd q (by decide)) (fun _ => ?_)
  refine sv_aload_n (pc := 120) G dX6_init_120 1 rfl ?_
  obtain ⟨s_92, h⟩ := h
  obtain ⟨s_93, h⟩ := h
  refine sv_getR (pc := 121) G fw_X6_47 s_92 rfl s_93 dX6_init_121 ?_
  refine sv_iload_n (pc := 124) G dX6_init_124 0 rfl ?_
  refine sv_new (cs := 40) (sl := 698) (pc := 125) G RR cw_X6_45 ⟨(Nat.le_of_ble_eq_true rfl), (Nat.le_of_ble_eq_true rfl)⟩ dX6_init_125 (fun F_94 g_95 a_96 eF_94 eg_95 ea_96 => ?_)
  have h := h F_94 g_95 a_96 eF_94 eg_95 ea_96
  refine sv_dup (pc := 128) G dX6_init_128 rfl ?_
  refine sv_callIN (cs := 41) (sl := 703) (st := [.ref (b + a_96), .int 0, .ref (b + a_89)]) (As := []) (a := a_96) (pc := 129) G RR (c_X5_init h) mw_X5_init lk_X6_51 rfl ⟨(Nat.le_of_ble_eq_true rfl), (Nat.le_of_ble_eq_true rfl)⟩ ⟨(Nat.le_of_ble_eq_true rfl), (Nat.le_of_ble_eq_true rfl)⟩ (Nat.le_of_ble_eq_true rfl) rfl dX6_init_129 (sv_kN (fun F_98 g_97 h => ?_))
  obtain ⟨s_99, h⟩ := h
  obtain ⟨s_100, h⟩ := h
  refine sv_aast (pc := 132) G 5 (fun _ => rfl) (by decide) s_99 vi_0_5 s_100 (by decide) rfl dX6_init_132 (fun F_101 eF_101 => ?_)
  have h := h F_101 eF_101
  refine sv_iinc (pc := 133) G dX6_init_133 0 1 [(1, .int 1), (0, .ref (b + a))] (by decide) rfl (by decide) rfl ?_
  refine sv_goto (pc := 136) G dX6_init_136 115 (by decide) ?_
  refine sv_iload_n (pc := 115) G dX6_init_115 0 rfl ?_
  refine sv_iconst (pc := 116) G dX6_init_116 5 ic_5 ?_
  refine sv_ic_ge (pc := 117) G 139 (by decide) dX6_init_117 (fun q => absurd q (by decide)) (fun _ => ?_)
  refine sv_aload_n (pc := 120) G dX6_init_120 1 rfl ?_
  obtain ⟨s_102, h⟩ := h
  obtain ⟨s_103, h⟩ := h
  refine sv_getR (pc := 121) G fw_X6_47 s_102 rfl s_103 dX6_init_121 ?_
  refine sv_iload_n (pc := 124) G dX6_init_124 0 rfl ?_
  refine sv_new (cs := 43) (sl := 730) (pc := 125) G RR cw_X6_45 ⟨(Nat.le_of_ble_eq_true rfl), (Nat.le_of_ble_eq_true rfl)⟩ dX6_init_125 (fun F_104 g_105 a_106 eF_104 eg_105 ea_106 => ?_)
  have h := h F_104 g_105 a_106 eF_104 eg_105 ea_106
  refine sv_dup (pc := 128) G dX6_init_128 rfl ?_
  refine sv_callIN (cs := 44) (sl := 735) (st := [.ref (b + a_106), .int 1, .ref (b + a_89)]) (As := []) (a := a_106) (pc := 129) G RR (c_X5_init h) mw_X5_init lk_X6_51 rfl ⟨(Nat.le_of_ble_eq_true rfl), (Nat.le_of_ble_eq_true rfl)⟩ ⟨(Nat.le_of_ble_eq_true rfl), (Nat.le_of_ble_eq_true rfl)⟩ (Nat.le_of_ble_eq_true rfl) rfl dX6_init_129 (sv_kN (fun F_108 g_107 h => ?_))
  obtain ⟨s_109, h⟩ := h
  obtain ⟨s_110, h⟩ := h
  refine sv_aast (pc := 132) G 5 (fun _ => rfl) (by decide) s_109 vi_1_5 s_110 (by decide) rfl dX6_init_132 (fun F_111 eF_111 => ?_)
  have h := h F_111 eF_111
  refine sv_iinc (pc := 133) G dX6_init_133 0 2 [(1, .int 2), (0, .ref (b + a))] (by decide) rfl (by decide) rfl ?_
  refine sv_goto (pc := 136) G dX6_init_136 115 (by decide) ?_
  refine sv_iload_n (pc := 115) G dX6_init_115 0 rfl ?_
  refine sv_iconst (pc := 116) G dX6_init_116 5 ic_5 ?_
  refine sv_ic_ge (pc := 117) G 139 (by decide) dX6_init_117 (fun q => absurd q (by decide)) (fun _ => ?_)
  refine sv_aload_n (pc := 120) G dX6_init_120 1 rfl ?_
  obtain ⟨s_112, h⟩ := h
  obtain ⟨s_113, h⟩ := h
  refine sv_getR (pc := 121) G fw_X6_47 s_112 rfl s_113 dX6_init_121 ?_
  refine sv_iload_n (pc := 124) G dX6_init_124 0 rfl ?_
  refine sv_new (cs := 46) (sl := 762) (pc := 125) G RR cw_X6_45 ⟨(Nat.le_of_ble_eq_true rfl), (Nat.le_of_ble_eq_true rfl)⟩ dX6_init_125 (fun F_114 g_115 a_116 eF_114 eg_115 ea_116 => ?_)
  have h := h F_114 g_115 a_116 eF_114 eg_115 ea_116
  refine sv_dup (pc := 128) G dX6_init_128 rfl ?_
  refine sv_callIN (cs := 47) (sl := 767) (st := [.ref (b + a_116), .int 2, .ref (b + a_89)]) (As := []) (a := a_116) (pc := 129) G RR (c_X5_init h) mw_X5_init lk_X6_51 rfl ⟨(Nat.le_of_ble_eq_true rfl), (Nat.le_of_ble_eq_true rfl)⟩ ⟨(Nat.le_of_ble_eq_true rfl), (Nat.le_of_ble_eq_true rfl)⟩ (Nat.le_of_ble_eq_true rfl) rfl dX6_init_129 (sv_kN (fun F_118 g_117 h => ?_))
  obtain ⟨s_119, h⟩ := h
  obtain ⟨s_120, h⟩ := h
  refine sv_aast (pc := 132) G 5 (fun _ => rfl) (by decide) s_119 vi_2_5 s_120 (by decide) rfl dX6_init_132 (fun F_121 eF_121 => ?_)
  have h := h F_121 eF_121
  refine sv_iinc (pc := 133) G dX6_init_133 0 3 [(1, .int 3), (0, .ref (b + a))] (by decide) rfl (by decide) rfl ?_
  refine sv_goto (pc := 136) G dX6_init_136 115 (by decide) ?_
  refine sv_iload_n (pc := 115) G dX6_init_115 0 rfl ?_
  refine sv_iconst (pc := 116) G dX6_init_116 5 ic_5 ?_
  refine sv_ic_ge (pc := 117) G 139 (by decide) dX6_init_117 (fun q => absurd q (by decide)) (fun _ => ?_)
  refine sv_aload_n (pc := 120) G dX6_init_120 1 rfl ?_
  obtain ⟨s_122, h⟩ := h
  obtain ⟨s_123, h⟩ := h
  refine sv_getR (pc := 121) G fw_X6_47 s_122 rfl s_123 dX6_init_121 ?_
  refine sv_iload_n (pc := 124) G dX6_init_124 0 rfl ?_
  refine sv_new (cs := 49) (sl := 794) (pc := 125) G RR cw_X6_45 ⟨(Nat.le_of_ble_eq_true rfl), (Nat.le_of_ble_eq_true rfl)⟩ dX6_init_125 (fun F_124 g_125 a_126 eF_124 eg_125 ea_126 => ?_)
  have h := h F_124 g_125 a_126 eF_124 eg_125 ea_126
  refine sv_dup (pc := 128) G dX6_init_128 rfl ?_
  refine sv_callIN (cs := 50) (sl := 799) (st := [.ref (b + a_126), .int 3, .ref (b + a_89)]) (As := []) (a := a_126) (pc := 129) G RR (c_X5_init h) mw_X5_init lk_X6_51 rfl ⟨(Nat.le_of_ble_eq_true rfl), (Nat.le_of_ble_eq_true rfl)⟩ ⟨(Nat.le_of_ble_eq_true rfl), (Nat.le_of_ble_eq_true rfl)⟩ (Nat.le_of_ble_eq_true rfl) rfl dX6_init_129 (sv_kN (fun F_128 g_127 h => ?_))
  obtain ⟨s_129, h⟩ := h
  obtain ⟨s_130, h⟩ := h
  refine sv_aast (pc := 132) G 5 (fun _ => rfl) (by decide) s_129 vi_3_5 s_130 (by decide) rfl dX6_init_132 (fun F_131 eF_131 => ?_)
  have h := h F_131 eF_131
  refine sv_iinc (pc := 133) G dX6_init_133 0 4 [(1, .int 4), (0, .ref (b + a))] (by decide) rfl (by decide) rfl ?_
  refine sv_goto (pc := 136) G dX6_init_136 115 (by decide) ?_
  refine sv_iload_n (pc := 115) G dX6_init_115 0 rfl ?_
  refine sv_iconst (pc := 116) G dX6_init_116 5 ic_5 ?_
  refine sv_ic_ge (pc := 117) G 139 (by decide) dX6_init_117 (fun q => absurd q (by decide)) (fun _ => ?_)
  refine sv_aload_n (pc := 120) G dX6_init_120 1 rfl ?_
  obtain ⟨s_132, h⟩ := h
  obtain ⟨s_133, h⟩ := h
  refine sv_getR (pc := 121) G fw_X6_47 s_132 rfl s_133 dX6_init_121 ?_
  refine sv_iload_n (pc := 124) G dX6_init_124 0 rfl ?_
  refine sv_new (cs := 52) (sl := 826) (pc := 125) G RR cw_X6_45 ⟨(Nat.le_of_ble_eq_true rfl), (Nat.le_of_ble_eq_true rfl)⟩ dX6_init_125 (fun F_134 g_135 a_136 eF_134 eg_135 ea_136 => ?_)
  have h := h F_134 g_135 a_136 eF_134 eg_135 ea_136
  refine sv_dup (pc := 128) G dX6_init_128 rfl ?_
  refine sv_callIN (cs := 53) (sl := 831) (st := [.ref (b + a_136), .int 4, .ref (b + a_89)]) (As := []) (a := a_136) (pc := 129) G RR (c_X5_init h) mw_X5_init lk_X6_51 rfl ⟨(Nat.le_of_ble_eq_true rfl), (Nat.le_of_ble_eq_true rfl)⟩ ⟨(Nat.le_of_ble_eq_true rfl), (Nat.le_of_ble_eq_true rfl)⟩ (Nat.le_of_ble_eq_true rfl) rfl dX6_init_129 (sv_kN (fun F_138 g_137 h => ?_))
  obtain ⟨s_139, h⟩ := h
  obtain ⟨s_140, h⟩ := h
  refine sv_aast (pc := 132) G 5 (fun _ => rfl) (by decide) s_139 vi_4_5 s_140 (by decide) rfl dX6_init_132 (fun F_141 eF_141 => ?_)
  have h := h F_141 eF_141
  refine sv_iinc (pc := 133) G dX6_init_133 0 5 [(1, .int 5), (0, .ref (b + a))] (by decide) rfl (by decide) rfl ?_
  refine sv_goto (pc := 136) G dX6_init_136 115 (by decide) ?_
  refine sv_iload_n (pc := 115) G dX6_init_115 0 rfl ?_
  refine sv_iconst (pc := 116) G dX6_init_116 5 ic_5 ?_
  refine sv_ic_ge (pc := 117) G 139 (by decide) dX6_init_117 (fun _ => ?_) (fun q => absurd q (by decide))
  refine sv_aload_n (pc := 139) G dX6_init_139 1 rfl ?_
  refine sv_bipush (pc := 140) G dX6_init_140 60 bp_60 ?_
  refine sv_newa (cs := 55) (sl := 858) (t := 10) (atype := .int) (pc := 142) G RR 0 (by decide) (by decide) (fun _ => rfl) (fun _ _ h => h) rfl (by decide) wd_aint 60 (by decide) (by decide) ⟨(Nat.le_of_ble_eq_true rfl), (Nat.le_of_ble_eq_true rfl)⟩ dX6_init_142 (fun F_142 g_143 a_144 eF_142 eg_143 ea_144 => ?_)
  have h := h F_142 g_143 a_144 eF_142 eg_143 ea_144
  obtain ⟨s_145, h⟩ := h
  refine sv_putRF (pc := 144) G fw_X6_52 NM (by intro C T h; cases h; rfl) s_145 rfl dX6_init_144 (fun F_146 eF_146 => ?_)
  have h := h F_146 eF_146
  refine sv_aload_n (pc := 147) G dX6_init_147 1 rfl ?_
  refine sv_bipush (pc := 148) G dX6_init_148 13 bp_13 ?_
  refine sv_newa (cs := 56) (sl := 918) (t := 10) (atype := .int) (pc := 150) G RR 0 (by decide) (by decide) (fun _ => rfl) (fun _ _ h => h) rfl (by decide) wd_aint 13 (by decide) (by decide) ⟨(Nat.le_of_ble_eq_true rfl), (Nat.le_of_ble_eq_true rfl)⟩ dX6_init_150 (fun F_147 g_148 a_149 eF_147 eg_148 ea_149 => ?_)
  have h := h F_147 g_148 a_149 eF_147 eg_148 ea_149
  obtain ⟨s_150, h⟩ := h
  refine sv_putRF (pc := 152) G fw_X6_56 NM (by intro C T h; cases h; rfl) s_150 rfl dX6_init_152 (fun F_151 eF_151 => ?_)
  have h := h F_151 eF_151
  refine sv_aload_n (pc := 155) G dX6_init_155 1 rfl ?_
  refine sv_iconst (pc := 156) G dX6_init_156 0 ic_0 ?_
  obtain ⟨s_152, h⟩ := h
  refine sv_putI (pc := 157) G fw_X6_59 s_152 rfl dX6_init_157 (fun g_153 eg_153 => ?_)
  have h := h g_153 eg_153
  refine sv_aload_n (pc := 160) G dX6_init_160 1 rfl ?_
  refine sv_iconst (pc := 161) G dX6_init_161 0 ic_0 ?_
  obtain ⟨s_154, h⟩ := h
  refine sv_putZ (pc := 162) G fw_X6_63 s_154 (Or.inl rfl) rfl dX6_init_162 (fun g_155 eg_155 => ?_)
  have h := h g_155 eg_155
  exact sv_vreturn (cs := 57) (sl := 931) (pc := 165) G T ⟨(Nat.le_of_ble_eq_true rfl), (Nat.le_of_ble_eq_true rfl)⟩ dX6_init_165 ⟨rfl, h⟩
def wp_X6_text (F : sv_Fr) (g : sv_Mg) (Q : Int32 → sv_Fr → sv_Mg → Prop) : Prop := wp_X3_read F  g (fun r_2 g_1 => ∀ g_3, g_3 = sv_st g_1 4 1 0 → ((r_2 < 0 → (((g_3 7 18) < 14 → wp_X3_law F  g_3 (fun a_8 F_7 g_6 => sv_Lay F_7 ∧ vp_in (g_3 7 18) 14 ∧ F_7.1[a_8]? = some (1, 3) ∧ ∀ F_12, F_12 = (F_7.1, sv_sr F_7.2 2 (g_3 7 18).toNatClampNeg (some a_8)) → sv_Lay F_12 ∧ ∀ g_14, g_14 = sv_st g_6 7 18 ((g_6 7 18) + 1) → Q ((g_14 7 18) - 1) F_12 g_14)) ∧ (¬ (g_3 7 18) < 14 → Q (-1000000003) F g_3))) ∧ (¬ r_2 < 0 → Q ((-100) - r_2) F g_3)))
set_option maxRecDepth 100000 in
set_option maxHeartbeats 4000000 in
theorem c_X6_text {b : Nat} {xt : sv_Xt} {F : sv_Fr} {g : sv_Mg} {Q : Int32 → sv_Fr → sv_Mg → Prop} (hL : sv_Lay F) (h : wp_X6_text F g Q) : sv_Cal yX6_text cX6_text 2 (some .int) 108 6179 2 99 b xt [.ref (b + 0)] F g (sv_qD Q) := by
  refine sv_intro mw_X6_text [(0, .ref (b + 0))] rfl (Nat.le_of_ble_eq_true rfl) (fun x G RR T NM => ?_)
  have G : sv_G x b xt RX6 cX6_text 2 := G
  have NM : sv_NM x "text" := NM
  unfold wp_X6_text at h
  refine sv_aload_n (pc := 0) G dX6_text_0 0 rfl ?_
  refine sv_getR (pc := 1) G fw_X6_19 (hL.sh rfl) rfl (hL.rf 1 rfl) dX6_text_1 ?_
  refine sv_callV (cs := 0) (sl := 0) (st := []) (As := []) (a := 4) (pc := 4) G RR (c_X3_read hL  h) mw_X3_read lk_X6_232 (hL.sh rfl) (by decide) rfl rfl ⟨(Nat.le_of_ble_eq_true rfl), (Nat.le_of_ble_eq_true rfl)⟩ ⟨(Nat.le_of_ble_eq_true rfl), (Nat.le_of_ble_eq_true rfl)⟩ (Nat.le_of_ble_eq_true rfl) rfl dX6_text_4 (sv_kI (fun r_2 g_1 h => ?_))
  refine sv_istore_n (pc := 7) G dX6_text_7 [(1, .int r_2), (0, .ref (b + 0))] (by decide) rfl ?_
  refine sv_aload_n (pc := 8) G dX6_text_8 1 rfl ?_
  refine sv_getR (pc := 9) G fw_X6_19 (hL.sh rfl) rfl (hL.rf 1 rfl) dX6_text_9 ?_
  refine sv_iconst (pc := 12) G dX6_text_12 0 ic_0 ?_
  refine sv_putI (pc := 13) G fw_X6_226 (hL.sh rfl) rfl dX6_text_13 (fun g_3 eg_3 => ?_)
  have h := h g_3 eg_3
  refine sv_iload_n (pc := 16) G dX6_text_16 0 rfl ?_
  refine sv_if_lt (pc := 17) G 25 (by decide) dX6_text_17 (fun c_4 => ?_) (fun c_4 => ?_)
  · have h := h.1 c_4
    refine sv_aload_n (pc := 25) G dX6_text_25 1 rfl ?_
    refine sv_getR (pc := 26) G fw_X6_28 (hL.sh rfl) rfl (hL.rf 2 rfl) dX6_text_26 ?_
    refine sv_getI (pc := 29) G fw_X6_216 (hL.sh rfl) rfl dX6_text_29 ?_
    refine sv_bipush (pc := 32) G dX6_text_32 14 bp_14 ?_
    refine sv_ic_lt (pc := 34) G 40 (by decide) dX6_text_34 (fun c_5 => ?_) (fun c_5 => ?_)
    · have h := h.1 c_5
      refine sv_aload_n (pc := 40) G dX6_text_40 1 rfl ?_
      refine sv_getR (pc := 41) G fw_X6_10 (hL.sh rfl) rfl (hL.rf 0 rfl) dX6_text_41 ?_
      refine sv_getR (pc := 44) G fw_X6_235 (hL.sh rfl) rfl (hL.rf 9 rfl) dX6_text_44 ?_
      refine sv_aload_n (pc := 47) G dX6_text_47 1 rfl ?_
      refine sv_getR (pc := 48) G fw_X6_28 (hL.sh rfl) rfl (hL.rf 2 rfl) dX6_text_48 ?_
      refine sv_getI (pc := 51) G fw_X6_216 (hL.sh rfl) rfl dX6_text_51 ?_
      refine sv_aload_n (pc := 54) G dX6_text_54 1 rfl ?_
      refine sv_getR (pc := 55) G fw_X6_19 (hL.sh rfl) rfl (hL.rf 1 rfl) dX6_text_55 ?_
      refine sv_callV (cs := 0) (sl := 0) (st := [.int (g_3 7 18), .ref (b + 2)]) (As := []) (a := 4) (pc := 58) G RR (c_X3_law hL h) mw_X3_law lk_X6_239 (hL.sh rfl) (by decide) rfl rfl ⟨(Nat.le_of_ble_eq_true rfl), (Nat.le_of_ble_eq_true rfl)⟩ ⟨(Nat.le_of_ble_eq_true rfl), (Nat.le_of_ble_eq_true rfl)⟩ (Nat.le_of_ble_eq_true rfl) rfl dX6_text_58 (sv_kA (fun a_8 F_7 g_6 h => ?_))
      obtain ⟨s_9, h⟩ := h
      obtain ⟨s_10, h⟩ := h
      obtain ⟨s_11, h⟩ := h
      refine sv_aast (pc := 61) G 3 (fun _ => rfl) (by decide) (s_9.sh rfl) s_10 s_11 (by decide) rfl dX6_text_61 (fun F_12 eF_12 => ?_)
      have h := h F_12 eF_12
      obtain ⟨s_13, h⟩ := h
      refine sv_aload_n (pc := 62) G dX6_text_62 1 rfl ?_
      refine sv_getR (pc := 63) G fw_X6_28 (s_13.sh rfl) rfl (s_13.rf 2 rfl) dX6_text_63 ?_
      refine sv_dup (pc := 66) G dX6_text_66 rfl ?_
      refine sv_getI (pc := 67) G fw_X6_216 (s_13.sh rfl) rfl dX6_text_67 ?_
      refine sv_iconst (pc := 70) G dX6_text_70 1 ic_1 ?_
      refine sv_iadd (pc := 71) G dX6_text_71 ?_
      refine sv_putI (pc := 72) G fw_X6_216 (s_13.sh rfl) rfl dX6_text_72 (fun g_14 eg_14 => ?_)
      have h := h g_14 eg_14
      refine sv_aload_n (pc := 75) G dX6_text_75 1 rfl ?_
      refine sv_getR (pc := 76) G fw_X6_28 (s_13.sh rfl) rfl (s_13.rf 2 rfl) dX6_text_76 ?_
      refine sv_getI (pc := 79) G fw_X6_216 (s_13.sh rfl) rfl dX6_text_79 ?_
      refine sv_iconst (pc := 82) G dX6_text_82 1 ic_1 ?_
      refine sv_isub (pc := 83) G dX6_text_83 ?_
      exact sv_ireturn (cs := 2) (sl := 99) (pc := 84) G T ⟨(Nat.le_of_ble_eq_true rfl), (Nat.le_of_ble_eq_true rfl)⟩ dX6_text_84 ⟨_, rfl, h⟩
    · have h := h.2 c_5
      refine sv_ldc (pc := 37) G dX6_text_37 cn_X6_75 ?_
      exact sv_ireturn (cs := 0) (sl := 0) (pc := 39) G T ⟨(Nat.le_of_ble_eq_true rfl), (Nat.le_of_ble_eq_true rfl)⟩ dX6_text_39 ⟨_, rfl, h⟩
  · have h := h.2 c_4
    refine sv_bipush (pc := 20) G dX6_text_20 (-100) bp_m100 ?_
    refine sv_iload_n (pc := 22) G dX6_text_22 0 rfl ?_
    refine sv_isub (pc := 23) G dX6_text_23 ?_
    exact sv_ireturn (cs := 0) (sl := 0) (pc := 24) G T ⟨(Nat.le_of_ble_eq_true rfl), (Nat.le_of_ble_eq_true rfl)⟩ dX6_text_24 ⟨_, rfl, h⟩
def wp_X7_init (F : sv_Fr) (a : Nat) (g : sv_Mg) (Q : sv_Fr → sv_Mg → Prop) : Prop := ∀ F_1 g_2 a_3, F_1 = sv_nw F (10, 1443) → g_2 = sv_nz F g → a_3 = F.1.length → F_1.1[a]? = some (7, 35) ∧ ∀ F_5, F_5 = (F_1.1, sv_sr F_1.2 a 0 (some a_3)) → ∀ F_6 g_7 a_8, F_6 = sv_nw F_5 (10, 1443) → g_7 = sv_nz F_5 g_2 → a_8 = F_5.1.length → F_6.1[a]? = some (7, 35) ∧ ∀ F_10, F_10 = (F_6.1, sv_sr F_6.2 a 1 (some a_8)) → ∀ F_11 g_12 a_13, F_11 = sv_nw F_10 (10, 1443) → g_12 = sv_nz F_10 g_7 → a_13 = F_10.1.length → F_11.1[a]? = some (7, 35) ∧ ∀ F_15, F_15 = (F_11.1, sv_sr F_11.2 a 2 (some a_13)) → ∀ F_16 g_17 a_18, F_16 = sv_nw F_15 (10, 10) → g_17 = sv_nz F_15 g_12 → a_18 = F_15.1.length → F_16.1[a]? = some (7, 35) ∧ ∀ F_20, F_20 = (F_16.1, sv_sr F_16.2 a 4 (some a_18)) → ∀ F_21 g_22 a_23, F_21 = sv_nw F_20 (10, 13) → g_22 = sv_nz F_20 g_17 → a_23 = F_20.1.length → F_21.1[a]? = some (7, 35) ∧ ∀ F_25, F_25 = (F_21.1, sv_sr F_21.2 a 5 (some a_23)) → ∀ F_26 g_27 a_28, F_26 = sv_nw F_25 (10, 71) → g_27 = sv_nz F_25 g_22 → a_28 = F_25.1.length → F_26.1[a]? = some (7, 35) ∧ ∀ F_30, F_30 = (F_26.1, sv_sr F_26.2 a 6 (some a_28)) → ∀ F_31 g_32 a_33, F_31 = sv_nw F_30 (10, 96) → g_32 = sv_nz F_30 g_27 → a_33 = F_30.1.length → F_31.1[a]? = some (7, 35) ∧ ∀ F_35, F_35 = (F_31.1, sv_sr F_31.2 a 7 (some a_33)) → ∀ F_36 g_37 a_38, F_36 = sv_nw F_35 (11, 11) → g_37 = sv_nz F_35 g_32 → a_38 = F_35.1.length → F_36.1[a_38]? = some (11, 11) ∧ ∀ g_40, g_40 = sv_st g_37 a_38 0 115 → F_36.1[a_38]? = some (11, 11) ∧ ∀ g_42, g_42 = sv_st g_40 a_38 1 119 → F_36.1[a_38]? = some (11, 11) ∧ ∀ g_44, g_44 = sv_st g_42 a_38 2 97 → F_36.1[a_38]? = some (11, 11) ∧ ∀ g_46, g_46 = sv_st g_44 a_38 3 121 → F_36.1[a_38]? = some (11, 11) ∧ ∀ g_48, g_48 = sv_st g_46 a_38 4 102 → F_36.1[a_38]? = some (11, 11) ∧ ∀ g_50, g_50 = sv_st g_48 a_38 5 101 → F_36.1[a_38]? = some (11, 11) ∧ ∀ g_52, g_52 = sv_st g_50 a_38 6 101 → F_36.1[a_38]? = some (11, 11) ∧ ∀ g_54, g_54 = sv_st g_52 a_38 7 102 → F_36.1[a_38]? = some (11, 11) ∧ ∀ g_56, g_56 = sv_st g_54 a_38 8 105 → F_36.1[a_38]? = some (11, 11) ∧ ∀ g_58, g_58 = sv_st g_56 a_38 9 110 → F_36.1[a_38]? = some (11, 11) ∧ ∀ g_60, g_60 = sv_st g_58 a_38 10 101 → F_36.1[a]? = some (7, 35) ∧ ∀ F_62, F_62 = (F_36.1, sv_sr F_36.2 a 15 (some a_38)) → ∀ F_63 g_64 a_65, F_63 = sv_nw F_62 (10, 4) → g_64 = sv_nz F_62 g_60 → a_65 = F_62.1.length → F_63.1[a_65]? = some (10, 4) ∧ ∀ g_67, g_67 = sv_st g_64 a_65 0 0 → F_63.1[a_65]? = some (10, 4) ∧ ∀ g_69, g_69 = sv_st g_67 a_65 1 4 → F_63.1[a_65]? = some (10, 4) ∧ ∀ g_71, g_71 = sv_st g_69 a_65 2 7 → F_63.1[a_65]? = some (10, 4) ∧ ∀ g_73, g_73 = sv_st g_71 a_65 3 11 → F_63.1[a]? = some (7, 35) ∧ ∀ F_75, F_75 = (F_63.1, sv_sr F_63.2 a 16 (some a_65)) → ∀ F_76 g_77 a_78, F_76 = sv_nw F_75 (10, 96) → g_77 = sv_nz F_75 g_73 → a_78 = F_75.1.length → F_76.1[a]? = some (7, 35) ∧ ∀ F_80, F_80 = (F_76.1, sv_sr F_76.2 a 17 (some a_78)) → ∀ F_81 g_82 a_83, F_81 = sv_nw F_80 (10, 96) → g_82 = sv_nz F_80 g_77 → a_83 = F_80.1.length → F_81.1[a]? = some (7, 35) ∧ ∀ F_85, F_85 = (F_81.1, sv_sr F_81.2 a 20 (some a_83)) → ∀ F_86 g_87 a_88, F_86 = sv_nw F_85 (12, 10) → g_87 = sv_nz F_85 g_82 → a_88 = F_85.1.length → F_86.1[a]? = some (7, 35) ∧ ∀ F_90, F_90 = (F_86.1, sv_sr F_86.2 a 22 (some a_88)) → ∀ F_91 g_92 a_93, F_91 = sv_nw F_90 (10, 96) → g_92 = sv_nz F_90 g_87 → a_93 = F_90.1.length → F_91.1[a]? = some (7, 35) ∧ ∀ F_95, F_95 = (F_91.1, sv_sr F_91.2 a 23 (some a_93)) → ∀ F_96 g_97 a_98, F_96 = sv_nw F_95 (10, 4) → g_97 = sv_nz F_95 g_92 → a_98 = F_95.1.length → F_96.1[a]? = some (7, 35) ∧ ∀ F_100, F_100 = (F_96.1, sv_sr F_96.2 a 24 (some a_98)) → ∀ F_101 g_102 a_103, F_101 = sv_nw F_100 (10, 4) → g_102 = sv_nz F_100 g_97 → a_103 = F_100.1.length → F_101.1[a_103]? = some (10, 4) ∧ ∀ g_105, g_105 = sv_st g_102 a_103 0 (-1) → F_101.1[a_103]? = some (10, 4) ∧ ∀ g_107, g_107 = sv_st g_105 a_103 1 (-1) → F_101.1[a_103]? = some (10, 4) ∧ ∀ g_109, g_109 = sv_st g_107 a_103 2 (-1) → F_101.1[a_103]? = some (10, 4) ∧ ∀ g_111, g_111 = sv_st g_109 a_103 3 (-1) → F_101.1[a]? = some (7, 35) ∧ ∀ F_113, F_113 = (F_101.1, sv_sr F_101.2 a 25 (some a_103)) → ∀ F_114 g_115 a_116, F_114 = sv_nw F_113 (10, 4) → g_115 = sv_nz F_113 g_111 → a_116 = F_113.1.length → F_114.1[a]? = some (7, 35) ∧ ∀ F_118, F_118 = (F_114.1, sv_sr F_114.2 a 26 (some a_116)) → ∀ F_119 g_120 a_121, F_119 = sv_nw F_118 (10, 96) → g_120 = sv_nz F_118 g_115 → a_121 = F_118.1.length → F_119.1[a]? = some (7, 35) ∧ ∀ F_123, F_123 = (F_119.1, sv_sr F_119.2 a 27 (some a_121)) → ∀ F_124 g_125 a_126, F_124 = sv_nw F_123 (10, 5) → g_125 = sv_nz F_123 g_120 → a_126 = F_123.1.length → F_124.1[a]? = some (7, 35) ∧ ∀ F_128, F_128 = (F_124.1, sv_sr F_124.2 a 28 (some a_126)) → ∀ F_129 g_130 a_131, F_129 = sv_nw F_128 (10, 5) → g_130 = sv_nz F_128 g_125 → a_131 = F_128.1.length → F_129.1[a]? = some (7, 35) ∧ ∀ F_133, F_133 = (F_129.1, sv_sr F_129.2 a 29 (some a_131)) → ∀ F_134 g_135 a_136, F_134 = sv_nw F_133 (10, 5) → g_135 = sv_nz F_133 g_130 → a_136 = F_133.1.length → F_134.1[a]? = some (7, 35) ∧ ∀ F_138, F_138 = (F_134.1, sv_sr F_134.2 a 30 (some a_136)) → ∀ F_139 g_140 a_141, F_139 = sv_nw F_138 (10, 120) → g_140 = sv_nz F_138 g_135 → a_141 = F_138.1.length → F_139.1[a]? = some (7, 35) ∧ ∀ F_143, F_143 = (F_139.1, sv_sr F_139.2 a 31 (some a_141)) → ∀ F_144 g_145 a_146, F_144 = sv_nw F_143 (10, 24) → g_145 = sv_nz F_143 g_140 → a_146 = F_143.1.length → F_144.1[a]? = some (7, 35) ∧ ∀ F_148, F_148 = (F_144.1, sv_sr F_144.2 a 32 (some a_146)) → ∀ F_149 g_150 a_151, F_149 = sv_nw F_148 (10, 60) → g_150 = sv_nz F_148 g_145 → a_151 = F_148.1.length → F_149.1[a]? = some (7, 35) ∧ ∀ F_153, F_153 = (F_149.1, sv_sr F_149.2 a 33 (some a_151)) → F_153.1[a]? = some (7, 35) ∧ F_153.2 a 0 = some a_3 ∧ F_153.1[a_3]? = some (10, 1443) ∧ ∀ g_157, g_157 = sv_st g_150 a_3 0 1 → F_153.1[a]? = some (7, 35) ∧ F_153.2 a 0 = some a_3 ∧ F_153.1[a_3]? = some (10, 1443) ∧ ∀ g_161, g_161 = sv_st g_157 a_3 5 50 → F_153.1[a]? = some (7, 35) ∧ F_153.2 a 0 = some a_3 ∧ F_153.1[a_3]? = some (10, 1443) ∧ ∀ g_165, g_165 = sv_st g_161 a_3 6 10 → F_153.1[a]? = some (7, 35) ∧ F_153.2 a 0 = some a_3 ∧ F_153.1[a_3]? = some (10, 1443) ∧ ∀ g_169, g_169 = sv_st g_165 a_3 7 (-1) → F_153.1[a]? = some (7, 35) ∧ F_153.2 a 0 = some a_3 ∧ F_153.1[a_3]? = some (10, 1443) ∧ ∀ g_173, g_173 = sv_st g_169 a_3 8 3 → Q F_153 g_173
set_option maxRecDepth 100000 in
set_option maxHeartbeats 4000000 in
theorem c_X7_init {b : Nat} {xt : sv_Xt} {F : sv_Fr} {a : Nat} {g : sv_Mg} {Q : sv_Fr → sv_Mg → Prop} (h : wp_X7_init F a g Q) : sv_Cal yX7_init cX7_init 1 none 1 20 23 5159 b xt [.ref (b + a)] F g (sv_qN Q) := by
  refine sv_intro mw_X7_init [(0, .ref (b + a))] rfl (Nat.le_of_ble_eq_true rfl) (fun x G RR T NM => ?_)
  have G : sv_G x b xt RX7 cX7_init 1 := G
  have NM : sv_NM x "<init>" := NM
  unfold wp_X7_init at h
  refine sv_aload_n (pc := 0) G dX7_init_0 0 rfl ?_
  refine sv_objInit (pc := 1) G RR lk_X7_1 wd_oi1 wd_oi2 (Nat.le_of_ble_eq_true rfl) (Nat.le_of_ble_eq_true rfl) (Nat.le_of_ble_eq_true rfl) dX7_init_1 ?_
  refine sv_aload_n (pc := 4) G dX7_init_4 0 rfl ?_
  refine sv_sipush (pc := 5) G dX7_init_5 1443 sp_1443 ?_
  refine sv_newa (cs := 0) (sl := 0) (t := 10) (atype := .int) (pc := 8) G RR 0 (by decide) (by decide) (fun _ => rfl) (fun _ _ h => h) rfl (by decide) wd_aint 1443 (by decide) (by decide) ⟨(Nat.le_of_ble_eq_true rfl), (Nat.le_of_ble_eq_true rfl)⟩ dX7_init_8 (fun F_1 g_2 a_3 eF_1 eg_2 ea_3 => ?_)
  have h := h F_1 g_2 a_3 eF_1 eg_2 ea_3
  obtain ⟨s_4, h⟩ := h
  refine sv_putRF (pc := 10) G fw_X7_9 NM (by intro C T h; cases h; rfl) s_4 rfl dX7_init_10 (fun F_5 eF_5 => ?_)
  have h := h F_5 eF_5
  refine sv_aload_n (pc := 13) G dX7_init_13 0 rfl ?_
  refine sv_sipush (pc := 14) G dX7_init_14 1443 sp_1443 ?_
  refine sv_newa (cs := 1) (sl := 1443) (t := 10) (atype := .int) (pc := 17) G RR 0 (by decide) (by decide) (fun _ => rfl) (fun _ _ h => h) rfl (by decide) wd_aint 1443 (by decide) (by decide) ⟨(Nat.le_of_ble_eq_true rfl), (Nat.le_of_ble_eq_true rfl)⟩ dX7_init_17 (fun F_6 g_7 a_8 eF_6 eg_7 ea_8 => ?_)
  have h := h F_6 g_7 a_8 eF_6 eg_7 ea_8
  obtain ⟨s_9, h⟩ := h
  refine sv_putRF (pc := 19) G fw_X7_13 NM (by intro C T h; cases h; rfl) s_9 rfl dX7_init_19 (fun F_10 eF_10 => ?_)
  have h := h F_10 eF_10
  refine sv_aload_n (pc := 22) G dX7_init_22 0 rfl ?_
  refine sv_sipush (pc := 23) G dX7_init_23 1443 sp_1443 ?_
  refine sv_newa (cs := 2) (sl := 2886) (t := 10) (atype := .int) (pc := 26) G RR 0 (by decide) (by decide) (fun _ => rfl) (fun _ _ h => h) rfl (by decide) wd_aint 1443 (by decide) (by decide) ⟨(Nat.le_of_ble_eq_true rfl), (Nat.le_of_ble_eq_true rfl)⟩ dX7_init_26 (fun F_11 g_12 a_13 eF_11 eg_12 ea_13 => ?_)
  have h := h F_11 g_12 a_13 eF_11 eg_12 ea_13
  obtain ⟨s_14, h⟩ := h
  refine sv_putRF (pc := 28) G fw_X7_16 NM (by intro C T h; cases h; rfl) s_14 rfl dX7_init_28 (fun F_15 eF_15 => ?_)
  have h := h F_15 eF_15
  refine sv_aload_n (pc := 31) G dX7_init_31 0 rfl ?_
  refine sv_bipush (pc := 32) G dX7_init_32 10 bp_10 ?_
  refine sv_newa (cs := 3) (sl := 4329) (t := 10) (atype := .int) (pc := 34) G RR 0 (by decide) (by decide) (fun _ => rfl) (fun _ _ h => h) rfl (by decide) wd_aint 10 (by decide) (by decide) ⟨(Nat.le_of_ble_eq_true rfl), (Nat.le_of_ble_eq_true rfl)⟩ dX7_init_34 (fun F_16 g_17 a_18 eF_16 eg_17 ea_18 => ?_)
  have h := h F_16 g_17 a_18 eF_16 eg_17 ea_18
  obtain ⟨s_19, h⟩ := h
  refine sv_putRF (pc := 36) G fw_X7_19 NM (by intro C T h; cases h; rfl) s_19 rfl dX7_init_36 (fun F_20 eF_20 => ?_)
  have h := h F_20 eF_20
  refine sv_aload_n (pc := 39) G dX7_init_39 0 rfl ?_
  refine sv_bipush (pc := 40) G dX7_init_40 13 bp_13 ?_
  refine sv_newa (cs := 4) (sl := 4339) (t := 10) (atype := .int) (pc := 42) G RR 0 (by decide) (by decide) (fun _ => rfl) (fun _ _ h => h) rfl (by decide) wd_aint 13 (by decide) (by decide) ⟨(Nat.le_of_ble_eq_true rfl), (Nat.le_of_ble_eq_true rfl)⟩ dX7_init_42 (fun F_21 g_22 a_23 eF_21 eg_22 ea_23 => ?_)
  have h := h F_21 g_22 a_23 eF_21 eg_22 ea_23
  obtain ⟨s_24, h⟩ := h
  refine sv_putRF (pc := 44) G fw_X7_22 NM (by intro C T h; cases h; rfl) s_24 rfl dX7_init_44 (fun F_25 eF_25 => ?_)
  have h := h F_25 eF_25
  refine sv_aload_n (pc := 47) G dX7_init_47 0 rfl ?_
  refine sv_bipush (pc := 48) G dX7_init_48 71 bp_71 ?_
  refine sv_newa (cs := 5) (sl := 4352) (t := 10) (atype := .int) (pc := 50) G RR 0 (by decide) (by decide) (fun _ => rfl) (fun _ _ h => h) rfl (by decide) wd_aint 71 (by decide) (by decide) ⟨(Nat.le_of_ble_eq_true rfl), (Nat.le_of_ble_eq_true rfl)⟩ dX7_init_50 (fun F_26 g_27 a_28 eF_26 eg_27 ea_28 => ?_)
  have h := h F_26 g_27 a_28 eF_26 eg_27 ea_28
  obtain ⟨s_29, h⟩ := h
  refine sv_putRF (pc := 52) G fw_X7_25 NM (by intro C T h; cases h; rfl) s_29 rfl dX7_init_52 (fun F_30 eF_30 => ?_)
  have h := h F_30 eF_30
  refine sv_aload_n (pc := 55) G dX7_init_55 0 rfl ?_
  refine sv_bipush (pc := 56) G dX7_init_56 96 bp_96 ?_
  refine sv_newa (cs := 6) (sl := 4423) (t := 10) (atype := .int) (pc := 58) G RR 0 (by decide) (by decide) (fun _ => rfl) (fun _ _ h => h) rfl (by decide) wd_aint 96 (by decide) (by decide) ⟨(Nat.le_of_ble_eq_true rfl), (Nat.le_of_ble_eq_true rfl)⟩ dX7_init_58 (fun F_31 g_32 a_33 eF_31 eg_32 ea_33 => ?_)
  have h := h F_31 g_32 a_33 eF_31 eg_32 ea_33
  obtain ⟨s_34, h⟩ := h
  refine sv_putRF (pc := 60) G fw_X7_28 NM (by intro C T h; cases h; rfl) s_34 rfl dX7_init_60 (fun F_35 eF_35 => ?_)
  have h := h F_35 eF_35
  refine sv_aload_n (pc := 63) G dX7_init_63 0 rfl ?_
  refine sv_bipush (pc := 64) G dX7_init_64 11 bp_11 ?_
  refine sv_newa (cs := 7) (sl := 4519) (t := 11) (atype := .char) (pc := 66) G RR 1 (by decide) (by decide) (fun _ => rfl) (fun _ _ h => h) rfl (by decide) wd_achar 11 (by decide) (by decide) ⟨(Nat.le_of_ble_eq_true rfl), (Nat.le_of_ble_eq_true rfl)⟩ dX7_init_66 (fun F_36 g_37 a_38 eF_36 eg_37 ea_38 => ?_)
  have h := h F_36 g_37 a_38 eF_36 eg_37 ea_38
  refine sv_dup (pc := 68) G dX7_init_68 rfl ?_
  refine sv_iconst (pc := 69) G dX7_init_69 0 ic_0 ?_
  refine sv_bipush (pc := 70) G dX7_init_70 115 bp_115 ?_
  obtain ⟨s_39, h⟩ := h
  refine sv_castK (pc := 72) G s_39 vi_0_11 (by decide) 0 tn_0 dX7_init_72 (fun g_40 eg_40 => ?_)
  have h := h g_40 eg_40
  refine sv_dup (pc := 73) G dX7_init_73 rfl ?_
  refine sv_iconst (pc := 74) G dX7_init_74 1 ic_1 ?_
  refine sv_bipush (pc := 75) G dX7_init_75 119 bp_119 ?_
  obtain ⟨s_41, h⟩ := h
  refine sv_castK (pc := 77) G s_41 vi_1_11 (by decide) 1 tn_1 dX7_init_77 (fun g_42 eg_42 => ?_)
  have h := h g_42 eg_42
  refine sv_dup (pc := 78) G dX7_init_78 rfl ?_
  refine sv_iconst (pc := 79) G dX7_init_79 2 ic_2 ?_
  refine sv_bipush (pc := 80) G dX7_init_80 97 bp_97 ?_
  obtain ⟨s_43, h⟩ := h
  refine sv_castK (pc := 82) G s_43 vi_2_11 (by decide) 2 tn_2 dX7_init_82 (fun g_44 eg_44 => ?_)
  have h := h g_44 eg_44
  refine sv_dup (pc := 83) G dX7_init_83 rfl ?_
  refine sv_iconst (pc := 84) G dX7_init_84 3 ic_3 ?_
  refine sv_bipush (pc := 85) G dX7_init_85 121 bp_121 ?_
  obtain ⟨s_45, h⟩ := h
  refine sv_castK (pc := 87) G s_45 vi_3_11 (by decide) 3 tn_3 dX7_init_87 (fun g_46 eg_46 => ?_)
  have h := h g_46 eg_46
  refine sv_dup (pc := 88) G dX7_init_88 rfl ?_
  refine sv_iconst (pc := 89) G dX7_init_89 4 ic_4 ?_
  refine sv_bipush (pc := 90) G dX7_init_90 102 bp_102 ?_
  obtain ⟨s_47, h⟩ := h
  refine sv_castK (pc := 92) G s_47 vi_4_11 (by decide) 4 tn_4 dX7_init_92 (fun g_48 eg_48 => ?_)
  have h := h g_48 eg_48
  refine sv_dup (pc := 93) G dX7_init_93 rfl ?_
  refine sv_iconst (pc := 94) G dX7_init_94 5 ic_5 ?_
  refine sv_bipush (pc := 95) G dX7_init_95 101 bp_101 ?_
  obtain ⟨s_49, h⟩ := h
  refine sv_castK (pc := 97) G s_49 vi_5_11 (by decide) 5 tn_5 dX7_init_97 (fun g_50 eg_50 => ?_)
  have h := h g_50 eg_50
  refine sv_dup (pc := 98) G dX7_init_98 rfl ?_
  refine sv_bipush (pc := 99) G dX7_init_99 6 bp_6 ?_
  refine sv_bipush (pc := 101) G dX7_init_101 101 bp_101 ?_
  obtain ⟨s_51, h⟩ := h
  refine sv_castK (pc := 103) G s_51 vi_6_11 (by decide) 6 tn_6 dX7_init_103 (fun g_52 eg_52 => ?_)
  have h := h g_52 eg_52
  refine sv_dup (pc := 104) G dX7_init_104 rfl ?_
  refine sv_bipush (pc := 105) G dX7_init_105 7 bp_7 ?_
  refine sv_bipush (pc := 107) G dX7_init_107 102 bp_102 ?_
  obtain ⟨s_53, h⟩ := h
  refine sv_castK (pc := 109) G s_53 vi_7_11 (by decide) 7 tn_7 dX7_init_109 (fun g_54 eg_54 => ?_)
  have h := h g_54 eg_54
  refine sv_dup (pc := 110) G dX7_init_110 rfl ?_
  refine sv_bipush (pc := 111) G dX7_init_111 8 bp_8 ?_
  refine sv_bipush (pc := 113) G dX7_init_113 105 bp_105 ?_
  obtain ⟨s_55, h⟩ := h
  refine sv_castK (pc := 115) G s_55 vi_8_11 (by decide) 8 tn_8 dX7_init_115 (fun g_56 eg_56 => ?_)
  have h := h g_56 eg_56
  refine sv_dup (pc := 116) G dX7_init_116 rfl ?_
  refine sv_bipush (pc := 117) G dX7_init_117 9 bp_9 ?_
  refine sv_bipush (pc := 119) G dX7_init_119 110 bp_110 ?_
  obtain ⟨s_57, h⟩ := h
  refine sv_castK (pc := 121) G s_57 vi_9_11 (by decide) 9 tn_9 dX7_init_121 (fun g_58 eg_58 => ?_)
  have h := h g_58 eg_58
  refine sv_dup (pc := 122) G dX7_init_122 rfl ?_
  refine sv_bipush (pc := 123) G dX7_init_123 10 bp_10 ?_
  refine sv_bipush (pc := 125) G dX7_init_125 101 bp_101 ?_
  obtain ⟨s_59, h⟩ := h
  refine sv_castK (pc := 127) G s_59 vi_10_11 (by decide) 10 tn_10 dX7_init_127 (fun g_60 eg_60 => ?_)
  have h := h g_60 eg_60
  obtain ⟨s_61, h⟩ := h
  refine sv_putRF (pc := 128) G fw_X7_31 NM (by intro C T h; cases h; rfl) s_61 rfl dX7_init_128 (fun F_62 eF_62 => ?_)
  have h := h F_62 eF_62
  refine sv_aload_n (pc := 131) G dX7_init_131 0 rfl ?_
  refine sv_iconst (pc := 132) G dX7_init_132 4 ic_4 ?_
  refine sv_newa (cs := 8) (sl := 4530) (t := 10) (atype := .int) (pc := 133) G RR 0 (by decide) (by decide) (fun _ => rfl) (fun _ _ h => h) rfl (by decide) wd_aint 4 (by decide) (by decide) ⟨(Nat.le_of_ble_eq_true rfl), (Nat.le_of_ble_eq_true rfl)⟩ dX7_init_133 (fun F_63 g_64 a_65 eF_63 eg_64 ea_65 => ?_)
  have h := h F_63 g_64 a_65 eF_63 eg_64 ea_65
  refine sv_dup (pc := 135) G dX7_init_135 rfl ?_
  refine sv_iconst (pc := 136) G dX7_init_136 0 ic_0 ?_
  refine sv_iconst (pc := 137) G dX7_init_137 0 ic_0 ?_
  obtain ⟨s_66, h⟩ := h
  refine sv_iastK (pc := 138) G s_66 vi_0_4 0 tn_0 dX7_init_138 (fun g_67 eg_67 => ?_)
  have h := h g_67 eg_67
  refine sv_dup (pc := 139) G dX7_init_139 rfl ?_
  refine sv_iconst (pc := 140) G dX7_init_140 1 ic_1 ?_
  refine sv_iconst (pc := 141) G dX7_init_141 4 ic_4 ?_
  obtain ⟨s_68, h⟩ := h
  refine sv_iastK (pc := 142) G s_68 vi_1_4 1 tn_1 dX7_init_142 (fun g_69 eg_69 => ?_)
  have h := h g_69 eg_69
  refine sv_dup (pc := 143) G dX7_init_143 rfl ?_
  refine sv_iconst (pc := 144) G dX7_init_144 2 ic_2 ?_
  refine sv_bipush (pc := 145) G dX7_init_145 7 bp_7 ?_
  obtain ⟨s_70, h⟩ := h
  refine sv_iastK (pc := 147) G s_70 vi_2_4 2 tn_2 dX7_init_147 (fun g_71 eg_71 => ?_)
  have h := h g_71 eg_71
  refine sv_dup (pc := 148) G dX7_init_148 rfl ?_
  refine sv_iconst (pc := 149) G dX7_init_149 3 ic_3 ?_
  refine sv_bipush (pc := 150) G dX7_init_150 11 bp_11 ?_
  obtain ⟨s_72, h⟩ := h
  refine sv_iastK (pc := 152) G s_72 vi_3_4 3 tn_3 dX7_init_152 (fun g_73 eg_73 => ?_)
  have h := h g_73 eg_73
  obtain ⟨s_74, h⟩ := h
  refine sv_putRF (pc := 153) G fw_X7_35 NM (by intro C T h; cases h; rfl) s_74 rfl dX7_init_153 (fun F_75 eF_75 => ?_)
  have h := h F_75 eF_75
  refine sv_aload_n (pc := 156) G dX7_init_156 0 rfl ?_
  refine sv_bipush (pc := 157) G dX7_init_157 96 bp_96 ?_
  refine sv_newa (cs := 9) (sl := 4534) (t := 10) (atype := .int) (pc := 159) G RR 0 (by decide) (by decide) (fun _ => rfl) (fun _ _ h => h) rfl (by decide) wd_aint 96 (by decide) (by decide) ⟨(Nat.le_of_ble_eq_true rfl), (Nat.le_of_ble_eq_true rfl)⟩ dX7_init_159 (fun F_76 g_77 a_78 eF_76 eg_77 ea_78 => ?_)
  have h := h F_76 g_77 a_78 eF_76 eg_77 ea_78
  obtain ⟨s_79, h⟩ := h
  refine sv_putRF (pc := 161) G fw_X7_38 NM (by intro C T h; cases h; rfl) s_79 rfl dX7_init_161 (fun F_80 eF_80 => ?_)
  have h := h F_80 eF_80
  refine sv_aload_n (pc := 164) G dX7_init_164 0 rfl ?_
  refine sv_bipush (pc := 165) G dX7_init_165 96 bp_96 ?_
  refine sv_newa (cs := 10) (sl := 4630) (t := 10) (atype := .int) (pc := 167) G RR 0 (by decide) (by decide) (fun _ => rfl) (fun _ _ h => h) rfl (by decide) wd_aint 96 (by decide) (by decide) ⟨(Nat.le_of_ble_eq_true rfl), (Nat.le_of_ble_eq_true rfl)⟩ dX7_init_167 (fun F_81 g_82 a_83 eF_81 eg_82 ea_83 => ?_)
  have h := h F_81 g_82 a_83 eF_81 eg_82 ea_83
  obtain ⟨s_84, h⟩ := h
  refine sv_putRF (pc := 169) G fw_X7_41 NM (by intro C T h; cases h; rfl) s_84 rfl dX7_init_169 (fun F_85 eF_85 => ?_)
  have h := h F_85 eF_85
  refine sv_aload_n (pc := 172) G dX7_init_172 0 rfl ?_
  refine sv_bipush (pc := 173) G dX7_init_173 10 bp_10 ?_
  refine sv_newa (cs := 11) (sl := 4726) (t := 12) (atype := .boolean) (pc := 175) G RR 2 (by decide) (by decide) (fun _ => rfl) (fun _ _ h => h) rfl (by decide) wd_aboolean 10 (by decide) (by decide) ⟨(Nat.le_of_ble_eq_true rfl), (Nat.le_of_ble_eq_true rfl)⟩ dX7_init_175 (fun F_86 g_87 a_88 eF_86 eg_87 ea_88 => ?_)
  have h := h F_86 g_87 a_88 eF_86 eg_87 ea_88
  obtain ⟨s_89, h⟩ := h
  refine sv_putRF (pc := 177) G fw_X7_44 NM (by intro C T h; cases h; rfl) s_89 rfl dX7_init_177 (fun F_90 eF_90 => ?_)
  have h := h F_90 eF_90
  refine sv_aload_n (pc := 180) G dX7_init_180 0 rfl ?_
  refine sv_bipush (pc := 181) G dX7_init_181 96 bp_96 ?_
  refine sv_newa (cs := 12) (sl := 4736) (t := 10) (atype := .int) (pc := 183) G RR 0 (by decide) (by decide) (fun _ => rfl) (fun _ _ h => h) rfl (by decide) wd_aint 96 (by decide) (by decide) ⟨(Nat.le_of_ble_eq_true rfl), (Nat.le_of_ble_eq_true rfl)⟩ dX7_init_183 (fun F_91 g_92 a_93 eF_91 eg_92 ea_93 => ?_)
  have h := h F_91 g_92 a_93 eF_91 eg_92 ea_93
  obtain ⟨s_94, h⟩ := h
  refine sv_putRF (pc := 185) G fw_X7_48 NM (by intro C T h; cases h; rfl) s_94 rfl dX7_init_185 (fun F_95 eF_95 => ?_)
  have h := h F_95 eF_95
  refine sv_aload_n (pc := 188) G dX7_init_188 0 rfl ?_
  refine sv_iconst (pc := 189) G dX7_init_189 4 ic_4 ?_
  refine sv_newa (cs := 13) (sl := 4832) (t := 10) (atype := .int) (pc := 190) G RR 0 (by decide) (by decide) (fun _ => rfl) (fun _ _ h => h) rfl (by decide) wd_aint 4 (by decide) (by decide) ⟨(Nat.le_of_ble_eq_true rfl), (Nat.le_of_ble_eq_true rfl)⟩ dX7_init_190 (fun F_96 g_97 a_98 eF_96 eg_97 ea_98 => ?_)
  have h := h F_96 g_97 a_98 eF_96 eg_97 ea_98
  obtain ⟨s_99, h⟩ := h
  refine sv_putRF (pc := 192) G fw_X7_51 NM (by intro C T h; cases h; rfl) s_99 rfl dX7_init_192 (fun F_100 eF_100 => ?_)
  have h := h F_100 eF_100
  refine sv_aload_n (pc := 195) G dX7_init_195 0 rfl ?_
  refine sv_iconst (pc := 196) G dX7_init_196 4 ic_4 ?_
  refine sv_newa (cs := 14) (sl := 4836) (t := 10) (atype := .int) (pc := 197) G RR 0 (by decide) (by decide) (fun _ => rfl) (fun _ _ h => h) rfl (by decide) wd_aint 4 (by decide) (by decide) ⟨(Nat.le_of_ble_eq_true rfl), (Nat.le_of_ble_eq_true rfl)⟩ dX7_init_197 (fun F_101 g_102 a_103 eF_101 eg_102 ea_103 => ?_)
  have h := h F_101 g_102 a_103 eF_101 eg_102 ea_103
  refine sv_dup (pc := 199) G dX7_init_199 rfl ?_
  refine sv_iconst (pc := 200) G dX7_init_200 0 ic_0 ?_
  refine sv_iconst (pc := 201) G dX7_init_201 (-1) ic_m1 ?_
  obtain ⟨s_104, h⟩ := h
  refine sv_iastK (pc := 202) G s_104 vi_0_4 0 tn_0 dX7_init_202 (fun g_105 eg_105 => ?_)
  have h := h g_105 eg_105
  refine sv_dup (pc := 203) G dX7_init_203 rfl ?_
  refine sv_iconst (pc := 204) G dX7_init_204 1 ic_1 ?_
  refine sv_iconst (pc := 205) G dX7_init_205 (-1) ic_m1 ?_
  obtain ⟨s_106, h⟩ := h
  refine sv_iastK (pc := 206) G s_106 vi_1_4 1 tn_1 dX7_init_206 (fun g_107 eg_107 => ?_)
  have h := h g_107 eg_107
  refine sv_dup (pc := 207) G dX7_init_207 rfl ?_
  refine sv_iconst (pc := 208) G dX7_init_208 2 ic_2 ?_
  refine sv_iconst (pc := 209) G dX7_init_209 (-1) ic_m1 ?_
  obtain ⟨s_108, h⟩ := h
  refine sv_iastK (pc := 210) G s_108 vi_2_4 2 tn_2 dX7_init_210 (fun g_109 eg_109 => ?_)
  have h := h g_109 eg_109
  refine sv_dup (pc := 211) G dX7_init_211 rfl ?_
  refine sv_iconst (pc := 212) G dX7_init_212 3 ic_3 ?_
  refine sv_iconst (pc := 213) G dX7_init_213 (-1) ic_m1 ?_
  obtain ⟨s_110, h⟩ := h
  refine sv_iastK (pc := 214) G s_110 vi_3_4 3 tn_3 dX7_init_214 (fun g_111 eg_111 => ?_)
  have h := h g_111 eg_111
  obtain ⟨s_112, h⟩ := h
  refine sv_putRF (pc := 215) G fw_X7_54 NM (by intro C T h; cases h; rfl) s_112 rfl dX7_init_215 (fun F_113 eF_113 => ?_)
  have h := h F_113 eF_113
  refine sv_aload_n (pc := 218) G dX7_init_218 0 rfl ?_
  refine sv_iconst (pc := 219) G dX7_init_219 4 ic_4 ?_
  refine sv_newa (cs := 15) (sl := 4840) (t := 10) (atype := .int) (pc := 220) G RR 0 (by decide) (by decide) (fun _ => rfl) (fun _ _ h => h) rfl (by decide) wd_aint 4 (by decide) (by decide) ⟨(Nat.le_of_ble_eq_true rfl), (Nat.le_of_ble_eq_true rfl)⟩ dX7_init_220 (fun F_114 g_115 a_116 eF_114 eg_115 ea_116 => ?_)
  have h := h F_114 g_115 a_116 eF_114 eg_115 ea_116
  obtain ⟨s_117, h⟩ := h
  refine sv_putRF (pc := 222) G fw_X7_57 NM (by intro C T h; cases h; rfl) s_117 rfl dX7_init_222 (fun F_118 eF_118 => ?_)
  have h := h F_118 eF_118
  refine sv_aload_n (pc := 225) G dX7_init_225 0 rfl ?_
  refine sv_bipush (pc := 226) G dX7_init_226 96 bp_96 ?_
  refine sv_newa (cs := 16) (sl := 4844) (t := 10) (atype := .int) (pc := 228) G RR 0 (by decide) (by decide) (fun _ => rfl) (fun _ _ h => h) rfl (by decide) wd_aint 96 (by decide) (by decide) ⟨(Nat.le_of_ble_eq_true rfl), (Nat.le_of_ble_eq_true rfl)⟩ dX7_init_228 (fun F_119 g_120 a_121 eF_119 eg_120 ea_121 => ?_)
  have h := h F_119 g_120 a_121 eF_119 eg_120 ea_121
  obtain ⟨s_122, h⟩ := h
  refine sv_putRF (pc := 230) G fw_X7_60 NM (by intro C T h; cases h; rfl) s_122 rfl dX7_init_230 (fun F_123 eF_123 => ?_)
  have h := h F_123 eF_123
  refine sv_aload_n (pc := 233) G dX7_init_233 0 rfl ?_
  refine sv_iconst (pc := 234) G dX7_init_234 5 ic_5 ?_
  refine sv_newa (cs := 17) (sl := 4940) (t := 10) (atype := .int) (pc := 235) G RR 0 (by decide) (by decide) (fun _ => rfl) (fun _ _ h => h) rfl (by decide) wd_aint 5 (by decide) (by decide) ⟨(Nat.le_of_ble_eq_true rfl), (Nat.le_of_ble_eq_true rfl)⟩ dX7_init_235 (fun F_124 g_125 a_126 eF_124 eg_125 ea_126 => ?_)
  have h := h F_124 g_125 a_126 eF_124 eg_125 ea_126
  obtain ⟨s_127, h⟩ := h
  refine sv_putRF (pc := 237) G fw_X7_63 NM (by intro C T h; cases h; rfl) s_127 rfl dX7_init_237 (fun F_128 eF_128 => ?_)
  have h := h F_128 eF_128
  refine sv_aload_n (pc := 240) G dX7_init_240 0 rfl ?_
  refine sv_iconst (pc := 241) G dX7_init_241 5 ic_5 ?_
  refine sv_newa (cs := 18) (sl := 4945) (t := 10) (atype := .int) (pc := 242) G RR 0 (by decide) (by decide) (fun _ => rfl) (fun _ _ h => h) rfl (by decide) wd_aint 5 (by decide) (by decide) ⟨(Nat.le_of_ble_eq_true rfl), (Nat.le_of_ble_eq_true rfl)⟩ dX7_init_242 (fun F_129 g_130 a_131 eF_129 eg_130 ea_131 => ?_)
  have h := h F_129 g_130 a_131 eF_129 eg_130 ea_131
  obtain ⟨s_132, h⟩ := h
  refine sv_putRF (pc := 244) G fw_X7_66 NM (by intro C T h; cases h; rfl) s_132 rfl dX7_init_244 (fun F_133 eF_133 => ?_)
  have h := h F_133 eF_133
  refine sv_aload_n (pc := 247) G dX7_init_247 0 rfl ?_
  refine sv_iconst (pc := 248) G dX7_init_248 5 ic_5 ?_
  refine sv_newa (cs := 19) (sl := 4950) (t := 10) (atype := .int) (pc := 249) G RR 0 (by decide) (by decide) (fun _ => rfl) (fun _ _ h => h) rfl (by decide) wd_aint 5 (by decide) (by decide) ⟨(Nat.le_of_ble_eq_true rfl), (Nat.le_of_ble_eq_true rfl)⟩ dX7_init_249 (fun F_134 g_135 a_136 eF_134 eg_135 ea_136 => ?_)
  have h := h F_134 g_135 a_136 eF_134 eg_135 ea_136
  obtain ⟨s_137, h⟩ := h
  refine sv_putRF (pc := 251) G fw_X7_69 NM (by intro C T h; cases h; rfl) s_137 rfl dX7_init_251 (fun F_138 eF_138 => ?_)
  have h := h F_138 eF_138
  refine sv_aload_n (pc := 254) G dX7_init_254 0 rfl ?_
  refine sv_bipush (pc := 255) G dX7_init_255 120 bp_120 ?_
  refine sv_newa (cs := 20) (sl := 4955) (t := 10) (atype := .int) (pc := 257) G RR 0 (by decide) (by decide) (fun _ => rfl) (fun _ _ h => h) rfl (by decide) wd_aint 120 (by decide) (by decide) ⟨(Nat.le_of_ble_eq_true rfl), (Nat.le_of_ble_eq_true rfl)⟩ dX7_init_257 (fun F_139 g_140 a_141 eF_139 eg_140 ea_141 => ?_)
  have h := h F_139 g_140 a_141 eF_139 eg_140 ea_141
  obtain ⟨s_142, h⟩ := h
  refine sv_putRF (pc := 259) G fw_X7_72 NM (by intro C T h; cases h; rfl) s_142 rfl dX7_init_259 (fun F_143 eF_143 => ?_)
  have h := h F_143 eF_143
  refine sv_aload_n (pc := 262) G dX7_init_262 0 rfl ?_
  refine sv_bipush (pc := 263) G dX7_init_263 24 bp_24 ?_
  refine sv_newa (cs := 21) (sl := 5075) (t := 10) (atype := .int) (pc := 265) G RR 0 (by decide) (by decide) (fun _ => rfl) (fun _ _ h => h) rfl (by decide) wd_aint 24 (by decide) (by decide) ⟨(Nat.le_of_ble_eq_true rfl), (Nat.le_of_ble_eq_true rfl)⟩ dX7_init_265 (fun F_144 g_145 a_146 eF_144 eg_145 ea_146 => ?_)
  have h := h F_144 g_145 a_146 eF_144 eg_145 ea_146
  obtain ⟨s_147, h⟩ := h
  refine sv_putRF (pc := 267) G fw_X7_75 NM (by intro C T h; cases h; rfl) s_147 rfl dX7_init_267 (fun F_148 eF_148 => ?_)
  have h := h F_148 eF_148
  refine sv_aload_n (pc := 270) G dX7_init_270 0 rfl ?_
  refine sv_bipush (pc := 271) G dX7_init_271 60 bp_60 ?_
  refine sv_newa (cs := 22) (sl := 5099) (t := 10) (atype := .int) (pc := 273) G RR 0 (by decide) (by decide) (fun _ => rfl) (fun _ _ h => h) rfl (by decide) wd_aint 60 (by decide) (by decide) ⟨(Nat.le_of_ble_eq_true rfl), (Nat.le_of_ble_eq_true rfl)⟩ dX7_init_273 (fun F_149 g_150 a_151 eF_149 eg_150 ea_151 => ?_)
  have h := h F_149 g_150 a_151 eF_149 eg_150 ea_151
  obtain ⟨s_152, h⟩ := h
  refine sv_putRF (pc := 275) G fw_X7_78 NM (by intro C T h; cases h; rfl) s_152 rfl dX7_init_275 (fun F_153 eF_153 => ?_)
  have h := h F_153 eF_153
  refine sv_aload_n (pc := 278) G dX7_init_278 0 rfl ?_
  obtain ⟨s_154, h⟩ := h
  obtain ⟨s_155, h⟩ := h
  refine sv_getR (pc := 279) G fw_X7_9 s_154 rfl s_155 dX7_init_279 ?_
  refine sv_iconst (pc := 282) G dX7_init_282 0 ic_0 ?_
  refine sv_iconst (pc := 283) G dX7_init_283 1 ic_1 ?_
  obtain ⟨s_156, h⟩ := h
  refine sv_iastK (pc := 284) G s_156 vi_0_1443 0 tn_0 dX7_init_284 (fun g_157 eg_157 => ?_)
  have h := h g_157 eg_157
  refine sv_aload_n (pc := 285) G dX7_init_285 0 rfl ?_
  obtain ⟨s_158, h⟩ := h
  obtain ⟨s_159, h⟩ := h
  refine sv_getR (pc := 286) G fw_X7_9 s_158 rfl s_159 dX7_init_286 ?_
  refine sv_iconst (pc := 289) G dX7_init_289 5 ic_5 ?_
  refine sv_bipush (pc := 290) G dX7_init_290 50 bp_50 ?_
  obtain ⟨s_160, h⟩ := h
  refine sv_iastK (pc := 292) G s_160 vi_5_1443 5 tn_5 dX7_init_292 (fun g_161 eg_161 => ?_)
  have h := h g_161 eg_161
  refine sv_aload_n (pc := 293) G dX7_init_293 0 rfl ?_
  obtain ⟨s_162, h⟩ := h
  obtain ⟨s_163, h⟩ := h
  refine sv_getR (pc := 294) G fw_X7_9 s_162 rfl s_163 dX7_init_294 ?_
  refine sv_bipush (pc := 297) G dX7_init_297 6 bp_6 ?_
  refine sv_bipush (pc := 299) G dX7_init_299 10 bp_10 ?_
  obtain ⟨s_164, h⟩ := h
  refine sv_iastK (pc := 301) G s_164 vi_6_1443 6 tn_6 dX7_init_301 (fun g_165 eg_165 => ?_)
  have h := h g_165 eg_165
  refine sv_aload_n (pc := 302) G dX7_init_302 0 rfl ?_
  obtain ⟨s_166, h⟩ := h
  obtain ⟨s_167, h⟩ := h
  refine sv_getR (pc := 303) G fw_X7_9 s_166 rfl s_167 dX7_init_303 ?_
  refine sv_bipush (pc := 306) G dX7_init_306 7 bp_7 ?_
  refine sv_iconst (pc := 308) G dX7_init_308 (-1) ic_m1 ?_
  obtain ⟨s_168, h⟩ := h
  refine sv_iastK (pc := 309) G s_168 vi_7_1443 7 tn_7 dX7_init_309 (fun g_169 eg_169 => ?_)
  have h := h g_169 eg_169
  refine sv_aload_n (pc := 310) G dX7_init_310 0 rfl ?_
  obtain ⟨s_170, h⟩ := h
  obtain ⟨s_171, h⟩ := h
  refine sv_getR (pc := 311) G fw_X7_9 s_170 rfl s_171 dX7_init_311 ?_
  refine sv_bipush (pc := 314) G dX7_init_314 8 bp_8 ?_
  refine sv_iconst (pc := 316) G dX7_init_316 3 ic_3 ?_
  obtain ⟨s_172, h⟩ := h
  refine sv_iastK (pc := 317) G s_172 vi_8_1443 8 tn_8 dX7_init_317 (fun g_173 eg_173 => ?_)
  have h := h g_173 eg_173
  exact sv_vreturn (cs := 23) (sl := 5159) (pc := 318) G T ⟨(Nat.le_of_ble_eq_true rfl), (Nat.le_of_ble_eq_true rfl)⟩ dX7_init_318 ⟨rfl, h⟩
