theorem ic_m1 : Int32.ofInt (-1) = (-1) := by decide
theorem ic_0 : Int32.ofInt 0 = 0 := by decide
theorem ic_1 : Int32.ofInt 1 = 1 := by decide
theorem ic_2 : Int32.ofInt 2 = 2 := by decide
theorem ic_5 : Int32.ofInt 5 = 5 := by decide
theorem bp_8 : (Int8.ofInt 8).toInt32 = 8 := by decide
theorem sp_12345 : (Int16.ofInt 12345).toInt32 = 12345 := by decide
def wp_X6_isWithin (F : sv_Fr) (v0 : Int32) (v1 : Int32) (v2 : Int32) (g : sv_Mg) (Q : Int32 → sv_Mg → Prop) : Prop := ((v0 < v1 → Q 0 g) ∧ (¬ v0 < v1 → ((v2 < v0 → Q 0 g) ∧ (¬ v2 < v0 → Q 1 g))))
set_option maxRecDepth 100000 in
set_option maxHeartbeats 4000000 in
theorem c_X6_isWithin {b : Nat} {xt : sv_Xt} {F : sv_Fr} {v0 : Int32} {v1 : Int32} {v2 : Int32} {g : sv_Mg} {Q : Int32 → sv_Mg → Prop} (hL : sv_Lay F) (h : wp_X6_isWithin F v0 v1 v2 g Q) : sv_Cal yX6_isWithin cX6_isWithin 3 (some .boolean) 0 0 0 0 b xt [.int v0, .int v1, .int v2] F g (sv_qI F Q) := by
  refine sv_intro mw_X6_isWithin [(0, .int v0), (1, .int v1), (2, .int v2)] rfl (Nat.le_of_ble_eq_true rfl) (fun x G RR T NM => ?_)
  have G : sv_G x b xt RX6 cX6_isWithin 3 := G
  unfold wp_X6_isWithin at h
  refine sv_iload_n (pc := 0) G dX6_isWithin_0 0 rfl ?_
  refine sv_iload_n (pc := 1) G dX6_isWithin_1 1 rfl ?_
  refine sv_ic_lt (pc := 2) G 14 (by decide) dX6_isWithin_2 (fun c_1 => ?_) (fun c_1 => ?_)
  · have h := h.1 c_1
    refine sv_iconst (pc := 14) G dX6_isWithin_14 0 ic_0 ?_
    exact sv_zreturn (pc := 15) G T (Or.inl rfl) ⟨(Nat.le_of_ble_eq_true rfl), (Nat.le_of_ble_eq_true rfl)⟩ dX6_isWithin_15 ⟨_, rfl, rfl, h⟩
  · have h := h.2 c_1
    refine sv_iload_n (pc := 5) G dX6_isWithin_5 0 rfl ?_
    refine sv_iload_n (pc := 6) G dX6_isWithin_6 2 rfl ?_
    refine sv_ic_gt (pc := 7) G 14 (by decide) dX6_isWithin_7 (fun c_2 => ?_) (fun c_2 => ?_)
    · have h := h.1 c_2
      refine sv_iconst (pc := 14) G dX6_isWithin_14 0 ic_0 ?_
      exact sv_zreturn (pc := 15) G T (Or.inl rfl) ⟨(Nat.le_of_ble_eq_true rfl), (Nat.le_of_ble_eq_true rfl)⟩ dX6_isWithin_15 ⟨_, rfl, rfl, h⟩
    · have h := h.2 c_2
      refine sv_iconst (pc := 10) G dX6_isWithin_10 1 ic_1 ?_
      refine sv_goto (pc := 11) G dX6_isWithin_11 15 (by decide) ?_
      exact sv_zreturn (pc := 15) G T (Or.inr rfl) ⟨(Nat.le_of_ble_eq_true rfl), (Nat.le_of_ble_eq_true rfl)⟩ dX6_isWithin_15 ⟨_, rfl, rfl, h⟩
def wp_X6_weight (F : sv_Fr) (v0 : Int32) (g : sv_Mg) (Q : Int32 → sv_Mg → Prop) : Prop := ((v0 = 5 → Q 2 g) ∧ (¬ v0 = 5 → Q 1 g))
set_option maxRecDepth 100000 in
set_option maxHeartbeats 4000000 in
theorem c_X6_weight {b : Nat} {xt : sv_Xt} {F : sv_Fr} {v0 : Int32} {g : sv_Mg} {Q : Int32 → sv_Mg → Prop} (hL : sv_Lay F) (h : wp_X6_weight F v0 g Q) : sv_Cal yX6_weight cX6_weight 1 (some .int) 0 0 0 0 b xt [.int v0] F g (sv_qI F Q) := by
  refine sv_intro mw_X6_weight [(0, .int v0)] rfl (Nat.le_of_ble_eq_true rfl) (fun x G RR T NM => ?_)
  have G : sv_G x b xt RX6 cX6_weight 1 := G
  unfold wp_X6_weight at h
  refine sv_iload_n (pc := 0) G dX6_weight_0 0 rfl ?_
  refine sv_iconst (pc := 1) G dX6_weight_1 5 ic_5 ?_
  refine sv_ic_ne (pc := 2) G 9 (by decide) dX6_weight_2 (fun c_1 => ?_) (fun c_1 => ?_)
  · have h := h.2 c_1
    refine sv_iconst (pc := 9) G dX6_weight_9 1 ic_1 ?_
    exact sv_ireturn (pc := 10) G T ⟨(Nat.le_of_ble_eq_true rfl), (Nat.le_of_ble_eq_true rfl)⟩ dX6_weight_10 ⟨_, rfl, rfl, h⟩
  · have h := h.1 c_1
    refine sv_iconst (pc := 5) G dX6_weight_5 2 ic_2 ?_
    refine sv_goto (pc := 6) G dX6_weight_6 10 (by decide) ?_
    exact sv_ireturn (pc := 10) G T ⟨(Nat.le_of_ble_eq_true rfl), (Nat.le_of_ble_eq_true rfl)⟩ dX6_weight_10 ⟨_, rfl, rfl, h⟩
def wp_J7_fill_53178_5 (F : sv_Fr) (a0 : Nat) (n0 : Nat) (Q : sv_Mg → Prop) : Nat → Int32 → Int32 → Int32 → sv_Mg → Prop
  | 0, _, _, _, _ => False
  | n + 1, v1, v2, v3, g => ((v3 ≤ v2 → Q g) ∧ (¬ v3 ≤ v2 → vp_in v2 n0 ∧ ∀ g_3, g_3 = sv_st g a0 v2.toNatClampNeg v1 → ∀ v2_4 : Int32, v2_4 = v2 + 1 → (wp_J7_fill_53178_5 F a0 n0 Q  n) v1 v2_4 v3 g_3))
def wp_J7_fill_53178 (F : sv_Fr) (a0 : Nat) (n0 : Nat) (v1 : Int32) (g : sv_Mg) (Q : sv_Mg → Prop) : Prop := ∀ v3_5 : Int32, v3_5 = (nI n0) → ∃ n_6, wp_J7_fill_53178_5 F a0 n0 Q  n_6 v1 0 v3_5 g
set_option maxRecDepth 100000 in
set_option maxHeartbeats 4000000 in
theorem aw_J7_fill_53178_5 {x : sv_X} {b : Nat} {xt : sv_Xt} {F : sv_Fr} {a0 : Nat} {n0 : Nat} {Q : sv_Mg → Prop} (G : sv_G x b xt RJ7 cJ7_fill_53178 4) (RR : sv_R x 0 0 0 0) (T : sv_RT x none) (hL : sv_Lay F) (ha0 : F.1[a0]? = some (10, n0)) : ∀ (n : Nat) (v1 : Int32) (v2 : Int32) (v3 : Int32) (g : sv_Mg), wp_J7_fill_53178_5 F a0 n0 Q  n v1 v2 v3 g → sv_AW x (sv_Q x (sv_qV F Q) 0 0) F g 0 0 5 [(0, .ref (b + a0)), (1, .int v1), (2, .int v2), (3, .int v3)] [] := by
  intro n
  induction n with
  | zero => intro v1 v2 v3 g h; exact h.elim
  | succ n ih =>
    intro v1 v2 v3 g h
    rw [wp_J7_fill_53178_5] at h
    refine sv_iload_n (pc := 5) G dJ7_fill_53178_5 2 rfl ?_
    refine sv_iload_n (pc := 6) G dJ7_fill_53178_6 3 rfl ?_
    refine sv_ic_ge (pc := 7) G 20 (by decide) dJ7_fill_53178_7 (fun c_1 => ?_) (fun c_1 => ?_)
    · have h := h.1 c_1
      exact sv_vreturn (pc := 20) G T ⟨(Nat.le_of_ble_eq_true rfl), (Nat.le_of_ble_eq_true rfl)⟩ dJ7_fill_53178_20 ⟨rfl, rfl, h⟩
    · have h := h.2 c_1
      refine sv_aload_n (pc := 10) G dJ7_fill_53178_10 0 rfl ?_
      refine sv_iload_n (pc := 11) G dJ7_fill_53178_11 2 rfl ?_
      refine sv_iload_n (pc := 12) G dJ7_fill_53178_12 1 rfl ?_
      obtain ⟨s_2, h⟩ := h
      refine sv_iastK (pc := 13) G ha0 s_2 v2.toNatClampNeg rfl dJ7_fill_53178_13 (fun g_3 eg_3 => ?_)
      have h := h g_3 eg_3
      obtain ⟨v2_4, ev2_4⟩ : ∃ y : Int32, y = v2 + 1 := ⟨_, rfl⟩
      have h := h v2_4 ev2_4
      refine sv_iinc (pc := 14) G dJ7_fill_53178_14 2 v2_4 [(2, .int v2_4), (0, .ref (b + a0)), (1, .int v1), (3, .int v3)] (by rw [ev2_4, ic_1]) rfl (by decide) rfl ?_
      refine sv_goto (pc := 17) G dJ7_fill_53178_17 5 (by decide) ?_
      refine sv_locs [1, 2, 0, 3] [(0, .ref (b + a0)), (1, .int v1), (2, .int v2_4), (3, .int v3)] rfl ?_
      exact ih v1 v2_4 v3 g_3  h
set_option maxRecDepth 100000 in
set_option maxHeartbeats 4000000 in
theorem c_J7_fill_53178 {b : Nat} {xt : sv_Xt} {F : sv_Fr} {a0 : Nat} {n0 : Nat} {v1 : Int32} {g : sv_Mg} {Q : sv_Mg → Prop} (hL : sv_Lay F) (ha0 : F.1[a0]? = some (10, n0)) (h : wp_J7_fill_53178 F a0 n0 v1 g Q) : sv_Cal yJ7_fill_53178 cJ7_fill_53178 4 none 0 0 0 0 b xt [.ref (b + a0), .int v1] F g (sv_qV F Q) := by
  refine sv_intro mw_J7_fill_53178 [(0, .ref (b + a0)), (1, .int v1)] rfl (Nat.le_of_ble_eq_true rfl) (fun x G RR T NM => ?_)
  have G : sv_G x b xt RJ7 cJ7_fill_53178 4 := G
  unfold wp_J7_fill_53178 at h
  refine sv_iconst (pc := 0) G dJ7_fill_53178_0 0 ic_0 ?_
  refine sv_istore_n (pc := 1) G dJ7_fill_53178_1 [(2, .int 0), (0, .ref (b + a0)), (1, .int v1)] (by decide) rfl ?_
  refine sv_aload_n (pc := 2) G dJ7_fill_53178_2 1 rfl ?_
  refine sv_alen (pc := 3) G ha0 dJ7_fill_53178_3 ?_
  refine sv_topi (fun v3_5 ev3_5 => ?_)
  have h := h v3_5 ev3_5
  refine sv_istore_n (pc := 4) G dJ7_fill_53178_4 [(3, .int v3_5), (2, .int 0), (0, .ref (b + a0)), (1, .int v1)] (by decide) rfl ?_
  refine sv_locs [2, 3, 1, 0] [(0, .ref (b + a0)), (1, .int v1), (2, .int 0), (3, .int v3_5)] rfl ?_
  obtain ⟨n_6, h⟩ := h
  exact aw_J7_fill_53178_5 G RR T hL ha0  n_6 v1 0 v3_5 g  h
def wp_X0_isVoter (F : sv_Fr) (a : Nat) (v1 : Int32) (g : sv_Mg) (Q : Int32 → sv_Mg → Prop) : Prop := ((v1 < 0 → Q 0 g) ∧ (¬ v1 < 0 → (((g a 8) ≤ v1 → Q 0 g) ∧ (¬ (g a 8) ≤ v1 → Q 1 g))))
set_option maxRecDepth 100000 in
set_option maxHeartbeats 4000000 in
theorem c_X0_isVoter {b : Nat} {xt : sv_Xt} {F : sv_Fr} {a : Nat} {v1 : Int32} {g : sv_Mg} {Q : Int32 → sv_Mg → Prop} (hL : sv_Lay F) (ha : sv_isC a) (h : wp_X0_isVoter F a v1 g Q) : sv_Cal yX0_isVoter cX0_isVoter 2 (some .boolean) 0 0 0 0 b xt [.ref (b + a), .int v1] F g (sv_qI F Q) := by
  refine sv_intro mw_X0_isVoter [(0, .ref (b + a)), (1, .int v1)] rfl (Nat.le_of_ble_eq_true rfl) (fun x G RR T NM => ?_)
  have G : sv_G x b xt RX0 cX0_isVoter 2 := G
  unfold wp_X0_isVoter at h
  refine sv_iload_n (pc := 0) G dX0_isVoter_0 1 rfl ?_
  refine sv_if_lt (pc := 1) G 16 (by decide) dX0_isVoter_1 (fun c_1 => ?_) (fun c_1 => ?_)
  · have h := h.1 c_1
    refine sv_iconst (pc := 16) G dX0_isVoter_16 0 ic_0 ?_
    exact sv_zreturn (pc := 17) G T (Or.inl rfl) ⟨(Nat.le_of_ble_eq_true rfl), (Nat.le_of_ble_eq_true rfl)⟩ dX0_isVoter_17 ⟨_, rfl, rfl, h⟩
  · have h := h.2 c_1
    refine sv_iload_n (pc := 4) G dX0_isVoter_4 1 rfl ?_
    refine sv_aload_n (pc := 5) G dX0_isVoter_5 0 rfl ?_
    refine sv_getI (pc := 6) G fw_X0_33 (hL.cS ha) rfl dX0_isVoter_6 ?_
    refine sv_ic_ge (pc := 9) G 16 (by decide) dX0_isVoter_9 (fun c_2 => ?_) (fun c_2 => ?_)
    · have h := h.1 c_2
      refine sv_iconst (pc := 16) G dX0_isVoter_16 0 ic_0 ?_
      exact sv_zreturn (pc := 17) G T (Or.inl rfl) ⟨(Nat.le_of_ble_eq_true rfl), (Nat.le_of_ble_eq_true rfl)⟩ dX0_isVoter_17 ⟨_, rfl, rfl, h⟩
    · have h := h.2 c_2
      refine sv_iconst (pc := 12) G dX0_isVoter_12 1 ic_1 ?_
      refine sv_goto (pc := 13) G dX0_isVoter_13 17 (by decide) ?_
      exact sv_zreturn (pc := 17) G T (Or.inr rfl) ⟨(Nat.le_of_ble_eq_true rfl), (Nat.le_of_ble_eq_true rfl)⟩ dX0_isVoter_17 ⟨_, rfl, rfl, h⟩
def wp_X0_mostAmong_48 (F : sv_Fr) (a : Nat) (Q : Int32 → sv_Mg → Prop) (K7 : Int32 → Int32 → Int32 → Int32 → sv_Mg → Prop) (v1 : Int32) (v2 : Int32) (v3 : Int32) (v4 : Int32) (g : sv_Mg) : Prop := ∀ v4_1 : Int32, v4_1 = v4 + 1 → K7 v1 v2 v3 v4_1 g
def wp_X0_mostAmong_7 (F : sv_Fr) (a : Nat) (Q : Int32 → sv_Mg → Prop) : Nat → Int32 → Int32 → Int32 → Int32 → sv_Mg → Prop
  | 0, _, _, _, _, _ => False
  | n + 1, v1, v2, v3, v4, g => (((g a 8) ≤ v4 → Q v2 g) ∧ (¬ (g a 8) ≤ v4 → ((((v1 >>> (v4 &&& 31)) &&& 1) = 1 → vp_in v4 10 ∧ (((g (a + 7) v4.toNatClampNeg) ≤ v3 → wp_X0_mostAmong_48 F a Q (wp_X0_mostAmong_7 F a Q  n) v1 v2 v3 v4 g) ∧ (¬ (g (a + 7) v4.toNatClampNeg) ≤ v3 → vp_in v4 10 ∧ ∀ v3_7 : Int32, v3_7 = (g (a + 7) v4.toNatClampNeg) → wp_X0_mostAmong_48 F a Q (wp_X0_mostAmong_7 F a Q  n) v1 v4 v3_7 v4 g))) ∧ (¬ ((v1 >>> (v4 &&& 31)) &&& 1) = 1 → wp_X0_mostAmong_48 F a Q (wp_X0_mostAmong_7 F a Q  n) v1 v2 v3 v4 g))))
def wp_X0_mostAmong (F : sv_Fr) (a : Nat) (v1 : Int32) (g : sv_Mg) (Q : Int32 → sv_Mg → Prop) : Prop := ∃ n_8, wp_X0_mostAmong_7 F a Q  n_8 v1 (-1) (-1) 0 g
set_option maxRecDepth 100000 in
set_option maxHeartbeats 4000000 in
theorem aw_X0_mostAmong_48 {x : sv_X} {b : Nat} {xt : sv_Xt} {F : sv_Fr} {a : Nat} {Q : Int32 → sv_Mg → Prop} (G : sv_G x b xt RX0 cX0_mostAmong 5) (RR : sv_R x 0 0 0 0) (T : sv_RT x (some .int)) (hL : sv_Lay F) (ha : sv_isC a) {K7 : Int32 → Int32 → Int32 → Int32 → sv_Mg → Prop} (hK7 : ∀ (v1 : Int32) (v2 : Int32) (v3 : Int32) (v4 : Int32) (g : sv_Mg), K7 v1 v2 v3 v4 g → sv_AW x (sv_Q x (sv_qI F Q) 0 0) F g 0 0 7 [(0, .ref (b + a)), (1, .int v1), (2, .int v2), (3, .int v3), (4, .int v4)] []) : ∀ (v1 : Int32) (v2 : Int32) (v3 : Int32) (v4 : Int32) (g : sv_Mg), wp_X0_mostAmong_48 F a Q K7 v1 v2 v3 v4 g → sv_AW x (sv_Q x (sv_qI F Q) 0 0) F g 0 0 48 [(0, .ref (b + a)), (1, .int v1), (2, .int v2), (3, .int v3), (4, .int v4)] [] := by
  intro v1 v2 v3 v4 g h
  unfold wp_X0_mostAmong_48 at h
  obtain ⟨v4_1, ev4_1⟩ : ∃ y : Int32, y = v4 + 1 := ⟨_, rfl⟩
  have h := h v4_1 ev4_1
  refine sv_iinc (pc := 48) G dX0_mostAmong_48 4 v4_1 [(4, .int v4_1), (0, .ref (b + a)), (1, .int v1), (2, .int v2), (3, .int v3)] (by rw [ev4_1, ic_1]) rfl (by decide) rfl ?_
  refine sv_goto (pc := 51) G dX0_mostAmong_51 7 (by decide) ?_
  refine sv_locs [1, 2, 3, 4, 0] [(0, .ref (b + a)), (1, .int v1), (2, .int v2), (3, .int v3), (4, .int v4_1)] rfl ?_
  exact hK7 v1 v2 v3 v4_1 g  h
set_option maxRecDepth 100000 in
set_option maxHeartbeats 4000000 in
theorem aw_X0_mostAmong_7 {x : sv_X} {b : Nat} {xt : sv_Xt} {F : sv_Fr} {a : Nat} {Q : Int32 → sv_Mg → Prop} (G : sv_G x b xt RX0 cX0_mostAmong 5) (RR : sv_R x 0 0 0 0) (T : sv_RT x (some .int)) (hL : sv_Lay F) (ha : sv_isC a) : ∀ (n : Nat) (v1 : Int32) (v2 : Int32) (v3 : Int32) (v4 : Int32) (g : sv_Mg), wp_X0_mostAmong_7 F a Q  n v1 v2 v3 v4 g → sv_AW x (sv_Q x (sv_qI F Q) 0 0) F g 0 0 7 [(0, .ref (b + a)), (1, .int v1), (2, .int v2), (3, .int v3), (4, .int v4)] [] := by
  intro n
  induction n with
  | zero => intro v1 v2 v3 v4 g h; exact h.elim
  | succ n ih =>
    intro v1 v2 v3 v4 g h
    rw [wp_X0_mostAmong_7] at h
    refine sv_iload (pc := 7) G dX0_mostAmong_7 4 rfl ?_
    refine sv_aload_n (pc := 9) G dX0_mostAmong_9 0 rfl ?_
    refine sv_getI (pc := 10) G fw_X0_33 (hL.cS ha) rfl dX0_mostAmong_10 ?_
    refine sv_ic_ge (pc := 13) G 54 (by decide) dX0_mostAmong_13 (fun c_2 => ?_) (fun c_2 => ?_)
    · have h := h.1 c_2
      refine sv_iload_n (pc := 54) G dX0_mostAmong_54 2 rfl ?_
      exact sv_ireturn (pc := 55) G T ⟨(Nat.le_of_ble_eq_true rfl), (Nat.le_of_ble_eq_true rfl)⟩ dX0_mostAmong_55 ⟨_, rfl, rfl, h⟩
    · have h := h.2 c_2
      refine sv_iload_n (pc := 16) G dX0_mostAmong_16 1 rfl ?_
      refine sv_iload (pc := 17) G dX0_mostAmong_17 4 rfl ?_
      refine sv_ishr (pc := 19) G dX0_mostAmong_19 ?_
      refine sv_iconst (pc := 20) G dX0_mostAmong_20 1 ic_1 ?_
      refine sv_iand (pc := 21) G dX0_mostAmong_21 ?_
      refine sv_iconst (pc := 22) G dX0_mostAmong_22 1 ic_1 ?_
      refine sv_ic_ne (pc := 23) G 48 (by decide) dX0_mostAmong_23 (fun c_3 => ?_) (fun c_3 => ?_)
      · have h := h.2 c_3
        refine sv_locs [0, 1, 2, 3, 4] [(0, .ref (b + a)), (1, .int v1), (2, .int v2), (3, .int v3), (4, .int v4)] rfl ?_
        exact aw_X0_mostAmong_48 G RR T hL ha ih v1 v2 v3 v4 g  h
      · have h := h.1 c_3
        refine sv_aload_n (pc := 26) G dX0_mostAmong_26 0 rfl ?_
        refine sv_getR (pc := 27) G fw_X0_30 (hL.cS ha) rfl (hL.cR7 ha) dX0_mostAmong_27 ?_
        refine sv_iload (pc := 30) G dX0_mostAmong_30 4 rfl ?_
        obtain ⟨s_4, h⟩ := h
        refine sv_ialdK (pc := 32) G (hL.cA7 ha) s_4 v4.toNatClampNeg rfl dX0_mostAmong_32 ?_
        refine sv_iload_n (pc := 33) G dX0_mostAmong_33 3 rfl ?_
        refine sv_ic_le (pc := 34) G 48 (by decide) dX0_mostAmong_34 (fun c_5 => ?_) (fun c_5 => ?_)
        · have h := h.1 c_5
          refine sv_locs [0, 1, 2, 3, 4] [(0, .ref (b + a)), (1, .int v1), (2, .int v2), (3, .int v3), (4, .int v4)] rfl ?_
          exact aw_X0_mostAmong_48 G RR T hL ha ih v1 v2 v3 v4 g  h
        · have h := h.2 c_5
          refine sv_iload (pc := 37) G dX0_mostAmong_37 4 rfl ?_
          refine sv_istore_n (pc := 39) G dX0_mostAmong_39 [(2, .int v4), (0, .ref (b + a)), (1, .int v1), (3, .int v3), (4, .int v4)] (by decide) rfl ?_
          refine sv_aload_n (pc := 40) G dX0_mostAmong_40 1 rfl ?_
          refine sv_getR (pc := 41) G fw_X0_30 (hL.cS ha) rfl (hL.cR7 ha) dX0_mostAmong_41 ?_
          refine sv_iload (pc := 44) G dX0_mostAmong_44 4 rfl ?_
          obtain ⟨s_6, h⟩ := h
          refine sv_ialdK (pc := 46) G (hL.cA7 ha) s_6 v4.toNatClampNeg rfl dX0_mostAmong_46 ?_
          refine sv_topi (fun v3_7 ev3_7 => ?_)
          have h := h v3_7 ev3_7
          refine sv_istore_n (pc := 47) G dX0_mostAmong_47 [(3, .int v3_7), (2, .int v4), (0, .ref (b + a)), (1, .int v1), (4, .int v4)] (by decide) rfl ?_
          refine sv_locs [2, 3, 1, 0, 4] [(0, .ref (b + a)), (1, .int v1), (2, .int v4), (3, .int v3_7), (4, .int v4)] rfl ?_
          exact aw_X0_mostAmong_48 G RR T hL ha ih v1 v4 v3_7 v4 g  h
set_option maxRecDepth 100000 in
set_option maxHeartbeats 4000000 in
theorem c_X0_mostAmong {b : Nat} {xt : sv_Xt} {F : sv_Fr} {a : Nat} {v1 : Int32} {g : sv_Mg} {Q : Int32 → sv_Mg → Prop} (hL : sv_Lay F) (ha : sv_isC a) (h : wp_X0_mostAmong F a v1 g Q) : sv_Cal yX0_mostAmong cX0_mostAmong 5 (some .int) 0 0 0 0 b xt [.ref (b + a), .int v1] F g (sv_qI F Q) := by
  refine sv_intro mw_X0_mostAmong [(0, .ref (b + a)), (1, .int v1)] rfl (Nat.le_of_ble_eq_true rfl) (fun x G RR T NM => ?_)
  have G : sv_G x b xt RX0 cX0_mostAmong 5 := G
  unfold wp_X0_mostAmong at h
  refine sv_iconst (pc := 0) G dX0_mostAmong_0 (-1) ic_m1 ?_
  refine sv_istore_n (pc := 1) G dX0_mostAmong_1 [(2, .int (-1)), (0, .ref (b + a)), (1, .int v1)] (by decide) rfl ?_
  refine sv_iconst (pc := 2) G dX0_mostAmong_2 (-1) ic_m1 ?_
  refine sv_istore_n (pc := 3) G dX0_mostAmong_3 [(3, .int (-1)), (2, .int (-1)), (0, .ref (b + a)), (1, .int v1)] (by decide) rfl ?_
  refine sv_iconst (pc := 4) G dX0_mostAmong_4 0 ic_0 ?_
  refine sv_istore (pc := 5) G dX0_mostAmong_5 [(4, .int 0), (3, .int (-1)), (2, .int (-1)), (0, .ref (b + a)), (1, .int v1)] (by decide) rfl ?_
  refine sv_locs [3, 4, 2, 1, 0] [(0, .ref (b + a)), (1, .int v1), (2, .int (-1)), (3, .int (-1)), (4, .int 0)] rfl ?_
  obtain ⟨n_8, h⟩ := h
  exact aw_X0_mostAmong_7 G RR T hL ha  n_8 v1 (-1) (-1) 0 g  h
def wp_X0_draw (F : sv_Fr) (a : Nat) (g : sv_Mg) (Q : Int32 → sv_Mg → Prop) : Prop := ∀ g_1, g_1 = sv_st g a 16 (((g a 16) * 1103515245) + 12345) → Q ((((g_1 a 16) : Int32).toUInt32 >>> ((8 : Int32).toUInt32 &&& Int32.toUInt32 31)).toInt32) g_1
set_option maxRecDepth 100000 in
set_option maxHeartbeats 4000000 in
theorem c_X0_draw {b : Nat} {xt : sv_Xt} {F : sv_Fr} {a : Nat} {g : sv_Mg} {Q : Int32 → sv_Mg → Prop} (hL : sv_Lay F) (ha : sv_isC a) (h : wp_X0_draw F a g Q) : sv_Cal yX0_draw cX0_draw 1 (some .int) 0 0 0 0 b xt [.ref (b + a)] F g (sv_qI F Q) := by
  refine sv_intro mw_X0_draw [(0, .ref (b + a))] rfl (Nat.le_of_ble_eq_true rfl) (fun x G RR T NM => ?_)
  have G : sv_G x b xt RX0 cX0_draw 1 := G
  unfold wp_X0_draw at h
  refine sv_aload_n (pc := 0) G dX0_draw_0 0 rfl ?_
  refine sv_aload_n (pc := 1) G dX0_draw_1 0 rfl ?_
  refine sv_getI (pc := 2) G fw_X0_58 (hL.cS ha) rfl dX0_draw_2 ?_
  refine sv_ldc (pc := 5) G dX0_draw_5 cn_X0_85 ?_
  refine sv_imul (pc := 7) G dX0_draw_7 ?_
  refine sv_sipush (pc := 8) G dX0_draw_8 12345 sp_12345 ?_
  refine sv_iadd (pc := 11) G dX0_draw_11 ?_
  refine sv_putI (pc := 12) G fw_X0_58 (hL.cS ha) rfl dX0_draw_12 (fun g_1 eg_1 => ?_)
  have h := h g_1 eg_1
  refine sv_aload_n (pc := 15) G dX0_draw_15 0 rfl ?_
  refine sv_getI (pc := 16) G fw_X0_58 (hL.cS ha) rfl dX0_draw_16 ?_
  refine sv_bipush (pc := 19) G dX0_draw_19 8 bp_8 ?_
  refine sv_iushr (pc := 21) G dX0_draw_21 ?_
  exact sv_ireturn (pc := 22) G T ⟨(Nat.le_of_ble_eq_true rfl), (Nat.le_of_ble_eq_true rfl)⟩ dX0_draw_22 ⟨_, rfl, rfl, h⟩
def wp_X0_tally_54 (F : sv_Fr) (a : Nat) (Q : sv_Mg → Prop) (K10 : Int32 → sv_Mg → Prop) (v1 : Int32) (g : sv_Mg) : Prop := ∀ v1_1 : Int32, v1_1 = v1 + 1 → K10 v1_1 g
def wp_X0_tally_10 (F : sv_Fr) (a : Nat) (Q : sv_Mg → Prop) : Nat → Int32 → sv_Mg → Prop
  | 0, _, _ => False
  | n + 1, v1, g => (((g a 8) ≤ v1 → Q g) ∧ (¬ (g a 8) ≤ v1 → vp_in v1 10 ∧ wp_X0_isVoter F a (g (a + 6) v1.toNatClampNeg) g (fun r_5 g_4 => ((r_5 = 0 → wp_X0_tally_54 F a Q (wp_X0_tally_10 F a Q  n) v1 g_4) ∧ (¬ r_5 = 0 → vp_in v1 10 ∧ vp_in (g_4 (a + 6) v1.toNatClampNeg) 10 ∧ vp_in v1 10 ∧ wp_X6_weight F (g_4 (a + 1) v1.toNatClampNeg) g_4 (fun r_11 g_10 => vp_in (g_4 (a + 6) v1.toNatClampNeg) 10 ∧ ∀ g_13, g_13 = sv_st g_10 (a + 7) (g_4 (a + 6) v1.toNatClampNeg).toNatClampNeg ((g_4 (a + 7) (g_4 (a + 6) v1.toNatClampNeg).toNatClampNeg) + r_11) → wp_X0_tally_54 F a Q (wp_X0_tally_10 F a Q  n) v1 g_13))))))
def wp_X0_tally (F : sv_Fr) (a : Nat) (g : sv_Mg) (Q : sv_Mg → Prop) : Prop := wp_J7_fill_53178 F (a + 7) 10 0 g (fun g_14 => ∃ n_15, wp_X0_tally_10 F a Q  n_15 0 g_14)
set_option maxRecDepth 100000 in
set_option maxHeartbeats 4000000 in
theorem aw_X0_tally_54 {x : sv_X} {b : Nat} {xt : sv_Xt} {F : sv_Fr} {a : Nat} {Q : sv_Mg → Prop} (G : sv_G x b xt RX0 cX0_tally 2) (RR : sv_R x 1 23 0 0) (T : sv_RT x none) (hL : sv_Lay F) (ha : sv_isC a) {K10 : Int32 → sv_Mg → Prop} (hK10 : ∀ (v1 : Int32) (g : sv_Mg), K10 v1 g → sv_AW x (sv_Q x (sv_qV F Q) 0 0) F g 0 0 10 [(0, .ref (b + a)), (1, .int v1)] []) : ∀ (v1 : Int32) (g : sv_Mg), wp_X0_tally_54 F a Q K10 v1 g → sv_AW x (sv_Q x (sv_qV F Q) 0 0) F g 0 0 54 [(0, .ref (b + a)), (1, .int v1)] [] := by
  intro v1 g h
  unfold wp_X0_tally_54 at h
  obtain ⟨v1_1, ev1_1⟩ : ∃ y : Int32, y = v1 + 1 := ⟨_, rfl⟩
  have h := h v1_1 ev1_1
  refine sv_iinc (pc := 54) G dX0_tally_54 1 v1_1 [(1, .int v1_1), (0, .ref (b + a))] (by rw [ev1_1, ic_1]) rfl (by decide) rfl ?_
  refine sv_goto (pc := 57) G dX0_tally_57 10 (by decide) ?_
  refine sv_locs [1, 0] [(0, .ref (b + a)), (1, .int v1_1)] rfl ?_
  exact hK10 v1_1 g  h
set_option maxRecDepth 100000 in
set_option maxHeartbeats 4000000 in
theorem aw_X0_tally_10 {x : sv_X} {b : Nat} {xt : sv_Xt} {F : sv_Fr} {a : Nat} {Q : sv_Mg → Prop} (G : sv_G x b xt RX0 cX0_tally 2) (RR : sv_R x 1 23 0 0) (T : sv_RT x none) (hL : sv_Lay F) (ha : sv_isC a) : ∀ (n : Nat) (v1 : Int32) (g : sv_Mg), wp_X0_tally_10 F a Q  n v1 g → sv_AW x (sv_Q x (sv_qV F Q) 0 0) F g 0 0 10 [(0, .ref (b + a)), (1, .int v1)] [] := by
  intro n
  induction n with
  | zero => intro v1 g h; exact h.elim
  | succ n ih =>
    intro v1 g h
    rw [wp_X0_tally_10] at h
    refine sv_iload_n (pc := 10) G dX0_tally_10 1 rfl ?_
    refine sv_aload_n (pc := 11) G dX0_tally_11 0 rfl ?_
    refine sv_getI (pc := 12) G fw_X0_33 (hL.cS ha) rfl dX0_tally_12 ?_
    refine sv_ic_ge (pc := 15) G 60 (by decide) dX0_tally_15 (fun c_2 => ?_) (fun c_2 => ?_)
    · have h := h.1 c_2
      exact sv_vreturn (pc := 60) G T ⟨(Nat.le_of_ble_eq_true rfl), (Nat.le_of_ble_eq_true rfl)⟩ dX0_tally_60 ⟨rfl, rfl, h⟩
    · have h := h.2 c_2
      refine sv_aload_n (pc := 18) G dX0_tally_18 0 rfl ?_
      refine sv_aload_n (pc := 19) G dX0_tally_19 0 rfl ?_
      refine sv_getR (pc := 20) G fw_X0_27 (hL.cS ha) rfl (hL.cR6 ha) dX0_tally_20 ?_
      refine sv_iload_n (pc := 23) G dX0_tally_23 1 rfl ?_
      obtain ⟨s_3, h⟩ := h
      refine sv_ialdK (pc := 24) G (hL.cA6 ha) s_3 v1.toNatClampNeg rfl dX0_tally_24 ?_
      refine sv_callV (cs := 0) (sl := 0) (st := []) (As := [.int (g (a + 6) v1.toNatClampNeg)]) (a := a) (pc := 25) G RR (c_X0_isVoter hL ha h) mw_X0_isVoter lk_X0_117 (hL.cS ha) (by decide) rfl rfl ⟨(Nat.le_of_ble_eq_true rfl), (Nat.le_of_ble_eq_true rfl)⟩ ⟨(Nat.le_of_ble_eq_true rfl), (Nat.le_of_ble_eq_true rfl)⟩ (Nat.le_of_ble_eq_true rfl) rfl dX0_tally_25 (sv_kI (fun r_5 g_4 h => ?_))
      refine sv_if_eq (pc := 28) G 54 (by decide) dX0_tally_28 (fun c_6 => ?_) (fun c_6 => ?_)
      · have h := h.1 c_6
        refine sv_locs [0, 1] [(0, .ref (b + a)), (1, .int v1)] rfl ?_
        exact aw_X0_tally_54 G RR T hL ha ih v1 g_4  h
      · have h := h.2 c_6
        refine sv_aload_n (pc := 31) G dX0_tally_31 0 rfl ?_
        refine sv_getR (pc := 32) G fw_X0_30 (hL.cS ha) rfl (hL.cR7 ha) dX0_tally_32 ?_
        refine sv_aload_n (pc := 35) G dX0_tally_35 0 rfl ?_
        refine sv_getR (pc := 36) G fw_X0_27 (hL.cS ha) rfl (hL.cR6 ha) dX0_tally_36 ?_
        refine sv_iload_n (pc := 39) G dX0_tally_39 1 rfl ?_
        obtain ⟨s_7, h⟩ := h
        refine sv_ialdK (pc := 40) G (hL.cA6 ha) s_7 v1.toNatClampNeg rfl dX0_tally_40 ?_
        refine sv_dup2 (pc := 41) G dX0_tally_41 rfl rfl ?_
        obtain ⟨s_8, h⟩ := h
        refine sv_ialdK (pc := 42) G (hL.cA7 ha) s_8 (g_4 (a + 6) v1.toNatClampNeg).toNatClampNeg rfl dX0_tally_42 ?_
        refine sv_aload_n (pc := 43) G dX0_tally_43 0 rfl ?_
        refine sv_getR (pc := 44) G fw_X0_9 (hL.cS ha) rfl (hL.cR1 ha) dX0_tally_44 ?_
        refine sv_iload_n (pc := 47) G dX0_tally_47 1 rfl ?_
        obtain ⟨s_9, h⟩ := h
        refine sv_ialdK (pc := 48) G (hL.cA1 ha) s_9 v1.toNatClampNeg rfl dX0_tally_48 ?_
        refine sv_callSN (cs := 0) (sl := 0) (st := [.int (g_4 (a + 7) (g_4 (a + 6) v1.toNatClampNeg).toNatClampNeg), .int (g_4 (a + 6) v1.toNatClampNeg), .ref (b + (a + 7))]) (As := [.int (g_4 (a + 1) v1.toNatClampNeg)]) (pc := 49) G RR (c_X6_weight hL  h) mw_X6_weight lk_X0_121 rfl ⟨(Nat.le_of_ble_eq_true rfl), (Nat.le_of_ble_eq_true rfl)⟩ ⟨(Nat.le_of_ble_eq_true rfl), (Nat.le_of_ble_eq_true rfl)⟩ (Nat.le_of_ble_eq_true rfl) rfl dX0_tally_49 (sv_kI (fun r_11 g_10 h => ?_))
        refine sv_iadd (pc := 52) G dX0_tally_52 ?_
        obtain ⟨s_12, h⟩ := h
        refine sv_iastK (pc := 53) G (hL.cA7 ha) s_12 (g_4 (a + 6) v1.toNatClampNeg).toNatClampNeg rfl dX0_tally_53 (fun g_13 eg_13 => ?_)
        have h := h g_13 eg_13
        refine sv_locs [0, 1] [(0, .ref (b + a)), (1, .int v1)] rfl ?_
        exact aw_X0_tally_54 G RR T hL ha ih v1 g_13  h
set_option maxRecDepth 100000 in
set_option maxHeartbeats 4000000 in
theorem c_X0_tally {b : Nat} {xt : sv_Xt} {F : sv_Fr} {a : Nat} {g : sv_Mg} {Q : sv_Mg → Prop} (hL : sv_Lay F) (ha : sv_isC a) (h : wp_X0_tally F a g Q) : sv_Cal yX0_tally cX0_tally 2 none 1 23 0 0 b xt [.ref (b + a)] F g (sv_qV F Q) := by
  refine sv_intro mw_X0_tally [(0, .ref (b + a))] rfl (Nat.le_of_ble_eq_true rfl) (fun x G RR T NM => ?_)
  have G : sv_G x b xt RX0 cX0_tally 2 := G
  unfold wp_X0_tally at h
  refine sv_aload_n (pc := 0) G dX0_tally_0 0 rfl ?_
  refine sv_getR (pc := 1) G fw_X0_30 (hL.cS ha) rfl (hL.cR7 ha) dX0_tally_1 ?_
  refine sv_iconst (pc := 4) G dX0_tally_4 0 ic_0 ?_
  refine sv_callS (cs := 0) (sl := 0) (st := []) (As := [.ref (b + (a + 7)), .int 0]) (pc := 5) G RR (c_J7_fill_53178 hL (hL.cA7 ha) h) mw_J7_fill_53178 lk_X0_86 rfl ⟨(Nat.le_of_ble_eq_true rfl), (Nat.le_of_ble_eq_true rfl)⟩ ⟨(Nat.le_of_ble_eq_true rfl), (Nat.le_of_ble_eq_true rfl)⟩ (Nat.le_of_ble_eq_true rfl) rfl dX0_tally_5 (sv_kV (fun g_14 h => ?_))
  refine sv_iconst (pc := 8) G dX0_tally_8 0 ic_0 ?_
  refine sv_istore_n (pc := 9) G dX0_tally_9 [(1, .int 0), (0, .ref (b + a))] (by decide) rfl ?_
  refine sv_locs [1, 0] [(0, .ref (b + a)), (1, .int 0)] rfl ?_
  obtain ⟨n_15, h⟩ := h
  exact aw_X0_tally_10 G RR T hL ha  n_15 0 g_14  h
