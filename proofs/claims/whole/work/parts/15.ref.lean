def wp_X7_in (F : sv_Fr) (v0 : Int32) (v1 : Int32) (v2 : Int32) (g : sv_Mg) (Q : Int32 → sv_Mg → Prop) : Prop := ((v0 < v1 → Q 0 g) ∧ (¬ v0 < v1 → ((v2 < v0 → Q 0 g) ∧ (¬ v2 < v0 → Q 1 g))))
set_option maxRecDepth 100000 in
set_option maxHeartbeats 4000000 in
theorem c_X7_in {b : Nat} {xt : sv_Xt} {F : sv_Fr} {v0 : Int32} {v1 : Int32} {v2 : Int32} {g : sv_Mg} {Q : Int32 → sv_Mg → Prop} (hL : sv_Lay F) (h : wp_X7_in F v0 v1 v2 g Q) : sv_Cal yX7_in cX7_in 3 (some .boolean) 0 0 0 0 b xt [.int v0, .int v1, .int v2] F g (sv_qI F Q) := by
  refine sv_intro mw_X7_in [(0, .int v0), (1, .int v1), (2, .int v2)] rfl (Nat.le_of_ble_eq_true rfl) (fun x G RR T NM => ?_)
  have G : sv_G x b xt RX7 cX7_in 3 := G
  unfold wp_X7_in at h
  refine sv_iload_n (pc := 0) G dX7_in_0 0 rfl ?_
  refine sv_iload_n (pc := 1) G dX7_in_1 1 rfl ?_
  refine sv_ic_lt (pc := 2) G 14 (by decide) dX7_in_2 (fun c_1 => ?_) (fun c_1 => ?_)
  · have h := h.1 c_1
    refine sv_iconst (pc := 14) G dX7_in_14 0 ic_0 ?_
    exact sv_zreturn (pc := 15) G T (Or.inl rfl) ⟨(Nat.le_of_ble_eq_true rfl), (Nat.le_of_ble_eq_true rfl)⟩ dX7_in_15 ⟨_, rfl, rfl, h⟩
  · have h := h.2 c_1
    refine sv_iload_n (pc := 5) G dX7_in_5 0 rfl ?_
    refine sv_iload_n (pc := 6) G dX7_in_6 2 rfl ?_
    refine sv_ic_gt (pc := 7) G 14 (by decide) dX7_in_7 (fun c_2 => ?_) (fun c_2 => ?_)
    · have h := h.1 c_2
      refine sv_iconst (pc := 14) G dX7_in_14 0 ic_0 ?_
      exact sv_zreturn (pc := 15) G T (Or.inl rfl) ⟨(Nat.le_of_ble_eq_true rfl), (Nat.le_of_ble_eq_true rfl)⟩ dX7_in_15 ⟨_, rfl, rfl, h⟩
    · have h := h.2 c_2
      refine sv_iconst (pc := 10) G dX7_in_10 1 ic_1 ?_
      refine sv_goto (pc := 11) G dX7_in_11 15 (by decide) ?_
      exact sv_zreturn (pc := 15) G T (Or.inr rfl) ⟨(Nat.le_of_ble_eq_true rfl), (Nat.le_of_ble_eq_true rfl)⟩ dX7_in_15 ⟨_, rfl, rfl, h⟩
def wp_X7_within (F : sv_Fr) (v0 : Int32) (v1 : Int32) (v2 : Int32) (g : sv_Mg) (Q : Int32 → sv_Mg → Prop) : Prop := ((v1 ≤ v0 → ((v0 ≤ v2 → Q v0 g) ∧ (¬ v0 ≤ v2 → Q v2 g))) ∧ (¬ v1 ≤ v0 → Q v1 g))
set_option maxRecDepth 100000 in
set_option maxHeartbeats 4000000 in
theorem c_X7_within {b : Nat} {xt : sv_Xt} {F : sv_Fr} {v0 : Int32} {v1 : Int32} {v2 : Int32} {g : sv_Mg} {Q : Int32 → sv_Mg → Prop} (hL : sv_Lay F) (h : wp_X7_within F v0 v1 v2 g Q) : sv_Cal yX7_within cX7_within 3 (some .int) 0 0 0 0 b xt [.int v0, .int v1, .int v2] F g (sv_qI F Q) := by
  refine sv_intro mw_X7_within [(0, .int v0), (1, .int v1), (2, .int v2)] rfl (Nat.le_of_ble_eq_true rfl) (fun x G RR T NM => ?_)
  have G : sv_G x b xt RX7 cX7_within 3 := G
  unfold wp_X7_within at h
  refine sv_iload_n (pc := 0) G dX7_within_0 0 rfl ?_
  refine sv_iload_n (pc := 1) G dX7_within_1 1 rfl ?_
  refine sv_ic_ge (pc := 2) G 9 (by decide) dX7_within_2 (fun c_1 => ?_) (fun c_1 => ?_)
  · have h := h.1 c_1
    refine sv_iload_n (pc := 9) G dX7_within_9 0 rfl ?_
    refine sv_iload_n (pc := 10) G dX7_within_10 2 rfl ?_
    refine sv_ic_le (pc := 11) G 18 (by decide) dX7_within_11 (fun c_2 => ?_) (fun c_2 => ?_)
    · have h := h.1 c_2
      refine sv_iload_n (pc := 18) G dX7_within_18 0 rfl ?_
      exact sv_ireturn (pc := 19) G T ⟨(Nat.le_of_ble_eq_true rfl), (Nat.le_of_ble_eq_true rfl)⟩ dX7_within_19 ⟨_, rfl, rfl, h⟩
    · have h := h.2 c_2
      refine sv_iload_n (pc := 14) G dX7_within_14 2 rfl ?_
      refine sv_goto (pc := 15) G dX7_within_15 19 (by decide) ?_
      exact sv_ireturn (pc := 19) G T ⟨(Nat.le_of_ble_eq_true rfl), (Nat.le_of_ble_eq_true rfl)⟩ dX7_within_19 ⟨_, rfl, rfl, h⟩
  · have h := h.2 c_1
    refine sv_iload_n (pc := 5) G dX7_within_5 1 rfl ?_
    refine sv_goto (pc := 6) G dX7_within_6 19 (by decide) ?_
    exact sv_ireturn (pc := 19) G T ⟨(Nat.le_of_ble_eq_true rfl), (Nat.le_of_ble_eq_true rfl)⟩ dX7_within_19 ⟨_, rfl, rfl, h⟩
def wp_X7_copyAll_2 (F : sv_Fr) (a0 : Nat) (n0 : Nat) (a1 : Nat) (n1 : Nat) (Q : sv_Mg → Prop) : Nat → Int32 → sv_Mg → Prop
  | 0, _, _ => False
  | n + 1, v2, g => ((1443 ≤ v2 → Q g) ∧ (¬ 1443 ≤ v2 → vp_in v2 n0 ∧ vp_in v2 n1 ∧ ∀ g_4, g_4 = sv_st g a1 v2.toNatClampNeg (g a0 v2.toNatClampNeg) → ∀ v2_5 : Int32, v2_5 = v2 + 1 → (wp_X7_copyAll_2 F a0 n0 a1 n1 Q  n) v2_5 g_4))
def wp_X7_copyAll (F : sv_Fr) (a0 : Nat) (n0 : Nat) (a1 : Nat) (n1 : Nat) (g : sv_Mg) (Q : sv_Mg → Prop) : Prop := ∃ n_6, wp_X7_copyAll_2 F a0 n0 a1 n1 Q  n_6 0 g
set_option maxRecDepth 100000 in
set_option maxHeartbeats 4000000 in
theorem aw_X7_copyAll_2 {x : sv_X} {b : Nat} {xt : sv_Xt} {F : sv_Fr} {a0 : Nat} {n0 : Nat} {a1 : Nat} {n1 : Nat} {Q : sv_Mg → Prop} (G : sv_G x b xt RX7 cX7_copyAll 3) (RR : sv_R x 0 0 0 0) (T : sv_RT x none) (hL : sv_Lay F) (ha0 : F.1[a0]? = some (10, n0)) (ha1 : F.1[a1]? = some (10, n1)) : ∀ (n : Nat) (v2 : Int32) (g : sv_Mg), wp_X7_copyAll_2 F a0 n0 a1 n1 Q  n v2 g → sv_AW x (sv_Q x (sv_qV F Q) 0 0) F g 0 0 2 [(0, .ref (b + a0)), (1, .ref (b + a1)), (2, .int v2)] [] := by
  intro n
  induction n with
  | zero => intro v2 g h; exact h.elim
  | succ n ih =>
    intro v2 g h
    rw [wp_X7_copyAll_2] at h
    refine sv_iload_n (pc := 2) G dX7_copyAll_2 2 rfl ?_
    refine sv_sipush (pc := 3) G dX7_copyAll_3 1443 sp_1443 ?_
    refine sv_ic_ge (pc := 6) G 21 (by decide) dX7_copyAll_6 (fun c_1 => ?_) (fun c_1 => ?_)
    · have h := h.1 c_1
      exact sv_vreturn (pc := 21) G T ⟨(Nat.le_of_ble_eq_true rfl), (Nat.le_of_ble_eq_true rfl)⟩ dX7_copyAll_21 ⟨rfl, rfl, h⟩
    · have h := h.2 c_1
      refine sv_aload_n (pc := 9) G dX7_copyAll_9 1 rfl ?_
      refine sv_iload_n (pc := 10) G dX7_copyAll_10 2 rfl ?_
      refine sv_aload_n (pc := 11) G dX7_copyAll_11 0 rfl ?_
      refine sv_iload_n (pc := 12) G dX7_copyAll_12 2 rfl ?_
      obtain ⟨s_2, h⟩ := h
      refine sv_ialdK (pc := 13) G ha0 s_2 v2.toNatClampNeg rfl dX7_copyAll_13 ?_
      obtain ⟨s_3, h⟩ := h
      refine sv_iastK (pc := 14) G ha1 s_3 v2.toNatClampNeg rfl dX7_copyAll_14 (fun g_4 eg_4 => ?_)
      have h := h g_4 eg_4
      obtain ⟨v2_5, ev2_5⟩ : ∃ y : Int32, y = v2 + 1 := ⟨_, rfl⟩
      have h := h v2_5 ev2_5
      refine sv_iinc (pc := 15) G dX7_copyAll_15 2 v2_5 [(2, .int v2_5), (0, .ref (b + a0)), (1, .ref (b + a1))] (by rw [ev2_5, ic_1]) rfl (by decide) rfl ?_
      refine sv_goto (pc := 18) G dX7_copyAll_18 2 (by decide) ?_
      refine sv_locs [1, 2, 0] [(0, .ref (b + a0)), (1, .ref (b + a1)), (2, .int v2_5)] rfl ?_
      exact ih v2_5 g_4  h
set_option maxRecDepth 100000 in
set_option maxHeartbeats 4000000 in
theorem c_X7_copyAll {b : Nat} {xt : sv_Xt} {F : sv_Fr} {a0 : Nat} {n0 : Nat} {a1 : Nat} {n1 : Nat} {g : sv_Mg} {Q : sv_Mg → Prop} (hL : sv_Lay F) (ha0 : F.1[a0]? = some (10, n0)) (ha1 : F.1[a1]? = some (10, n1)) (h : wp_X7_copyAll F a0 n0 a1 n1 g Q) : sv_Cal yX7_copyAll cX7_copyAll 3 none 0 0 0 0 b xt [.ref (b + a0), .ref (b + a1)] F g (sv_qV F Q) := by
  refine sv_intro mw_X7_copyAll [(0, .ref (b + a0)), (1, .ref (b + a1))] rfl (Nat.le_of_ble_eq_true rfl) (fun x G RR T NM => ?_)
  have G : sv_G x b xt RX7 cX7_copyAll 3 := G
  unfold wp_X7_copyAll at h
  refine sv_iconst (pc := 0) G dX7_copyAll_0 0 ic_0 ?_
  refine sv_istore_n (pc := 1) G dX7_copyAll_1 [(2, .int 0), (0, .ref (b + a0)), (1, .ref (b + a1))] (by decide) rfl ?_
  refine sv_locs [1, 2, 0] [(0, .ref (b + a0)), (1, .ref (b + a1)), (2, .int 0)] rfl ?_
  obtain ⟨n_6, h⟩ := h
  exact aw_X7_copyAll_2 G RR T hL ha0 ha1  n_6 0 g  h
def wp_X7_told0 (F : sv_Fr) (v0 : Int32) (g : sv_Mg) (Q : Int32 → sv_Mg → Prop) : Prop := ((0 ≤ v0 → Q v0 g) ∧ (¬ 0 ≤ v0 → Q (-1000000005) g))
set_option maxRecDepth 100000 in
set_option maxHeartbeats 4000000 in
theorem c_X7_told0 {b : Nat} {xt : sv_Xt} {F : sv_Fr} {v0 : Int32} {g : sv_Mg} {Q : Int32 → sv_Mg → Prop} (hL : sv_Lay F) (h : wp_X7_told0 F v0 g Q) : sv_Cal yX7_told0 cX7_told0 1 (some .int) 0 0 0 0 b xt [.int v0] F g (sv_qI F Q) := by
  refine sv_intro mw_X7_told0 [(0, .int v0)] rfl (Nat.le_of_ble_eq_true rfl) (fun x G RR T NM => ?_)
  have G : sv_G x b xt RX7 cX7_told0 1 := G
  unfold wp_X7_told0 at h
  refine sv_iload_n (pc := 0) G dX7_told0_0 0 rfl ?_
  refine sv_if_ge (pc := 1) G 9 (by decide) dX7_told0_1 (fun c_1 => ?_) (fun c_1 => ?_)
  · have h := h.1 c_1
    refine sv_iload_n (pc := 9) G dX7_told0_9 0 rfl ?_
    exact sv_ireturn (pc := 10) G T ⟨(Nat.le_of_ble_eq_true rfl), (Nat.le_of_ble_eq_true rfl)⟩ dX7_told0_10 ⟨_, rfl, rfl, h⟩
  · have h := h.2 c_1
    refine sv_ldc (pc := 4) G dX7_told0_4 cn_X7_81 ?_
    refine sv_goto (pc := 6) G dX7_told0_6 10 (by decide) ?_
    exact sv_ireturn (pc := 10) G T ⟨(Nat.le_of_ble_eq_true rfl), (Nat.le_of_ble_eq_true rfl)⟩ dX7_told0_10 ⟨_, rfl, rfl, h⟩
def wp_X7_isVoter (F : sv_Fr) (v1 : Int32) (g : sv_Mg) (Q : Int32 → sv_Mg → Prop) : Prop := wp_X7_in F v1 0 ((g 59 1) - 1) g (fun r_2 g_1 => (r_2 = 0 ∨ r_2 = 1) ∧ Q r_2 g_1)
set_option maxRecDepth 100000 in
set_option maxHeartbeats 4000000 in
theorem c_X7_isVoter {b : Nat} {xt : sv_Xt} {F : sv_Fr} {v1 : Int32} {g : sv_Mg} {Q : Int32 → sv_Mg → Prop} (hL : sv_Lay F) (h : wp_X7_isVoter F v1 g Q) : sv_Cal yX7_isVoter cX7_isVoter 2 (some .boolean) 1 22 0 0 b xt [.ref (b + 58), .int v1] F g (sv_qI F Q) := by
  refine sv_intro mw_X7_isVoter [(0, .ref (b + 58)), (1, .int v1)] rfl (Nat.le_of_ble_eq_true rfl) (fun x G RR T NM => ?_)
  have G : sv_G x b xt RX7 cX7_isVoter 2 := G
  unfold wp_X7_isVoter at h
  refine sv_iload_n (pc := 0) G dX7_isVoter_0 1 rfl ?_
  refine sv_iconst (pc := 1) G dX7_isVoter_1 0 ic_0 ?_
  refine sv_aload_n (pc := 2) G dX7_isVoter_2 0 rfl ?_
  refine sv_getR (pc := 3) G fw_X7_9 (hL.sh rfl) rfl (hL.rf 60 rfl) dX7_isVoter_3 ?_
  refine sv_iconst (pc := 6) G dX7_isVoter_6 1 ic_1 ?_
  refine sv_ialdK (pc := 7) G (hL.sh rfl) vi_1_1443 1 tn_1 dX7_isVoter_7 ?_
  refine sv_iconst (pc := 8) G dX7_isVoter_8 1 ic_1 ?_
  refine sv_isub (pc := 9) G dX7_isVoter_9 ?_
  refine sv_callS (cs := 0) (sl := 0) (st := []) (As := [.int v1, .int 0, .int ((g 59 1) - 1)]) (pc := 10) G RR (c_X7_in hL  h) mw_X7_in lk_X7_82 rfl ⟨(Nat.le_of_ble_eq_true rfl), (Nat.le_of_ble_eq_true rfl)⟩ ⟨(Nat.le_of_ble_eq_true rfl), (Nat.le_of_ble_eq_true rfl)⟩ (Nat.le_of_ble_eq_true rfl) rfl dX7_isVoter_10 (sv_kI (fun r_2 g_1 h => ?_))
  obtain ⟨s_3, h⟩ := h
  exact sv_zreturn (pc := 13) G T s_3 ⟨(Nat.le_of_ble_eq_true rfl), (Nat.le_of_ble_eq_true rfl)⟩ dX7_isVoter_13 ⟨_, rfl, rfl, h⟩
def wp_X7_of (F : sv_Fr) (v1 : Int32) (v2 : Int32) (g : sv_Mg) (Q : Int32 → sv_Mg → Prop) : Prop := vp_in ((11 + (6 * v1)) + v2) 1443 ∧ Q (g 59 ((11 + (6 * v1)) + v2).toNatClampNeg) g
set_option maxRecDepth 100000 in
set_option maxHeartbeats 4000000 in
theorem c_X7_of {b : Nat} {xt : sv_Xt} {F : sv_Fr} {v1 : Int32} {v2 : Int32} {g : sv_Mg} {Q : Int32 → sv_Mg → Prop} (hL : sv_Lay F) (h : wp_X7_of F v1 v2 g Q) : sv_Cal yX7_of cX7_of 3 (some .int) 0 0 0 0 b xt [.ref (b + 58), .int v1, .int v2] F g (sv_qI F Q) := by
  refine sv_intro mw_X7_of [(0, .ref (b + 58)), (1, .int v1), (2, .int v2)] rfl (Nat.le_of_ble_eq_true rfl) (fun x G RR T NM => ?_)
  have G : sv_G x b xt RX7 cX7_of 3 := G
  unfold wp_X7_of at h
  refine sv_aload_n (pc := 0) G dX7_of_0 0 rfl ?_
  refine sv_getR (pc := 1) G fw_X7_9 (hL.sh rfl) rfl (hL.rf 60 rfl) dX7_of_1 ?_
  refine sv_bipush (pc := 4) G dX7_of_4 11 bp_11 ?_
  refine sv_bipush (pc := 6) G dX7_of_6 6 bp_6 ?_
  refine sv_iload_n (pc := 8) G dX7_of_8 1 rfl ?_
  refine sv_imul (pc := 9) G dX7_of_9 ?_
  refine sv_iadd (pc := 10) G dX7_of_10 ?_
  refine sv_iload_n (pc := 11) G dX7_of_11 2 rfl ?_
  refine sv_iadd (pc := 12) G dX7_of_12 ?_
  obtain ⟨s_1, h⟩ := h
  refine sv_ialdK (pc := 13) G (hL.sh rfl) s_1 ((11 + (6 * v1)) + v2).toNatClampNeg rfl dX7_of_13 ?_
  exact sv_ireturn (pc := 14) G T ⟨(Nat.le_of_ble_eq_true rfl), (Nat.le_of_ble_eq_true rfl)⟩ dX7_of_14 ⟨_, rfl, rfl, h⟩
def wp_X7_put (F : sv_Fr) (v1 : Int32) (v2 : Int32) (v3 : Int32) (g : sv_Mg) (Q : sv_Mg → Prop) : Prop := vp_in ((11 + (6 * v1)) + v2) 1443 ∧ ∀ g_2, g_2 = sv_st g 59 ((11 + (6 * v1)) + v2).toNatClampNeg v3 → Q g_2
set_option maxRecDepth 100000 in
set_option maxHeartbeats 4000000 in
theorem c_X7_put {b : Nat} {xt : sv_Xt} {F : sv_Fr} {v1 : Int32} {v2 : Int32} {v3 : Int32} {g : sv_Mg} {Q : sv_Mg → Prop} (hL : sv_Lay F) (h : wp_X7_put F v1 v2 v3 g Q) : sv_Cal yX7_put cX7_put 4 none 0 0 0 0 b xt [.ref (b + 58), .int v1, .int v2, .int v3] F g (sv_qV F Q) := by
  refine sv_intro mw_X7_put [(0, .ref (b + 58)), (1, .int v1), (2, .int v2), (3, .int v3)] rfl (Nat.le_of_ble_eq_true rfl) (fun x G RR T NM => ?_)
  have G : sv_G x b xt RX7 cX7_put 4 := G
  unfold wp_X7_put at h
  refine sv_aload_n (pc := 0) G dX7_put_0 0 rfl ?_
  refine sv_getR (pc := 1) G fw_X7_9 (hL.sh rfl) rfl (hL.rf 60 rfl) dX7_put_1 ?_
  refine sv_bipush (pc := 4) G dX7_put_4 11 bp_11 ?_
  refine sv_bipush (pc := 6) G dX7_put_6 6 bp_6 ?_
  refine sv_iload_n (pc := 8) G dX7_put_8 1 rfl ?_
  refine sv_imul (pc := 9) G dX7_put_9 ?_
  refine sv_iadd (pc := 10) G dX7_put_10 ?_
  refine sv_iload_n (pc := 11) G dX7_put_11 2 rfl ?_
  refine sv_iadd (pc := 12) G dX7_put_12 ?_
  refine sv_iload_n (pc := 13) G dX7_put_13 3 rfl ?_
  obtain ⟨s_1, h⟩ := h
  refine sv_iastK (pc := 14) G (hL.sh rfl) s_1 ((11 + (6 * v1)) + v2).toNatClampNeg rfl dX7_put_14 (fun g_2 eg_2 => ?_)
  have h := h g_2 eg_2
  exact sv_vreturn (pc := 15) G T ⟨(Nat.le_of_ble_eq_true rfl), (Nat.le_of_ble_eq_true rfl)⟩ dX7_put_15 ⟨rfl, rfl, h⟩
def wp_X7_becomes (F : sv_Fr) (v1 : Int32) (v2 : Int32) (g : sv_Mg) (Q : Int32 → sv_Mg → Prop) : Prop := vp_in v1 1443 ∧ ∀ v3_2 : Int32, v3_2 = (g 59 v1.toNatClampNeg) → vp_in v1 1443 ∧ ∀ g_4, g_4 = sv_st g 59 v1.toNatClampNeg v2 → Q v3_2 g_4
set_option maxRecDepth 100000 in
set_option maxHeartbeats 4000000 in
theorem c_X7_becomes {b : Nat} {xt : sv_Xt} {F : sv_Fr} {v1 : Int32} {v2 : Int32} {g : sv_Mg} {Q : Int32 → sv_Mg → Prop} (hL : sv_Lay F) (h : wp_X7_becomes F v1 v2 g Q) : sv_Cal yX7_becomes cX7_becomes 4 (some .int) 0 0 0 0 b xt [.ref (b + 58), .int v1, .int v2] F g (sv_qI F Q) := by
  refine sv_intro mw_X7_becomes [(0, .ref (b + 58)), (1, .int v1), (2, .int v2)] rfl (Nat.le_of_ble_eq_true rfl) (fun x G RR T NM => ?_)
  have G : sv_G x b xt RX7 cX7_becomes 4 := G
  unfold wp_X7_becomes at h
  refine sv_aload_n (pc := 0) G dX7_becomes_0 0 rfl ?_
  refine sv_getR (pc := 1) G fw_X7_9 (hL.sh rfl) rfl (hL.rf 60 rfl) dX7_becomes_1 ?_
  refine sv_iload_n (pc := 4) G dX7_becomes_4 1 rfl ?_
  obtain ⟨s_1, h⟩ := h
  refine sv_ialdK (pc := 5) G (hL.sh rfl) s_1 v1.toNatClampNeg rfl dX7_becomes_5 ?_
  refine sv_topi (fun v3_2 ev3_2 => ?_)
  have h := h v3_2 ev3_2
  refine sv_istore_n (pc := 6) G dX7_becomes_6 [(3, .int v3_2), (0, .ref (b + 58)), (1, .int v1), (2, .int v2)] (by decide) rfl ?_
  refine sv_aload_n (pc := 7) G dX7_becomes_7 1 rfl ?_
  refine sv_getR (pc := 8) G fw_X7_9 (hL.sh rfl) rfl (hL.rf 60 rfl) dX7_becomes_8 ?_
  refine sv_iload_n (pc := 11) G dX7_becomes_11 2 rfl ?_
  refine sv_iload_n (pc := 12) G dX7_becomes_12 3 rfl ?_
  obtain ⟨s_3, h⟩ := h
  refine sv_iastK (pc := 13) G (hL.sh rfl) s_3 v1.toNatClampNeg rfl dX7_becomes_13 (fun g_4 eg_4 => ?_)
  have h := h g_4 eg_4
  refine sv_iload_n (pc := 14) G dX7_becomes_14 0 rfl ?_
  exact sv_ireturn (pc := 15) G T ⟨(Nat.le_of_ble_eq_true rfl), (Nat.le_of_ble_eq_true rfl)⟩ dX7_becomes_15 ⟨_, rfl, rfl, h⟩
def wp_X7_comes (F : sv_Fr) (v1 : Int32) (v2 : Int32) (v3 : Int32) (v4 : Int32) (g : sv_Mg) (Q : Int32 → sv_Mg → Prop) : Prop := ∀ v5_1 : Int32, v5_1 = (g 59 1) → ∀ g_2, g_2 = sv_st g 59 1 ((g 59 1) + 1) → wp_X7_put F v5_1 0 v1 g_2 (fun g_3 => wp_X7_put F v5_1 1 v2 g_3 (fun g_4 => wp_X7_put F v5_1 2 v3 g_4 (fun g_5 => wp_X7_put F v5_1 3 v4 g_5 (fun g_6 => wp_X7_put F v5_1 4 3 g_6 (fun g_7 => wp_X7_put F v5_1 5 (-1) g_7 (fun g_8 => Q v5_1 g_8))))))
set_option maxRecDepth 100000 in
set_option maxHeartbeats 4000000 in
theorem c_X7_comes {b : Nat} {xt : sv_Xt} {F : sv_Fr} {v1 : Int32} {v2 : Int32} {v3 : Int32} {v4 : Int32} {g : sv_Mg} {Q : Int32 → sv_Mg → Prop} (hL : sv_Lay F) (h : wp_X7_comes F v1 v2 v3 v4 g Q) : sv_Cal yX7_comes cX7_comes 6 (some .int) 1 23 0 0 b xt [.ref (b + 58), .int v1, .int v2, .int v3, .int v4] F g (sv_qI F Q) := by
  refine sv_intro mw_X7_comes [(0, .ref (b + 58)), (1, .int v1), (2, .int v2), (3, .int v3), (4, .int v4)] rfl (Nat.le_of_ble_eq_true rfl) (fun x G RR T NM => ?_)
  have G : sv_G x b xt RX7 cX7_comes 6 := G
  unfold wp_X7_comes at h
  refine sv_aload_n (pc := 0) G dX7_comes_0 0 rfl ?_
  refine sv_getR (pc := 1) G fw_X7_9 (hL.sh rfl) rfl (hL.rf 60 rfl) dX7_comes_1 ?_
  refine sv_iconst (pc := 4) G dX7_comes_4 1 ic_1 ?_
  refine sv_ialdK (pc := 5) G (hL.sh rfl) vi_1_1443 1 tn_1 dX7_comes_5 ?_
  refine sv_topi (fun v5_1 ev5_1 => ?_)
  have h := h v5_1 ev5_1
  refine sv_istore (pc := 6) G dX7_comes_6 [(5, .int v5_1), (0, .ref (b + 58)), (1, .int v1), (2, .int v2), (3, .int v3), (4, .int v4)] (by decide) rfl ?_
  refine sv_aload_n (pc := 8) G dX7_comes_8 1 rfl ?_
  refine sv_getR (pc := 9) G fw_X7_9 (hL.sh rfl) rfl (hL.rf 60 rfl) dX7_comes_9 ?_
  refine sv_iconst (pc := 12) G dX7_comes_12 1 ic_1 ?_
  refine sv_dup2 (pc := 13) G dX7_comes_13 rfl rfl ?_
  refine sv_ialdK (pc := 14) G (hL.sh rfl) vi_1_1443 1 tn_1 dX7_comes_14 ?_
  refine sv_iconst (pc := 15) G dX7_comes_15 1 ic_1 ?_
  refine sv_iadd (pc := 16) G dX7_comes_16 ?_
  refine sv_iastK (pc := 17) G (hL.sh rfl) vi_1_1443 1 tn_1 dX7_comes_17 (fun g_2 eg_2 => ?_)
  have h := h g_2 eg_2
  refine sv_aload_n (pc := 18) G dX7_comes_18 1 rfl ?_
  refine sv_iload (pc := 19) G dX7_comes_19 0 rfl ?_
  refine sv_iconst (pc := 21) G dX7_comes_21 0 ic_0 ?_
  refine sv_iload_n (pc := 22) G dX7_comes_22 2 rfl ?_
  refine sv_callV (cs := 0) (sl := 0) (st := []) (As := [.int v5_1, .int 0, .int v1]) (a := 58) (pc := 23) G RR (c_X7_put hL  h) mw_X7_put lk_X7_86 (hL.sh rfl) (by decide) rfl rfl ⟨(Nat.le_of_ble_eq_true rfl), (Nat.le_of_ble_eq_true rfl)⟩ ⟨(Nat.le_of_ble_eq_true rfl), (Nat.le_of_ble_eq_true rfl)⟩ (Nat.le_of_ble_eq_true rfl) rfl dX7_comes_23 (sv_kV (fun g_3 h => ?_))
  refine sv_aload_n (pc := 26) G dX7_comes_26 1 rfl ?_
  refine sv_iload (pc := 27) G dX7_comes_27 0 rfl ?_
  refine sv_iconst (pc := 29) G dX7_comes_29 1 ic_1 ?_
  refine sv_iload_n (pc := 30) G dX7_comes_30 3 rfl ?_
  refine sv_callV (cs := 0) (sl := 0) (st := []) (As := [.int v5_1, .int 1, .int v2]) (a := 58) (pc := 31) G RR (c_X7_put hL  h) mw_X7_put lk_X7_86 (hL.sh rfl) (by decide) rfl rfl ⟨(Nat.le_of_ble_eq_true rfl), (Nat.le_of_ble_eq_true rfl)⟩ ⟨(Nat.le_of_ble_eq_true rfl), (Nat.le_of_ble_eq_true rfl)⟩ (Nat.le_of_ble_eq_true rfl) rfl dX7_comes_31 (sv_kV (fun g_4 h => ?_))
  refine sv_aload_n (pc := 34) G dX7_comes_34 1 rfl ?_
  refine sv_iload (pc := 35) G dX7_comes_35 0 rfl ?_
  refine sv_iconst (pc := 37) G dX7_comes_37 2 ic_2 ?_
  refine sv_iload_n (pc := 38) G dX7_comes_38 4 rfl ?_
  refine sv_callV (cs := 0) (sl := 0) (st := []) (As := [.int v5_1, .int 2, .int v3]) (a := 58) (pc := 39) G RR (c_X7_put hL  h) mw_X7_put lk_X7_86 (hL.sh rfl) (by decide) rfl rfl ⟨(Nat.le_of_ble_eq_true rfl), (Nat.le_of_ble_eq_true rfl)⟩ ⟨(Nat.le_of_ble_eq_true rfl), (Nat.le_of_ble_eq_true rfl)⟩ (Nat.le_of_ble_eq_true rfl) rfl dX7_comes_39 (sv_kV (fun g_5 h => ?_))
  refine sv_aload_n (pc := 42) G dX7_comes_42 1 rfl ?_
  refine sv_iload (pc := 43) G dX7_comes_43 0 rfl ?_
  refine sv_iconst (pc := 45) G dX7_comes_45 3 ic_3 ?_
  refine sv_iload (pc := 46) G dX7_comes_46 5 rfl ?_
  refine sv_callV (cs := 0) (sl := 0) (st := []) (As := [.int v5_1, .int 3, .int v4]) (a := 58) (pc := 48) G RR (c_X7_put hL  h) mw_X7_put lk_X7_86 (hL.sh rfl) (by decide) rfl rfl ⟨(Nat.le_of_ble_eq_true rfl), (Nat.le_of_ble_eq_true rfl)⟩ ⟨(Nat.le_of_ble_eq_true rfl), (Nat.le_of_ble_eq_true rfl)⟩ (Nat.le_of_ble_eq_true rfl) rfl dX7_comes_48 (sv_kV (fun g_6 h => ?_))
  refine sv_aload_n (pc := 51) G dX7_comes_51 1 rfl ?_
  refine sv_iload (pc := 52) G dX7_comes_52 0 rfl ?_
  refine sv_iconst (pc := 54) G dX7_comes_54 4 ic_4 ?_
  refine sv_iconst (pc := 55) G dX7_comes_55 3 ic_3 ?_
  refine sv_callV (cs := 0) (sl := 0) (st := []) (As := [.int v5_1, .int 4, .int 3]) (a := 58) (pc := 56) G RR (c_X7_put hL  h) mw_X7_put lk_X7_86 (hL.sh rfl) (by decide) rfl rfl ⟨(Nat.le_of_ble_eq_true rfl), (Nat.le_of_ble_eq_true rfl)⟩ ⟨(Nat.le_of_ble_eq_true rfl), (Nat.le_of_ble_eq_true rfl)⟩ (Nat.le_of_ble_eq_true rfl) rfl dX7_comes_56 (sv_kV (fun g_7 h => ?_))
  refine sv_aload_n (pc := 59) G dX7_comes_59 1 rfl ?_
  refine sv_iload (pc := 60) G dX7_comes_60 0 rfl ?_
  refine sv_iconst (pc := 62) G dX7_comes_62 5 ic_5 ?_
  refine sv_iconst (pc := 63) G dX7_comes_63 (-1) ic_m1 ?_
  refine sv_callV (cs := 0) (sl := 0) (st := []) (As := [.int v5_1, .int 5, .int (-1)]) (a := 58) (pc := 64) G RR (c_X7_put hL  h) mw_X7_put lk_X7_86 (hL.sh rfl) (by decide) rfl rfl ⟨(Nat.le_of_ble_eq_true rfl), (Nat.le_of_ble_eq_true rfl)⟩ ⟨(Nat.le_of_ble_eq_true rfl), (Nat.le_of_ble_eq_true rfl)⟩ (Nat.le_of_ble_eq_true rfl) rfl dX7_comes_64 (sv_kV (fun g_8 h => ?_))
  refine sv_iload (pc := 67) G dX7_comes_67 0 rfl ?_
  exact sv_ireturn (pc := 69) G T ⟨(Nat.le_of_ble_eq_true rfl), (Nat.le_of_ble_eq_true rfl)⟩ dX7_comes_69 ⟨_, rfl, rfl, h⟩
def wp_X7_voter (F : sv_Fr) (v1 : Int32) (v2 : Int32) (v3 : Int32) (v4 : Int32) (g : sv_Mg) (Q : Int32 → sv_Mg → Prop) : Prop := wp_X7_in F v1 0 5 g (fun r_2 g_1 => ((r_2 = 0 → Q (-1000000001) g_1) ∧ (¬ r_2 = 0 → wp_X7_in F v2 0 9 g_1 (fun r_5 g_4 => ((r_5 = 0 → Q (-1000000001) g_4) ∧ (¬ r_5 = 0 → wp_X7_in F v3 0 3 g_4 (fun r_8 g_7 => ((r_8 = 0 → Q (-1000000001) g_7) ∧ (¬ r_8 = 0 → wp_X7_in F v4 0 99 g_7 (fun r_11 g_10 => ((r_11 = 0 → Q (-1000000001) g_10) ∧ (¬ r_11 = 0 → (((g_10 59 1) = 10 → Q (-1000000003) g_10) ∧ (¬ (g_10 59 1) = 10 → wp_X7_comes F v1 v2 v3 v4 g_10 (fun r_15 g_14 => Q r_15 g_14)))))))))))))))
set_option maxRecDepth 100000 in
set_option maxHeartbeats 4000000 in
theorem c_X7_voter {b : Nat} {xt : sv_Xt} {F : sv_Fr} {v1 : Int32} {v2 : Int32} {v3 : Int32} {v4 : Int32} {g : sv_Mg} {Q : Int32 → sv_Mg → Prop} (hL : sv_Lay F) (h : wp_X7_voter F v1 v2 v3 v4 g Q) : sv_Cal yX7_voter cX7_voter 5 (some .int) 2 48 0 0 b xt [.ref (b + 58), .int v1, .int v2, .int v3, .int v4] F g (sv_qI F Q) := by
  refine sv_intro mw_X7_voter [(0, .ref (b + 58)), (1, .int v1), (2, .int v2), (3, .int v3), (4, .int v4)] rfl (Nat.le_of_ble_eq_true rfl) (fun x G RR T NM => ?_)
  have G : sv_G x b xt RX7 cX7_voter 5 := G
  unfold wp_X7_voter at h
  refine sv_iload_n (pc := 0) G dX7_voter_0 1 rfl ?_
  refine sv_iconst (pc := 1) G dX7_voter_1 0 ic_0 ?_
  refine sv_iconst (pc := 2) G dX7_voter_2 5 ic_5 ?_
  refine sv_callS (cs := 0) (sl := 0) (st := []) (As := [.int v1, .int 0, .int 5]) (pc := 3) G RR (c_X7_in hL  h) mw_X7_in lk_X7_82 rfl ⟨(Nat.le_of_ble_eq_true rfl), (Nat.le_of_ble_eq_true rfl)⟩ ⟨(Nat.le_of_ble_eq_true rfl), (Nat.le_of_ble_eq_true rfl)⟩ (Nat.le_of_ble_eq_true rfl) rfl dX7_voter_3 (sv_kI (fun r_2 g_1 h => ?_))
  refine sv_if_eq (pc := 6) G 39 (by decide) dX7_voter_6 (fun c_3 => ?_) (fun c_3 => ?_)
  · have h := h.1 c_3
    refine sv_ldc (pc := 39) G dX7_voter_39 cn_X7_90 ?_
    exact sv_ireturn (pc := 41) G T ⟨(Nat.le_of_ble_eq_true rfl), (Nat.le_of_ble_eq_true rfl)⟩ dX7_voter_41 ⟨_, rfl, rfl, h⟩
  · have h := h.2 c_3
    refine sv_iload_n (pc := 9) G dX7_voter_9 2 rfl ?_
    refine sv_iconst (pc := 10) G dX7_voter_10 0 ic_0 ?_
    refine sv_bipush (pc := 11) G dX7_voter_11 9 bp_9 ?_
    refine sv_callS (cs := 0) (sl := 0) (st := []) (As := [.int v2, .int 0, .int 9]) (pc := 13) G RR (c_X7_in hL  h) mw_X7_in lk_X7_82 rfl ⟨(Nat.le_of_ble_eq_true rfl), (Nat.le_of_ble_eq_true rfl)⟩ ⟨(Nat.le_of_ble_eq_true rfl), (Nat.le_of_ble_eq_true rfl)⟩ (Nat.le_of_ble_eq_true rfl) rfl dX7_voter_13 (sv_kI (fun r_5 g_4 h => ?_))
    refine sv_if_eq (pc := 16) G 39 (by decide) dX7_voter_16 (fun c_6 => ?_) (fun c_6 => ?_)
    · have h := h.1 c_6
      refine sv_ldc (pc := 39) G dX7_voter_39 cn_X7_90 ?_
      exact sv_ireturn (pc := 41) G T ⟨(Nat.le_of_ble_eq_true rfl), (Nat.le_of_ble_eq_true rfl)⟩ dX7_voter_41 ⟨_, rfl, rfl, h⟩
    · have h := h.2 c_6
      refine sv_iload_n (pc := 19) G dX7_voter_19 3 rfl ?_
      refine sv_iconst (pc := 20) G dX7_voter_20 0 ic_0 ?_
      refine sv_iconst (pc := 21) G dX7_voter_21 3 ic_3 ?_
      refine sv_callS (cs := 0) (sl := 0) (st := []) (As := [.int v3, .int 0, .int 3]) (pc := 22) G RR (c_X7_in hL  h) mw_X7_in lk_X7_82 rfl ⟨(Nat.le_of_ble_eq_true rfl), (Nat.le_of_ble_eq_true rfl)⟩ ⟨(Nat.le_of_ble_eq_true rfl), (Nat.le_of_ble_eq_true rfl)⟩ (Nat.le_of_ble_eq_true rfl) rfl dX7_voter_22 (sv_kI (fun r_8 g_7 h => ?_))
      refine sv_if_eq (pc := 25) G 39 (by decide) dX7_voter_25 (fun c_9 => ?_) (fun c_9 => ?_)
      · have h := h.1 c_9
        refine sv_ldc (pc := 39) G dX7_voter_39 cn_X7_90 ?_
        exact sv_ireturn (pc := 41) G T ⟨(Nat.le_of_ble_eq_true rfl), (Nat.le_of_ble_eq_true rfl)⟩ dX7_voter_41 ⟨_, rfl, rfl, h⟩
      · have h := h.2 c_9
        refine sv_iload (pc := 28) G dX7_voter_28 4 rfl ?_
        refine sv_iconst (pc := 30) G dX7_voter_30 0 ic_0 ?_
        refine sv_bipush (pc := 31) G dX7_voter_31 99 bp_99 ?_
        refine sv_callS (cs := 0) (sl := 0) (st := []) (As := [.int v4, .int 0, .int 99]) (pc := 33) G RR (c_X7_in hL  h) mw_X7_in lk_X7_82 rfl ⟨(Nat.le_of_ble_eq_true rfl), (Nat.le_of_ble_eq_true rfl)⟩ ⟨(Nat.le_of_ble_eq_true rfl), (Nat.le_of_ble_eq_true rfl)⟩ (Nat.le_of_ble_eq_true rfl) rfl dX7_voter_33 (sv_kI (fun r_11 g_10 h => ?_))
        refine sv_if_ne (pc := 36) G 42 (by decide) dX7_voter_36 (fun c_12 => ?_) (fun c_12 => ?_)
        · have h := h.2 c_12
          refine sv_aload_n (pc := 42) G dX7_voter_42 0 rfl ?_
          refine sv_getR (pc := 43) G fw_X7_9 (hL.sh rfl) rfl (hL.rf 60 rfl) dX7_voter_43 ?_
          refine sv_iconst (pc := 46) G dX7_voter_46 1 ic_1 ?_
          refine sv_ialdK (pc := 47) G (hL.sh rfl) vi_1_1443 1 tn_1 dX7_voter_47 ?_
          refine sv_bipush (pc := 48) G dX7_voter_48 10 bp_10 ?_
          refine sv_ic_ne (pc := 50) G 58 (by decide) dX7_voter_50 (fun c_13 => ?_) (fun c_13 => ?_)
          · have h := h.2 c_13
            refine sv_aload_n (pc := 58) G dX7_voter_58 0 rfl ?_
            refine sv_iload_n (pc := 59) G dX7_voter_59 1 rfl ?_
            refine sv_iload_n (pc := 60) G dX7_voter_60 2 rfl ?_
            refine sv_iload_n (pc := 61) G dX7_voter_61 3 rfl ?_
            refine sv_iload (pc := 62) G dX7_voter_62 4 rfl ?_
            refine sv_callV (cs := 0) (sl := 0) (st := []) (As := [.int v1, .int v2, .int v3, .int v4]) (a := 58) (pc := 64) G RR (c_X7_comes hL  h) mw_X7_comes lk_X7_92 (hL.sh rfl) (by decide) rfl rfl ⟨(Nat.le_of_ble_eq_true rfl), (Nat.le_of_ble_eq_true rfl)⟩ ⟨(Nat.le_of_ble_eq_true rfl), (Nat.le_of_ble_eq_true rfl)⟩ (Nat.le_of_ble_eq_true rfl) rfl dX7_voter_64 (sv_kI (fun r_15 g_14 h => ?_))
            exact sv_ireturn (pc := 67) G T ⟨(Nat.le_of_ble_eq_true rfl), (Nat.le_of_ble_eq_true rfl)⟩ dX7_voter_67 ⟨_, rfl, rfl, h⟩
          · have h := h.1 c_13
            refine sv_ldc (pc := 53) G dX7_voter_53 cn_X7_91 ?_
            refine sv_goto (pc := 55) G dX7_voter_55 67 (by decide) ?_
            exact sv_ireturn (pc := 67) G T ⟨(Nat.le_of_ble_eq_true rfl), (Nat.le_of_ble_eq_true rfl)⟩ dX7_voter_67 ⟨_, rfl, rfl, h⟩
        · have h := h.1 c_12
          refine sv_ldc (pc := 39) G dX7_voter_39 cn_X7_90 ?_
          exact sv_ireturn (pc := 41) G T ⟨(Nat.le_of_ble_eq_true rfl), (Nat.le_of_ble_eq_true rfl)⟩ dX7_voter_41 ⟨_, rfl, rfl, h⟩
def wp_X7_weightOf (F : sv_Fr) (v1 : Int32) (g : sv_Mg) (Q : Int32 → sv_Mg → Prop) : Prop := wp_X7_of F v1 0 g (fun r_2 g_1 => ((r_2 = 5 → Q 2 g_1) ∧ (¬ r_2 = 5 → Q 1 g_1)))
set_option maxRecDepth 100000 in
set_option maxHeartbeats 4000000 in
theorem c_X7_weightOf {b : Nat} {xt : sv_Xt} {F : sv_Fr} {v1 : Int32} {g : sv_Mg} {Q : Int32 → sv_Mg → Prop} (hL : sv_Lay F) (h : wp_X7_weightOf F v1 g Q) : sv_Cal yX7_weightOf cX7_weightOf 2 (some .int) 1 22 0 0 b xt [.ref (b + 58), .int v1] F g (sv_qI F Q) := by
  refine sv_intro mw_X7_weightOf [(0, .ref (b + 58)), (1, .int v1)] rfl (Nat.le_of_ble_eq_true rfl) (fun x G RR T NM => ?_)
  have G : sv_G x b xt RX7 cX7_weightOf 2 := G
  unfold wp_X7_weightOf at h
  refine sv_aload_n (pc := 0) G dX7_weightOf_0 0 rfl ?_
  refine sv_iload_n (pc := 1) G dX7_weightOf_1 1 rfl ?_
  refine sv_iconst (pc := 2) G dX7_weightOf_2 0 ic_0 ?_
  refine sv_callV (cs := 0) (sl := 0) (st := []) (As := [.int v1, .int 0]) (a := 58) (pc := 3) G RR (c_X7_of hL  h) mw_X7_of lk_X7_96 (hL.sh rfl) (by decide) rfl rfl ⟨(Nat.le_of_ble_eq_true rfl), (Nat.le_of_ble_eq_true rfl)⟩ ⟨(Nat.le_of_ble_eq_true rfl), (Nat.le_of_ble_eq_true rfl)⟩ (Nat.le_of_ble_eq_true rfl) rfl dX7_weightOf_3 (sv_kI (fun r_2 g_1 h => ?_))
  refine sv_iconst (pc := 6) G dX7_weightOf_6 5 ic_5 ?_
  refine sv_ic_ne (pc := 7) G 14 (by decide) dX7_weightOf_7 (fun c_3 => ?_) (fun c_3 => ?_)
  · have h := h.2 c_3
    refine sv_iconst (pc := 14) G dX7_weightOf_14 1 ic_1 ?_
    exact sv_ireturn (pc := 15) G T ⟨(Nat.le_of_ble_eq_true rfl), (Nat.le_of_ble_eq_true rfl)⟩ dX7_weightOf_15 ⟨_, rfl, rfl, h⟩
  · have h := h.1 c_3
    refine sv_iconst (pc := 10) G dX7_weightOf_10 2 ic_2 ?_
    refine sv_goto (pc := 11) G dX7_weightOf_11 15 (by decide) ?_
    exact sv_ireturn (pc := 15) G T ⟨(Nat.le_of_ble_eq_true rfl), (Nat.le_of_ble_eq_true rfl)⟩ dX7_weightOf_15 ⟨_, rfl, rfl, h⟩
def wp_X7_has_34 (F : sv_Fr) (Q : Int32 → sv_Mg → Prop) (K4 : Int32 → Int32 → Int32 → sv_Mg → Prop) (v1 : Int32) (v3 : Int32) (s0 : Int32) (s1 : Int32) (g : sv_Mg) : Prop := ∀ v2_1 : Int32, v2_1 = (s1 + s0) → ∀ v3_2 : Int32, v3_2 = v3 + 1 → K4 v1 v2_1 v3_2 g
def wp_X7_has_4 (F : sv_Fr) (Q : Int32 → sv_Mg → Prop) : Nat → Int32 → Int32 → Int32 → sv_Mg → Prop
  | 0, _, _, _, _ => False
  | n + 1, v1, v2, v3, g => (((g 59 1) ≤ v3 → Q v2 g) ∧ (¬ (g 59 1) ≤ v3 → wp_X7_of F v3 5 g (fun r_5 g_4 => ((r_5 = v1 → wp_X7_weightOf F v3 g_4 (fun r_8 g_7 => wp_X7_has_34 F  Q (wp_X7_has_4 F Q  n) v1 v3 r_8 v2 g_7)) ∧ (¬ r_5 = v1 → wp_X7_has_34 F  Q (wp_X7_has_4 F Q  n) v1 v3 0 v2 g_4)))))
def wp_X7_has (F : sv_Fr) (v1 : Int32) (g : sv_Mg) (Q : Int32 → sv_Mg → Prop) : Prop := ∃ n_9, wp_X7_has_4 F  Q  n_9 v1 0 0 g
set_option maxRecDepth 100000 in
set_option maxHeartbeats 4000000 in
theorem aw_X7_has_34 {x : sv_X} {b : Nat} {xt : sv_Xt} {F : sv_Fr} {Q : Int32 → sv_Mg → Prop} (G : sv_G x b xt RX7 cX7_has 4) (RR : sv_R x 2 43 0 0) (T : sv_RT x (some .int)) (hL : sv_Lay F) {K4 : Int32 → Int32 → Int32 → sv_Mg → Prop} (hK4 : ∀ (v1 : Int32) (v2 : Int32) (v3 : Int32) (g : sv_Mg), K4 v1 v2 v3 g → sv_AW x (sv_Q x (sv_qI F Q) 0 0) F g 0 0 4 [(0, .ref (b + 58)), (1, .int v1), (2, .int v2), (3, .int v3)] []) : ∀ (v1 : Int32) (v3 : Int32) (s0 : Int32) (s1 : Int32) (g : sv_Mg), wp_X7_has_34 F Q K4 v1 v3 s0 s1 g → sv_AW x (sv_Q x (sv_qI F Q) 0 0) F g 0 0 34 [(0, .ref (b + 58)), (1, .int v1), (3, .int v3)] [.int s0, .int s1] := by
  intro v1 v3 s0 s1 g h
  unfold wp_X7_has_34 at h
  refine sv_iadd (pc := 34) G dX7_has_34 ?_
  refine sv_topi (fun v2_1 ev2_1 => ?_)
  have h := h v2_1 ev2_1
  refine sv_istore_n (pc := 35) G dX7_has_35 [(2, .int v2_1), (0, .ref (b + 58)), (1, .int v1), (3, .int v3)] (by decide) rfl ?_
  obtain ⟨v3_2, ev3_2⟩ : ∃ y : Int32, y = v3 + 1 := ⟨_, rfl⟩
  have h := h v3_2 ev3_2
  refine sv_iinc (pc := 36) G dX7_has_36 3 v3_2 [(3, .int v3_2), (2, .int v2_1), (0, .ref (b + 58)), (1, .int v1)] (by rw [ev3_2, ic_1]) rfl (by decide) rfl ?_
  refine sv_goto (pc := 39) G dX7_has_39 4 (by decide) ?_
  refine sv_locs [2, 3, 1, 0] [(0, .ref (b + 58)), (1, .int v1), (2, .int v2_1), (3, .int v3_2)] rfl ?_
  exact hK4 v1 v2_1 v3_2 g  h
set_option maxRecDepth 100000 in
set_option maxHeartbeats 4000000 in
theorem aw_X7_has_4 {x : sv_X} {b : Nat} {xt : sv_Xt} {F : sv_Fr} {Q : Int32 → sv_Mg → Prop} (G : sv_G x b xt RX7 cX7_has 4) (RR : sv_R x 2 43 0 0) (T : sv_RT x (some .int)) (hL : sv_Lay F) : ∀ (n : Nat) (v1 : Int32) (v2 : Int32) (v3 : Int32) (g : sv_Mg), wp_X7_has_4 F Q  n v1 v2 v3 g → sv_AW x (sv_Q x (sv_qI F Q) 0 0) F g 0 0 4 [(0, .ref (b + 58)), (1, .int v1), (2, .int v2), (3, .int v3)] [] := by
  intro n
  induction n with
  | zero => intro v1 v2 v3 g h; exact h.elim
  | succ n ih =>
    intro v1 v2 v3 g h
    rw [wp_X7_has_4] at h
    refine sv_iload_n (pc := 4) G dX7_has_4 3 rfl ?_
    refine sv_aload_n (pc := 5) G dX7_has_5 0 rfl ?_
    refine sv_getR (pc := 6) G fw_X7_9 (hL.sh rfl) rfl (hL.rf 60 rfl) dX7_has_6 ?_
    refine sv_iconst (pc := 9) G dX7_has_9 1 ic_1 ?_
    refine sv_ialdK (pc := 10) G (hL.sh rfl) vi_1_1443 1 tn_1 dX7_has_10 ?_
    refine sv_ic_ge (pc := 11) G 42 (by decide) dX7_has_11 (fun c_3 => ?_) (fun c_3 => ?_)
    · have h := h.1 c_3
      refine sv_iload_n (pc := 42) G dX7_has_42 2 rfl ?_
      exact sv_ireturn (pc := 43) G T ⟨(Nat.le_of_ble_eq_true rfl), (Nat.le_of_ble_eq_true rfl)⟩ dX7_has_43 ⟨_, rfl, rfl, h⟩
    · have h := h.2 c_3
      refine sv_iload_n (pc := 14) G dX7_has_14 2 rfl ?_
      refine sv_aload_n (pc := 15) G dX7_has_15 0 rfl ?_
      refine sv_iload_n (pc := 16) G dX7_has_16 3 rfl ?_
      refine sv_iconst (pc := 17) G dX7_has_17 5 ic_5 ?_
      refine sv_callV (cs := 0) (sl := 0) (st := [.int v2]) (As := [.int v3, .int 5]) (a := 58) (pc := 18) G RR (c_X7_of hL  h) mw_X7_of lk_X7_96 (hL.sh rfl) (by decide) rfl rfl ⟨(Nat.le_of_ble_eq_true rfl), (Nat.le_of_ble_eq_true rfl)⟩ ⟨(Nat.le_of_ble_eq_true rfl), (Nat.le_of_ble_eq_true rfl)⟩ (Nat.le_of_ble_eq_true rfl) rfl dX7_has_18 (sv_kI (fun r_5 g_4 h => ?_))
      refine sv_iload_n (pc := 21) G dX7_has_21 1 rfl ?_
      refine sv_ic_ne (pc := 22) G 33 (by decide) dX7_has_22 (fun c_6 => ?_) (fun c_6 => ?_)
      · have h := h.2 c_6
        refine sv_iconst (pc := 33) G dX7_has_33 0 ic_0 ?_
        refine sv_locs [0, 1, 3] [(0, .ref (b + 58)), (1, .int v1), (3, .int v3)] rfl ?_
        exact aw_X7_has_34 G RR T hL  ih v1 v3 0 v2 g_4  h
      · have h := h.1 c_6
        refine sv_aload_n (pc := 25) G dX7_has_25 0 rfl ?_
        refine sv_iload_n (pc := 26) G dX7_has_26 3 rfl ?_
        refine sv_callV (cs := 0) (sl := 0) (st := [.int v2]) (As := [.int v3]) (a := 58) (pc := 27) G RR (c_X7_weightOf hL  h) mw_X7_weightOf lk_X7_100 (hL.sh rfl) (by decide) rfl rfl ⟨(Nat.le_of_ble_eq_true rfl), (Nat.le_of_ble_eq_true rfl)⟩ ⟨(Nat.le_of_ble_eq_true rfl), (Nat.le_of_ble_eq_true rfl)⟩ (Nat.le_of_ble_eq_true rfl) rfl dX7_has_27 (sv_kI (fun r_8 g_7 h => ?_))
        refine sv_goto (pc := 30) G dX7_has_30 34 (by decide) ?_
        refine sv_locs [0, 1, 3] [(0, .ref (b + 58)), (1, .int v1), (3, .int v3)] rfl ?_
        exact aw_X7_has_34 G RR T hL  ih v1 v3 r_8 v2 g_7  h
set_option maxRecDepth 100000 in
set_option maxHeartbeats 4000000 in
theorem c_X7_has {b : Nat} {xt : sv_Xt} {F : sv_Fr} {v1 : Int32} {g : sv_Mg} {Q : Int32 → sv_Mg → Prop} (hL : sv_Lay F) (h : wp_X7_has F v1 g Q) : sv_Cal yX7_has cX7_has 4 (some .int) 2 43 0 0 b xt [.ref (b + 58), .int v1] F g (sv_qI F Q) := by
  refine sv_intro mw_X7_has [(0, .ref (b + 58)), (1, .int v1)] rfl (Nat.le_of_ble_eq_true rfl) (fun x G RR T NM => ?_)
  have G : sv_G x b xt RX7 cX7_has 4 := G
  unfold wp_X7_has at h
  refine sv_iconst (pc := 0) G dX7_has_0 0 ic_0 ?_
  refine sv_istore_n (pc := 1) G dX7_has_1 [(2, .int 0), (0, .ref (b + 58)), (1, .int v1)] (by decide) rfl ?_
  refine sv_iconst (pc := 2) G dX7_has_2 0 ic_0 ?_
  refine sv_istore_n (pc := 3) G dX7_has_3 [(3, .int 0), (2, .int 0), (0, .ref (b + 58)), (1, .int v1)] (by decide) rfl ?_
  refine sv_locs [2, 3, 1, 0] [(0, .ref (b + 58)), (1, .int v1), (2, .int 0), (3, .int 0)] rfl ?_
  obtain ⟨n_9, h⟩ := h
  exact aw_X7_has_4 G RR T hL   n_9 v1 0 0 g  h
def wp_X7_mostOf_42 (F : sv_Fr) (Q : Int32 → sv_Mg → Prop) (K4 : Int32 → Int32 → Int32 → sv_Mg → Prop) (v1 : Int32) (v2 : Int32) (v3 : Int32) (g : sv_Mg) : Prop := ∀ v3_1 : Int32, v3_1 = v3 + 1 → K4 v1 v2 v3_1 g
def wp_X7_mostOf_40 (F : sv_Fr) (Q : Int32 → sv_Mg → Prop) (K4 : Int32 → Int32 → Int32 → sv_Mg → Prop) (v1 : Int32) (v3 : Int32) (g : sv_Mg) : Prop := wp_X7_mostOf_42 F  Q K4 v1 v3 v3 g
def wp_X7_mostOf_4 (F : sv_Fr) (Q : Int32 → sv_Mg → Prop) : Nat → Int32 → Int32 → Int32 → sv_Mg → Prop
  | 0, _, _, _, _ => False
  | n + 1, v1, v2, v3, g => (((g 59 1) ≤ v3 → Q v2 g) ∧ (¬ (g 59 1) ≤ v3 → ((((v1 >>> (v3 &&& 31)) &&& 1) = 1 → ((v2 < 0 → wp_X7_mostOf_40 F  Q (wp_X7_mostOf_4 F Q  n) v1 v3 g) ∧ (¬ v2 < 0 → wp_X7_has F v3 g (fun r_6 g_5 => wp_X7_has F v2 g_5 (fun r_8 g_7 => ((r_6 ≤ r_8 → wp_X7_mostOf_42 F  Q (wp_X7_mostOf_4 F Q  n) v1 v2 v3 g_7) ∧ (¬ r_6 ≤ r_8 → wp_X7_mostOf_40 F  Q (wp_X7_mostOf_4 F Q  n) v1 v3 g_7))))))) ∧ (¬ ((v1 >>> (v3 &&& 31)) &&& 1) = 1 → wp_X7_mostOf_42 F  Q (wp_X7_mostOf_4 F Q  n) v1 v2 v3 g))))
def wp_X7_mostOf (F : sv_Fr) (v1 : Int32) (g : sv_Mg) (Q : Int32 → sv_Mg → Prop) : Prop := ∃ n_10, wp_X7_mostOf_4 F  Q  n_10 v1 (-1) 0 g
set_option maxRecDepth 100000 in
set_option maxHeartbeats 4000000 in
theorem aw_X7_mostOf_42 {x : sv_X} {b : Nat} {xt : sv_Xt} {F : sv_Fr} {Q : Int32 → sv_Mg → Prop} (G : sv_G x b xt RX7 cX7_mostOf 4) (RR : sv_R x 3 66 0 0) (T : sv_RT x (some .int)) (hL : sv_Lay F) {K4 : Int32 → Int32 → Int32 → sv_Mg → Prop} (hK4 : ∀ (v1 : Int32) (v2 : Int32) (v3 : Int32) (g : sv_Mg), K4 v1 v2 v3 g → sv_AW x (sv_Q x (sv_qI F Q) 0 0) F g 0 0 4 [(0, .ref (b + 58)), (1, .int v1), (2, .int v2), (3, .int v3)] []) : ∀ (v1 : Int32) (v2 : Int32) (v3 : Int32) (g : sv_Mg), wp_X7_mostOf_42 F Q K4 v1 v2 v3 g → sv_AW x (sv_Q x (sv_qI F Q) 0 0) F g 0 0 42 [(0, .ref (b + 58)), (1, .int v1), (2, .int v2), (3, .int v3)] [] := by
  intro v1 v2 v3 g h
  unfold wp_X7_mostOf_42 at h
  obtain ⟨v3_1, ev3_1⟩ : ∃ y : Int32, y = v3 + 1 := ⟨_, rfl⟩
  have h := h v3_1 ev3_1
  refine sv_iinc (pc := 42) G dX7_mostOf_42 3 v3_1 [(3, .int v3_1), (0, .ref (b + 58)), (1, .int v1), (2, .int v2)] (by rw [ev3_1, ic_1]) rfl (by decide) rfl ?_
  refine sv_goto (pc := 45) G dX7_mostOf_45 4 (by decide) ?_
  refine sv_locs [1, 2, 3, 0] [(0, .ref (b + 58)), (1, .int v1), (2, .int v2), (3, .int v3_1)] rfl ?_
  exact hK4 v1 v2 v3_1 g  h
set_option maxRecDepth 100000 in
set_option maxHeartbeats 4000000 in
theorem aw_X7_mostOf_40 {x : sv_X} {b : Nat} {xt : sv_Xt} {F : sv_Fr} {Q : Int32 → sv_Mg → Prop} (G : sv_G x b xt RX7 cX7_mostOf 4) (RR : sv_R x 3 66 0 0) (T : sv_RT x (some .int)) (hL : sv_Lay F) {K4 : Int32 → Int32 → Int32 → sv_Mg → Prop} (hK4 : ∀ (v1 : Int32) (v2 : Int32) (v3 : Int32) (g : sv_Mg), K4 v1 v2 v3 g → sv_AW x (sv_Q x (sv_qI F Q) 0 0) F g 0 0 4 [(0, .ref (b + 58)), (1, .int v1), (2, .int v2), (3, .int v3)] []) : ∀ (v1 : Int32) (v3 : Int32) (g : sv_Mg), wp_X7_mostOf_40 F Q K4 v1 v3 g → sv_AW x (sv_Q x (sv_qI F Q) 0 0) F g 0 0 40 [(0, .ref (b + 58)), (1, .int v1), (3, .int v3)] [] := by
  intro v1 v3 g h
  unfold wp_X7_mostOf_40 at h
  refine sv_iload_n (pc := 40) G dX7_mostOf_40 2 rfl ?_
  refine sv_istore_n (pc := 41) G dX7_mostOf_41 [(2, .int v3), (0, .ref (b + 58)), (1, .int v1), (3, .int v3)] (by decide) rfl ?_
  refine sv_locs [1, 2, 0, 3] [(0, .ref (b + 58)), (1, .int v1), (2, .int v3), (3, .int v3)] rfl ?_
  exact aw_X7_mostOf_42 G RR T hL  hK4 v1 v3 v3 g  h
set_option maxRecDepth 100000 in
set_option maxHeartbeats 4000000 in
theorem aw_X7_mostOf_4 {x : sv_X} {b : Nat} {xt : sv_Xt} {F : sv_Fr} {Q : Int32 → sv_Mg → Prop} (G : sv_G x b xt RX7 cX7_mostOf 4) (RR : sv_R x 3 66 0 0) (T : sv_RT x (some .int)) (hL : sv_Lay F) : ∀ (n : Nat) (v1 : Int32) (v2 : Int32) (v3 : Int32) (g : sv_Mg), wp_X7_mostOf_4 F Q  n v1 v2 v3 g → sv_AW x (sv_Q x (sv_qI F Q) 0 0) F g 0 0 4 [(0, .ref (b + 58)), (1, .int v1), (2, .int v2), (3, .int v3)] [] := by
  intro n
  induction n with
  | zero => intro v1 v2 v3 g h; exact h.elim
  | succ n ih =>
    intro v1 v2 v3 g h
    rw [wp_X7_mostOf_4] at h
    refine sv_iload_n (pc := 4) G dX7_mostOf_4 3 rfl ?_
    refine sv_aload_n (pc := 5) G dX7_mostOf_5 0 rfl ?_
    refine sv_getR (pc := 6) G fw_X7_9 (hL.sh rfl) rfl (hL.rf 60 rfl) dX7_mostOf_6 ?_
    refine sv_iconst (pc := 9) G dX7_mostOf_9 1 ic_1 ?_
    refine sv_ialdK (pc := 10) G (hL.sh rfl) vi_1_1443 1 tn_1 dX7_mostOf_10 ?_
    refine sv_ic_ge (pc := 11) G 48 (by decide) dX7_mostOf_11 (fun c_2 => ?_) (fun c_2 => ?_)
    · have h := h.1 c_2
      refine sv_iload_n (pc := 48) G dX7_mostOf_48 2 rfl ?_
      exact sv_ireturn (pc := 49) G T ⟨(Nat.le_of_ble_eq_true rfl), (Nat.le_of_ble_eq_true rfl)⟩ dX7_mostOf_49 ⟨_, rfl, rfl, h⟩
    · have h := h.2 c_2
      refine sv_iload_n (pc := 14) G dX7_mostOf_14 1 rfl ?_
      refine sv_iload_n (pc := 15) G dX7_mostOf_15 3 rfl ?_
      refine sv_ishr (pc := 16) G dX7_mostOf_16 ?_
      refine sv_iconst (pc := 17) G dX7_mostOf_17 1 ic_1 ?_
      refine sv_iand (pc := 18) G dX7_mostOf_18 ?_
      refine sv_iconst (pc := 19) G dX7_mostOf_19 1 ic_1 ?_
      refine sv_ic_ne (pc := 20) G 42 (by decide) dX7_mostOf_20 (fun c_3 => ?_) (fun c_3 => ?_)
      · have h := h.2 c_3
        refine sv_locs [0, 1, 2, 3] [(0, .ref (b + 58)), (1, .int v1), (2, .int v2), (3, .int v3)] rfl ?_
        exact aw_X7_mostOf_42 G RR T hL  ih v1 v2 v3 g  h
      · have h := h.1 c_3
        refine sv_iload_n (pc := 23) G dX7_mostOf_23 2 rfl ?_
        refine sv_if_lt (pc := 24) G 40 (by decide) dX7_mostOf_24 (fun c_4 => ?_) (fun c_4 => ?_)
        · have h := h.1 c_4
          refine sv_locs [0, 1, 3] [(0, .ref (b + 58)), (1, .int v1), (3, .int v3)] rfl ?_
          exact aw_X7_mostOf_40 G RR T hL  ih v1 v3 g  h
        · have h := h.2 c_4
          refine sv_aload_n (pc := 27) G dX7_mostOf_27 0 rfl ?_
          refine sv_iload_n (pc := 28) G dX7_mostOf_28 3 rfl ?_
          refine sv_callV (cs := 0) (sl := 0) (st := []) (As := [.int v3]) (a := 58) (pc := 29) G RR (c_X7_has hL  h) mw_X7_has lk_X7_104 (hL.sh rfl) (by decide) rfl rfl ⟨(Nat.le_of_ble_eq_true rfl), (Nat.le_of_ble_eq_true rfl)⟩ ⟨(Nat.le_of_ble_eq_true rfl), (Nat.le_of_ble_eq_true rfl)⟩ (Nat.le_of_ble_eq_true rfl) rfl dX7_mostOf_29 (sv_kI (fun r_6 g_5 h => ?_))
          refine sv_aload_n (pc := 32) G dX7_mostOf_32 0 rfl ?_
          refine sv_iload_n (pc := 33) G dX7_mostOf_33 2 rfl ?_
          refine sv_callV (cs := 0) (sl := 0) (st := [.int r_6]) (As := [.int v2]) (a := 58) (pc := 34) G RR (c_X7_has hL  h) mw_X7_has lk_X7_104 (hL.sh rfl) (by decide) rfl rfl ⟨(Nat.le_of_ble_eq_true rfl), (Nat.le_of_ble_eq_true rfl)⟩ ⟨(Nat.le_of_ble_eq_true rfl), (Nat.le_of_ble_eq_true rfl)⟩ (Nat.le_of_ble_eq_true rfl) rfl dX7_mostOf_34 (sv_kI (fun r_8 g_7 h => ?_))
          refine sv_ic_le (pc := 37) G 42 (by decide) dX7_mostOf_37 (fun c_9 => ?_) (fun c_9 => ?_)
          · have h := h.1 c_9
            refine sv_locs [0, 1, 2, 3] [(0, .ref (b + 58)), (1, .int v1), (2, .int v2), (3, .int v3)] rfl ?_
            exact aw_X7_mostOf_42 G RR T hL  ih v1 v2 v3 g_7  h
          · have h := h.2 c_9
            refine sv_locs [0, 1, 3] [(0, .ref (b + 58)), (1, .int v1), (3, .int v3)] rfl ?_
            exact aw_X7_mostOf_40 G RR T hL  ih v1 v3 g_7  h
set_option maxRecDepth 100000 in
set_option maxHeartbeats 4000000 in
theorem c_X7_mostOf {b : Nat} {xt : sv_Xt} {F : sv_Fr} {v1 : Int32} {g : sv_Mg} {Q : Int32 → sv_Mg → Prop} (hL : sv_Lay F) (h : wp_X7_mostOf F v1 g Q) : sv_Cal yX7_mostOf cX7_mostOf 4 (some .int) 3 66 0 0 b xt [.ref (b + 58), .int v1] F g (sv_qI F Q) := by
  refine sv_intro mw_X7_mostOf [(0, .ref (b + 58)), (1, .int v1)] rfl (Nat.le_of_ble_eq_true rfl) (fun x G RR T NM => ?_)
  have G : sv_G x b xt RX7 cX7_mostOf 4 := G
  unfold wp_X7_mostOf at h
  refine sv_iconst (pc := 0) G dX7_mostOf_0 (-1) ic_m1 ?_
  refine sv_istore_n (pc := 1) G dX7_mostOf_1 [(2, .int (-1)), (0, .ref (b + 58)), (1, .int v1)] (by decide) rfl ?_
  refine sv_iconst (pc := 2) G dX7_mostOf_2 0 ic_0 ?_
  refine sv_istore_n (pc := 3) G dX7_mostOf_3 [(3, .int 0), (2, .int (-1)), (0, .ref (b + 58)), (1, .int v1)] (by decide) rfl ?_
  refine sv_locs [2, 3, 1, 0] [(0, .ref (b + 58)), (1, .int v1), (2, .int (-1)), (3, .int 0)] rfl ?_
  obtain ⟨n_10, h⟩ := h
  exact aw_X7_mostOf_4 G RR T hL   n_10 v1 (-1) 0 g  h
def wp_X7_all (F : sv_Fr) (g : sv_Mg) (Q : Int32 → sv_Mg → Prop) : Prop := Q ((1 <<< ((g 59 1) &&& 31)) - 1) g
set_option maxRecDepth 100000 in
set_option maxHeartbeats 4000000 in
theorem c_X7_all {b : Nat} {xt : sv_Xt} {F : sv_Fr} {g : sv_Mg} {Q : Int32 → sv_Mg → Prop} (hL : sv_Lay F) (h : wp_X7_all F g Q) : sv_Cal yX7_all cX7_all 1 (some .int) 0 0 0 0 b xt [.ref (b + 58)] F g (sv_qI F Q) := by
  refine sv_intro mw_X7_all [(0, .ref (b + 58))] rfl (Nat.le_of_ble_eq_true rfl) (fun x G RR T NM => ?_)
  have G : sv_G x b xt RX7 cX7_all 1 := G
  unfold wp_X7_all at h
  refine sv_iconst (pc := 0) G dX7_all_0 1 ic_1 ?_
  refine sv_aload_n (pc := 1) G dX7_all_1 0 rfl ?_
  refine sv_getR (pc := 2) G fw_X7_9 (hL.sh rfl) rfl (hL.rf 60 rfl) dX7_all_2 ?_
  refine sv_iconst (pc := 5) G dX7_all_5 1 ic_1 ?_
  refine sv_ialdK (pc := 6) G (hL.sh rfl) vi_1_1443 1 tn_1 dX7_all_6 ?_
  refine sv_ishl (pc := 7) G dX7_all_7 ?_
  refine sv_iconst (pc := 8) G dX7_all_8 1 ic_1 ?_
  refine sv_isub (pc := 9) G dX7_all_9 ?_
  exact sv_ireturn (pc := 10) G T ⟨(Nat.le_of_ble_eq_true rfl), (Nat.le_of_ble_eq_true rfl)⟩ dX7_all_10 ⟨_, rfl, rfl, h⟩
def wp_X7_runners_72 (F : sv_Fr) (Q : Int32 → sv_Mg → Prop) (s0 : Int32) (g : sv_Mg) : Prop := Q (s0 ||| 0) g
def wp_X7_runners (F : sv_Fr) (g : sv_Mg) (Q : Int32 → sv_Mg → Prop) : Prop := wp_X7_all F  g (fun r_2 g_1 => wp_X7_mostOf F r_2 g_1 (fun r_4 g_3 => (((g_3 59 3) < (g_3 59 6) → wp_X7_all F  g_3 (fun r_7 g_6 => Q r_7 g_6)) ∧ (¬ (g_3 59 3) < (g_3 59 6) → ((r_4 < 0 → wp_X7_all F  g_3 (fun r_10 g_9 => Q r_10 g_9)) ∧ (¬ r_4 < 0 → wp_X7_has F r_4 g_3 (fun r_12 g_11 => ((r_12 = 0 → wp_X7_all F  g_11 (fun r_23 g_22 => Q r_23 g_22)) ∧ (¬ r_12 = 0 → wp_X7_all F  g_11 (fun r_15 g_14 => wp_X7_mostOf F (r_15 &&& ((1 <<< (r_4 &&& 31)) ^^^ (-1))) g_14 (fun r_17 g_16 => ((r_17 < 0 → wp_X7_runners_72 F  Q  (1 <<< (r_4 &&& 31)) g_16) ∧ (¬ r_17 < 0 → wp_X7_has F r_17 g_16 (fun r_20 g_19 => ((r_20 = 0 → wp_X7_runners_72 F  Q  (1 <<< (r_4 &&& 31)) g_19) ∧ (¬ r_20 = 0 → Q ((1 <<< (r_4 &&& 31)) ||| (1 <<< (r_17 &&& 31))) g_19))))))))))))))))
set_option maxRecDepth 100000 in
set_option maxHeartbeats 4000000 in
theorem aw_X7_runners_72 {x : sv_X} {b : Nat} {xt : sv_Xt} {F : sv_Fr} {Q : Int32 → sv_Mg → Prop} (G : sv_G x b xt RX7 cX7_runners 3) (RR : sv_R x 4 89 0 0) (T : sv_RT x (some .int)) (hL : sv_Lay F) : ∀ (s0 : Int32) (g : sv_Mg), wp_X7_runners_72 F Q  s0 g → sv_AW x (sv_Q x (sv_qI F Q) 0 0) F g 0 0 72 [] [.int s0] := by
  intro s0 g h
  unfold wp_X7_runners_72 at h
  refine sv_iconst (pc := 72) G dX7_runners_72 0 ic_0 ?_
  refine sv_goto (pc := 73) G dX7_runners_73 79 (by decide) ?_
  refine sv_ior (pc := 79) G dX7_runners_79 ?_
  exact sv_ireturn (pc := 80) G T ⟨(Nat.le_of_ble_eq_true rfl), (Nat.le_of_ble_eq_true rfl)⟩ dX7_runners_80 ⟨_, rfl, rfl, h⟩
set_option maxRecDepth 100000 in
set_option maxHeartbeats 4000000 in
theorem c_X7_runners {b : Nat} {xt : sv_Xt} {F : sv_Fr} {g : sv_Mg} {Q : Int32 → sv_Mg → Prop} (hL : sv_Lay F) (h : wp_X7_runners F g Q) : sv_Cal yX7_runners cX7_runners 3 (some .int) 4 89 0 0 b xt [.ref (b + 58)] F g (sv_qI F Q) := by
  refine sv_intro mw_X7_runners [(0, .ref (b + 58))] rfl (Nat.le_of_ble_eq_true rfl) (fun x G RR T NM => ?_)
  have G : sv_G x b xt RX7 cX7_runners 3 := G
  unfold wp_X7_runners at h
  refine sv_aload_n (pc := 0) G dX7_runners_0 0 rfl ?_
  refine sv_aload_n (pc := 1) G dX7_runners_1 0 rfl ?_
  refine sv_callV (cs := 0) (sl := 0) (st := [.ref (b + 58)]) (As := []) (a := 58) (pc := 2) G RR (c_X7_all hL  h) mw_X7_all lk_X7_107 (hL.sh rfl) (by decide) rfl rfl ⟨(Nat.le_of_ble_eq_true rfl), (Nat.le_of_ble_eq_true rfl)⟩ ⟨(Nat.le_of_ble_eq_true rfl), (Nat.le_of_ble_eq_true rfl)⟩ (Nat.le_of_ble_eq_true rfl) rfl dX7_runners_2 (sv_kI (fun r_2 g_1 h => ?_))
  refine sv_callV (cs := 0) (sl := 0) (st := []) (As := [.int r_2]) (a := 58) (pc := 5) G RR (c_X7_mostOf hL  h) mw_X7_mostOf lk_X7_111 (hL.sh rfl) (by decide) rfl rfl ⟨(Nat.le_of_ble_eq_true rfl), (Nat.le_of_ble_eq_true rfl)⟩ ⟨(Nat.le_of_ble_eq_true rfl), (Nat.le_of_ble_eq_true rfl)⟩ (Nat.le_of_ble_eq_true rfl) rfl dX7_runners_5 (sv_kI (fun r_4 g_3 h => ?_))
  refine sv_istore_n (pc := 8) G dX7_runners_8 [(1, .int r_4), (0, .ref (b + 58))] (by decide) rfl ?_
  refine sv_aload_n (pc := 9) G dX7_runners_9 1 rfl ?_
  refine sv_getR (pc := 10) G fw_X7_9 (hL.sh rfl) rfl (hL.rf 60 rfl) dX7_runners_10 ?_
  refine sv_iconst (pc := 13) G dX7_runners_13 3 ic_3 ?_
  refine sv_ialdK (pc := 14) G (hL.sh rfl) vi_3_1443 3 tn_3 dX7_runners_14 ?_
  refine sv_aload_n (pc := 15) G dX7_runners_15 1 rfl ?_
  refine sv_getR (pc := 16) G fw_X7_9 (hL.sh rfl) rfl (hL.rf 60 rfl) dX7_runners_16 ?_
  refine sv_bipush (pc := 19) G dX7_runners_19 6 bp_6 ?_
  refine sv_ialdK (pc := 21) G (hL.sh rfl) vi_6_1443 6 tn_6 dX7_runners_21 ?_
  refine sv_ic_lt (pc := 22) G 37 (by decide) dX7_runners_22 (fun c_5 => ?_) (fun c_5 => ?_)
  · have h := h.1 c_5
    refine sv_aload_n (pc := 37) G dX7_runners_37 1 rfl ?_
    refine sv_callV (cs := 0) (sl := 0) (st := []) (As := []) (a := 58) (pc := 38) G RR (c_X7_all hL  h) mw_X7_all lk_X7_107 (hL.sh rfl) (by decide) rfl rfl ⟨(Nat.le_of_ble_eq_true rfl), (Nat.le_of_ble_eq_true rfl)⟩ ⟨(Nat.le_of_ble_eq_true rfl), (Nat.le_of_ble_eq_true rfl)⟩ (Nat.le_of_ble_eq_true rfl) rfl dX7_runners_38 (sv_kI (fun r_7 g_6 h => ?_))
    exact sv_ireturn (pc := 41) G T ⟨(Nat.le_of_ble_eq_true rfl), (Nat.le_of_ble_eq_true rfl)⟩ dX7_runners_41 ⟨_, rfl, rfl, h⟩
  · have h := h.2 c_5
    refine sv_iload_n (pc := 25) G dX7_runners_25 0 rfl ?_
    refine sv_if_lt (pc := 26) G 37 (by decide) dX7_runners_26 (fun c_8 => ?_) (fun c_8 => ?_)
    · have h := h.1 c_8
      refine sv_aload_n (pc := 37) G dX7_runners_37 1 rfl ?_
      refine sv_callV (cs := 0) (sl := 0) (st := []) (As := []) (a := 58) (pc := 38) G RR (c_X7_all hL  h) mw_X7_all lk_X7_107 (hL.sh rfl) (by decide) rfl rfl ⟨(Nat.le_of_ble_eq_true rfl), (Nat.le_of_ble_eq_true rfl)⟩ ⟨(Nat.le_of_ble_eq_true rfl), (Nat.le_of_ble_eq_true rfl)⟩ (Nat.le_of_ble_eq_true rfl) rfl dX7_runners_38 (sv_kI (fun r_10 g_9 h => ?_))
      exact sv_ireturn (pc := 41) G T ⟨(Nat.le_of_ble_eq_true rfl), (Nat.le_of_ble_eq_true rfl)⟩ dX7_runners_41 ⟨_, rfl, rfl, h⟩
    · have h := h.2 c_8
      refine sv_aload_n (pc := 29) G dX7_runners_29 1 rfl ?_
      refine sv_iload_n (pc := 30) G dX7_runners_30 0 rfl ?_
      refine sv_callV (cs := 0) (sl := 0) (st := []) (As := [.int r_4]) (a := 58) (pc := 31) G RR (c_X7_has hL  h) mw_X7_has lk_X7_104 (hL.sh rfl) (by decide) rfl rfl ⟨(Nat.le_of_ble_eq_true rfl), (Nat.le_of_ble_eq_true rfl)⟩ ⟨(Nat.le_of_ble_eq_true rfl), (Nat.le_of_ble_eq_true rfl)⟩ (Nat.le_of_ble_eq_true rfl) rfl dX7_runners_31 (sv_kI (fun r_12 g_11 h => ?_))
      refine sv_if_ne (pc := 34) G 42 (by decide) dX7_runners_34 (fun c_13 => ?_) (fun c_13 => ?_)
      · have h := h.2 c_13
        refine sv_aload_n (pc := 42) G dX7_runners_42 1 rfl ?_
        refine sv_aload_n (pc := 43) G dX7_runners_43 1 rfl ?_
        refine sv_callV (cs := 0) (sl := 0) (st := [.ref (b + 58)]) (As := []) (a := 58) (pc := 44) G RR (c_X7_all hL  h) mw_X7_all lk_X7_107 (hL.sh rfl) (by decide) rfl rfl ⟨(Nat.le_of_ble_eq_true rfl), (Nat.le_of_ble_eq_true rfl)⟩ ⟨(Nat.le_of_ble_eq_true rfl), (Nat.le_of_ble_eq_true rfl)⟩ (Nat.le_of_ble_eq_true rfl) rfl dX7_runners_44 (sv_kI (fun r_15 g_14 h => ?_))
        refine sv_iconst (pc := 47) G dX7_runners_47 1 ic_1 ?_
        refine sv_iload_n (pc := 48) G dX7_runners_48 0 rfl ?_
        refine sv_ishl (pc := 49) G dX7_runners_49 ?_
        refine sv_iconst (pc := 50) G dX7_runners_50 (-1) ic_m1 ?_
        refine sv_ixor (pc := 51) G dX7_runners_51 ?_
        refine sv_iand (pc := 52) G dX7_runners_52 ?_
        refine sv_callV (cs := 0) (sl := 0) (st := []) (As := [.int (r_15 &&& ((1 <<< (r_4 &&& 31)) ^^^ (-1)))]) (a := 58) (pc := 53) G RR (c_X7_mostOf hL  h) mw_X7_mostOf lk_X7_111 (hL.sh rfl) (by decide) rfl rfl ⟨(Nat.le_of_ble_eq_true rfl), (Nat.le_of_ble_eq_true rfl)⟩ ⟨(Nat.le_of_ble_eq_true rfl), (Nat.le_of_ble_eq_true rfl)⟩ (Nat.le_of_ble_eq_true rfl) rfl dX7_runners_53 (sv_kI (fun r_17 g_16 h => ?_))
        refine sv_istore_n (pc := 56) G dX7_runners_56 [(2, .int r_17), (1, .int r_4), (0, .ref (b + 58))] (by decide) rfl ?_
        refine sv_iconst (pc := 57) G dX7_runners_57 1 ic_1 ?_
        refine sv_iload_n (pc := 58) G dX7_runners_58 1 rfl ?_
        refine sv_ishl (pc := 59) G dX7_runners_59 ?_
        refine sv_iload_n (pc := 60) G dX7_runners_60 0 rfl ?_
        refine sv_if_lt (pc := 61) G 72 (by decide) dX7_runners_61 (fun c_18 => ?_) (fun c_18 => ?_)
        · have h := h.1 c_18
          refine sv_locs [] [] rfl ?_
          exact aw_X7_runners_72 G RR T hL   (1 <<< (r_4 &&& 31)) g_16  h
        · have h := h.2 c_18
          refine sv_aload_n (pc := 64) G dX7_runners_64 2 rfl ?_
          refine sv_iload_n (pc := 65) G dX7_runners_65 0 rfl ?_
          refine sv_callV (cs := 0) (sl := 0) (st := [.int (1 <<< (r_4 &&& 31))]) (As := [.int r_17]) (a := 58) (pc := 66) G RR (c_X7_has hL  h) mw_X7_has lk_X7_104 (hL.sh rfl) (by decide) rfl rfl ⟨(Nat.le_of_ble_eq_true rfl), (Nat.le_of_ble_eq_true rfl)⟩ ⟨(Nat.le_of_ble_eq_true rfl), (Nat.le_of_ble_eq_true rfl)⟩ (Nat.le_of_ble_eq_true rfl) rfl dX7_runners_66 (sv_kI (fun r_20 g_19 h => ?_))
          refine sv_if_ne (pc := 69) G 76 (by decide) dX7_runners_69 (fun c_21 => ?_) (fun c_21 => ?_)
          · have h := h.2 c_21
            refine sv_iconst (pc := 76) G dX7_runners_76 1 ic_1 ?_
            refine sv_iload_n (pc := 77) G dX7_runners_77 0 rfl ?_
            refine sv_ishl (pc := 78) G dX7_runners_78 ?_
            refine sv_ior (pc := 79) G dX7_runners_79 ?_
            exact sv_ireturn (pc := 80) G T ⟨(Nat.le_of_ble_eq_true rfl), (Nat.le_of_ble_eq_true rfl)⟩ dX7_runners_80 ⟨_, rfl, rfl, h⟩
          · have h := h.1 c_21
            refine sv_locs [] [] rfl ?_
            exact aw_X7_runners_72 G RR T hL   (1 <<< (r_4 &&& 31)) g_19  h
      · have h := h.1 c_13
        refine sv_aload_n (pc := 37) G dX7_runners_37 1 rfl ?_
        refine sv_callV (cs := 0) (sl := 0) (st := []) (As := []) (a := 58) (pc := 38) G RR (c_X7_all hL  h) mw_X7_all lk_X7_107 (hL.sh rfl) (by decide) rfl rfl ⟨(Nat.le_of_ble_eq_true rfl), (Nat.le_of_ble_eq_true rfl)⟩ ⟨(Nat.le_of_ble_eq_true rfl), (Nat.le_of_ble_eq_true rfl)⟩ (Nat.le_of_ble_eq_true rfl) rfl dX7_runners_38 (sv_kI (fun r_23 g_22 h => ?_))
        exact sv_ireturn (pc := 41) G T ⟨(Nat.le_of_ble_eq_true rfl), (Nat.le_of_ble_eq_true rfl)⟩ dX7_runners_41 ⟨_, rfl, rfl, h⟩
def wp_X7_ofParty_32 (F : sv_Fr) (Q : Int32 → sv_Mg → Prop) (K4 : Int32 → Int32 → Int32 → sv_Mg → Prop) (v1 : Int32) (v3 : Int32) (s0 : Int32) (s1 : Int32) (g : sv_Mg) : Prop := ∀ v2_1 : Int32, v2_1 = (s1 ||| s0) → ∀ v3_2 : Int32, v3_2 = v3 + 1 → K4 v1 v2_1 v3_2 g
def wp_X7_ofParty_4 (F : sv_Fr) (Q : Int32 → sv_Mg → Prop) : Nat → Int32 → Int32 → Int32 → sv_Mg → Prop
  | 0, _, _, _, _ => False
  | n + 1, v1, v2, v3, g => (((g 59 1) ≤ v3 → Q v2 g) ∧ (¬ (g 59 1) ≤ v3 → wp_X7_of F v3 2 g (fun r_5 g_4 => ((r_5 = v1 → wp_X7_ofParty_32 F  Q (wp_X7_ofParty_4 F Q  n) v1 v3 (1 <<< (v3 &&& 31)) v2 g_4) ∧ (¬ r_5 = v1 → wp_X7_ofParty_32 F  Q (wp_X7_ofParty_4 F Q  n) v1 v3 0 v2 g_4)))))
def wp_X7_ofParty (F : sv_Fr) (v1 : Int32) (g : sv_Mg) (Q : Int32 → sv_Mg → Prop) : Prop := ∃ n_7, wp_X7_ofParty_4 F  Q  n_7 v1 0 0 g
set_option maxRecDepth 100000 in
set_option maxHeartbeats 4000000 in
theorem aw_X7_ofParty_32 {x : sv_X} {b : Nat} {xt : sv_Xt} {F : sv_Fr} {Q : Int32 → sv_Mg → Prop} (G : sv_G x b xt RX7 cX7_ofParty 4) (RR : sv_R x 1 22 0 0) (T : sv_RT x (some .int)) (hL : sv_Lay F) {K4 : Int32 → Int32 → Int32 → sv_Mg → Prop} (hK4 : ∀ (v1 : Int32) (v2 : Int32) (v3 : Int32) (g : sv_Mg), K4 v1 v2 v3 g → sv_AW x (sv_Q x (sv_qI F Q) 0 0) F g 0 0 4 [(0, .ref (b + 58)), (1, .int v1), (2, .int v2), (3, .int v3)] []) : ∀ (v1 : Int32) (v3 : Int32) (s0 : Int32) (s1 : Int32) (g : sv_Mg), wp_X7_ofParty_32 F Q K4 v1 v3 s0 s1 g → sv_AW x (sv_Q x (sv_qI F Q) 0 0) F g 0 0 32 [(0, .ref (b + 58)), (1, .int v1), (3, .int v3)] [.int s0, .int s1] := by
  intro v1 v3 s0 s1 g h
  unfold wp_X7_ofParty_32 at h
  refine sv_ior (pc := 32) G dX7_ofParty_32 ?_
  refine sv_topi (fun v2_1 ev2_1 => ?_)
  have h := h v2_1 ev2_1
  refine sv_istore_n (pc := 33) G dX7_ofParty_33 [(2, .int v2_1), (0, .ref (b + 58)), (1, .int v1), (3, .int v3)] (by decide) rfl ?_
  obtain ⟨v3_2, ev3_2⟩ : ∃ y : Int32, y = v3 + 1 := ⟨_, rfl⟩
  have h := h v3_2 ev3_2
  refine sv_iinc (pc := 34) G dX7_ofParty_34 3 v3_2 [(3, .int v3_2), (2, .int v2_1), (0, .ref (b + 58)), (1, .int v1)] (by rw [ev3_2, ic_1]) rfl (by decide) rfl ?_
  refine sv_goto (pc := 37) G dX7_ofParty_37 4 (by decide) ?_
  refine sv_locs [2, 3, 1, 0] [(0, .ref (b + 58)), (1, .int v1), (2, .int v2_1), (3, .int v3_2)] rfl ?_
  exact hK4 v1 v2_1 v3_2 g  h
set_option maxRecDepth 100000 in
set_option maxHeartbeats 4000000 in
theorem aw_X7_ofParty_4 {x : sv_X} {b : Nat} {xt : sv_Xt} {F : sv_Fr} {Q : Int32 → sv_Mg → Prop} (G : sv_G x b xt RX7 cX7_ofParty 4) (RR : sv_R x 1 22 0 0) (T : sv_RT x (some .int)) (hL : sv_Lay F) : ∀ (n : Nat) (v1 : Int32) (v2 : Int32) (v3 : Int32) (g : sv_Mg), wp_X7_ofParty_4 F Q  n v1 v2 v3 g → sv_AW x (sv_Q x (sv_qI F Q) 0 0) F g 0 0 4 [(0, .ref (b + 58)), (1, .int v1), (2, .int v2), (3, .int v3)] [] := by
  intro n
  induction n with
  | zero => intro v1 v2 v3 g h; exact h.elim
  | succ n ih =>
    intro v1 v2 v3 g h
    rw [wp_X7_ofParty_4] at h
    refine sv_iload_n (pc := 4) G dX7_ofParty_4 3 rfl ?_
    refine sv_aload_n (pc := 5) G dX7_ofParty_5 0 rfl ?_
    refine sv_getR (pc := 6) G fw_X7_9 (hL.sh rfl) rfl (hL.rf 60 rfl) dX7_ofParty_6 ?_
    refine sv_iconst (pc := 9) G dX7_ofParty_9 1 ic_1 ?_
    refine sv_ialdK (pc := 10) G (hL.sh rfl) vi_1_1443 1 tn_1 dX7_ofParty_10 ?_
    refine sv_ic_ge (pc := 11) G 40 (by decide) dX7_ofParty_11 (fun c_3 => ?_) (fun c_3 => ?_)
    · have h := h.1 c_3
      refine sv_iload_n (pc := 40) G dX7_ofParty_40 2 rfl ?_
      exact sv_ireturn (pc := 41) G T ⟨(Nat.le_of_ble_eq_true rfl), (Nat.le_of_ble_eq_true rfl)⟩ dX7_ofParty_41 ⟨_, rfl, rfl, h⟩
    · have h := h.2 c_3
      refine sv_iload_n (pc := 14) G dX7_ofParty_14 2 rfl ?_
      refine sv_aload_n (pc := 15) G dX7_ofParty_15 0 rfl ?_
      refine sv_iload_n (pc := 16) G dX7_ofParty_16 3 rfl ?_
      refine sv_iconst (pc := 17) G dX7_ofParty_17 2 ic_2 ?_
      refine sv_callV (cs := 0) (sl := 0) (st := [.int v2]) (As := [.int v3, .int 2]) (a := 58) (pc := 18) G RR (c_X7_of hL  h) mw_X7_of lk_X7_96 (hL.sh rfl) (by decide) rfl rfl ⟨(Nat.le_of_ble_eq_true rfl), (Nat.le_of_ble_eq_true rfl)⟩ ⟨(Nat.le_of_ble_eq_true rfl), (Nat.le_of_ble_eq_true rfl)⟩ (Nat.le_of_ble_eq_true rfl) rfl dX7_ofParty_18 (sv_kI (fun r_5 g_4 h => ?_))
      refine sv_iload_n (pc := 21) G dX7_ofParty_21 1 rfl ?_
      refine sv_ic_ne (pc := 22) G 31 (by decide) dX7_ofParty_22 (fun c_6 => ?_) (fun c_6 => ?_)
      · have h := h.2 c_6
        refine sv_iconst (pc := 31) G dX7_ofParty_31 0 ic_0 ?_
        refine sv_locs [0, 1, 3] [(0, .ref (b + 58)), (1, .int v1), (3, .int v3)] rfl ?_
        exact aw_X7_ofParty_32 G RR T hL  ih v1 v3 0 v2 g_4  h
      · have h := h.1 c_6
        refine sv_iconst (pc := 25) G dX7_ofParty_25 1 ic_1 ?_
        refine sv_iload_n (pc := 26) G dX7_ofParty_26 3 rfl ?_
        refine sv_ishl (pc := 27) G dX7_ofParty_27 ?_
        refine sv_goto (pc := 28) G dX7_ofParty_28 32 (by decide) ?_
        refine sv_locs [0, 1, 3] [(0, .ref (b + 58)), (1, .int v1), (3, .int v3)] rfl ?_
        exact aw_X7_ofParty_32 G RR T hL  ih v1 v3 (1 <<< (v3 &&& 31)) v2 g_4  h
set_option maxRecDepth 100000 in
set_option maxHeartbeats 4000000 in
theorem c_X7_ofParty {b : Nat} {xt : sv_Xt} {F : sv_Fr} {v1 : Int32} {g : sv_Mg} {Q : Int32 → sv_Mg → Prop} (hL : sv_Lay F) (h : wp_X7_ofParty F v1 g Q) : sv_Cal yX7_ofParty cX7_ofParty 4 (some .int) 1 22 0 0 b xt [.ref (b + 58), .int v1] F g (sv_qI F Q) := by
  refine sv_intro mw_X7_ofParty [(0, .ref (b + 58)), (1, .int v1)] rfl (Nat.le_of_ble_eq_true rfl) (fun x G RR T NM => ?_)
  have G : sv_G x b xt RX7 cX7_ofParty 4 := G
  unfold wp_X7_ofParty at h
  refine sv_iconst (pc := 0) G dX7_ofParty_0 0 ic_0 ?_
  refine sv_istore_n (pc := 1) G dX7_ofParty_1 [(2, .int 0), (0, .ref (b + 58)), (1, .int v1)] (by decide) rfl ?_
  refine sv_iconst (pc := 2) G dX7_ofParty_2 0 ic_0 ?_
  refine sv_istore_n (pc := 3) G dX7_ofParty_3 [(3, .int 0), (2, .int 0), (0, .ref (b + 58)), (1, .int v1)] (by decide) rfl ?_
  refine sv_locs [2, 3, 1, 0] [(0, .ref (b + 58)), (1, .int v1), (2, .int 0), (3, .int 0)] rfl ?_
  obtain ⟨n_7, h⟩ := h
  exact aw_X7_ofParty_4 G RR T hL   n_7 v1 0 0 g  h
def wp_X7_plainly (F : sv_Fr) (v1 : Int32) (v2 : Int32) (g : sv_Mg) (Q : Int32 → sv_Mg → Prop) : Prop := wp_X7_of F v1 1 g (fun r_2 g_1 => ((((v2 >>> (r_2 &&& 31)) &&& 1) = 1 → wp_X7_of F v1 1 g_1 (fun r_7 g_6 => Q r_7 g_6)) ∧ (¬ ((v2 >>> (r_2 &&& 31)) &&& 1) = 1 → wp_X7_mostOf F v2 g_1 (fun r_5 g_4 => Q r_5 g_4))))
set_option maxRecDepth 100000 in
set_option maxHeartbeats 4000000 in
theorem c_X7_plainly {b : Nat} {xt : sv_Xt} {F : sv_Fr} {v1 : Int32} {v2 : Int32} {g : sv_Mg} {Q : Int32 → sv_Mg → Prop} (hL : sv_Lay F) (h : wp_X7_plainly F v1 v2 g Q) : sv_Cal yX7_plainly cX7_plainly 3 (some .int) 4 89 0 0 b xt [.ref (b + 58), .int v1, .int v2] F g (sv_qI F Q) := by
  refine sv_intro mw_X7_plainly [(0, .ref (b + 58)), (1, .int v1), (2, .int v2)] rfl (Nat.le_of_ble_eq_true rfl) (fun x G RR T NM => ?_)
  have G : sv_G x b xt RX7 cX7_plainly 3 := G
  unfold wp_X7_plainly at h
  refine sv_iload_n (pc := 0) G dX7_plainly_0 2 rfl ?_
  refine sv_aload_n (pc := 1) G dX7_plainly_1 0 rfl ?_
  refine sv_iload_n (pc := 2) G dX7_plainly_2 1 rfl ?_
  refine sv_iconst (pc := 3) G dX7_plainly_3 1 ic_1 ?_
  refine sv_callV (cs := 0) (sl := 0) (st := [.int v2]) (As := [.int v1, .int 1]) (a := 58) (pc := 4) G RR (c_X7_of hL  h) mw_X7_of lk_X7_96 (hL.sh rfl) (by decide) rfl rfl ⟨(Nat.le_of_ble_eq_true rfl), (Nat.le_of_ble_eq_true rfl)⟩ ⟨(Nat.le_of_ble_eq_true rfl), (Nat.le_of_ble_eq_true rfl)⟩ (Nat.le_of_ble_eq_true rfl) rfl dX7_plainly_4 (sv_kI (fun r_2 g_1 h => ?_))
  refine sv_ishr (pc := 7) G dX7_plainly_7 ?_
  refine sv_iconst (pc := 8) G dX7_plainly_8 1 ic_1 ?_
  refine sv_iand (pc := 9) G dX7_plainly_9 ?_
  refine sv_iconst (pc := 10) G dX7_plainly_10 1 ic_1 ?_
  refine sv_ic_ne (pc := 11) G 23 (by decide) dX7_plainly_11 (fun c_3 => ?_) (fun c_3 => ?_)
  · have h := h.2 c_3
    refine sv_aload_n (pc := 23) G dX7_plainly_23 0 rfl ?_
    refine sv_iload_n (pc := 24) G dX7_plainly_24 2 rfl ?_
    refine sv_callV (cs := 0) (sl := 0) (st := []) (As := [.int v2]) (a := 58) (pc := 25) G RR (c_X7_mostOf hL  h) mw_X7_mostOf lk_X7_111 (hL.sh rfl) (by decide) rfl rfl ⟨(Nat.le_of_ble_eq_true rfl), (Nat.le_of_ble_eq_true rfl)⟩ ⟨(Nat.le_of_ble_eq_true rfl), (Nat.le_of_ble_eq_true rfl)⟩ (Nat.le_of_ble_eq_true rfl) rfl dX7_plainly_25 (sv_kI (fun r_5 g_4 h => ?_))
    exact sv_ireturn (pc := 28) G T ⟨(Nat.le_of_ble_eq_true rfl), (Nat.le_of_ble_eq_true rfl)⟩ dX7_plainly_28 ⟨_, rfl, rfl, h⟩
  · have h := h.1 c_3
    refine sv_aload_n (pc := 14) G dX7_plainly_14 0 rfl ?_
    refine sv_iload_n (pc := 15) G dX7_plainly_15 1 rfl ?_
    refine sv_iconst (pc := 16) G dX7_plainly_16 1 ic_1 ?_
    refine sv_callV (cs := 0) (sl := 0) (st := []) (As := [.int v1, .int 1]) (a := 58) (pc := 17) G RR (c_X7_of hL  h) mw_X7_of lk_X7_96 (hL.sh rfl) (by decide) rfl rfl ⟨(Nat.le_of_ble_eq_true rfl), (Nat.le_of_ble_eq_true rfl)⟩ ⟨(Nat.le_of_ble_eq_true rfl), (Nat.le_of_ble_eq_true rfl)⟩ (Nat.le_of_ble_eq_true rfl) rfl dX7_plainly_17 (sv_kI (fun r_7 g_6 h => ?_))
    refine sv_goto (pc := 20) G dX7_plainly_20 28 (by decide) ?_
    exact sv_ireturn (pc := 28) G T ⟨(Nat.le_of_ble_eq_true rfl), (Nat.le_of_ble_eq_true rfl)⟩ dX7_plainly_28 ⟨_, rfl, rfl, h⟩
def wp_X7_loyally (F : sv_Fr) (v1 : Int32) (v2 : Int32) (g : sv_Mg) (Q : Int32 → sv_Mg → Prop) : Prop := wp_X7_of F v1 2 g (fun r_2 g_1 => wp_X7_ofParty F r_2 g_1 (fun r_4 g_3 => wp_X7_mostOf F (v2 &&& r_4) g_3 (fun r_6 g_5 => ((0 ≤ r_6 → Q r_6 g_5) ∧ (¬ 0 ≤ r_6 → wp_X7_plainly F v1 v2 g_5 (fun r_9 g_8 => Q r_9 g_8))))))
set_option maxRecDepth 100000 in
set_option maxHeartbeats 4000000 in
theorem c_X7_loyally {b : Nat} {xt : sv_Xt} {F : sv_Fr} {v1 : Int32} {v2 : Int32} {g : sv_Mg} {Q : Int32 → sv_Mg → Prop} (hL : sv_Lay F) (h : wp_X7_loyally F v1 v2 g Q) : sv_Cal yX7_loyally cX7_loyally 4 (some .int) 5 111 0 0 b xt [.ref (b + 58), .int v1, .int v2] F g (sv_qI F Q) := by
  refine sv_intro mw_X7_loyally [(0, .ref (b + 58)), (1, .int v1), (2, .int v2)] rfl (Nat.le_of_ble_eq_true rfl) (fun x G RR T NM => ?_)
  have G : sv_G x b xt RX7 cX7_loyally 4 := G
  unfold wp_X7_loyally at h
  refine sv_aload_n (pc := 0) G dX7_loyally_0 0 rfl ?_
  refine sv_iload_n (pc := 1) G dX7_loyally_1 2 rfl ?_
  refine sv_aload_n (pc := 2) G dX7_loyally_2 0 rfl ?_
  refine sv_aload_n (pc := 3) G dX7_loyally_3 0 rfl ?_
  refine sv_iload_n (pc := 4) G dX7_loyally_4 1 rfl ?_
  refine sv_iconst (pc := 5) G dX7_loyally_5 2 ic_2 ?_
  refine sv_callV (cs := 0) (sl := 0) (st := [.ref (b + 58), .int v2, .ref (b + 58)]) (As := [.int v1, .int 2]) (a := 58) (pc := 6) G RR (c_X7_of hL  h) mw_X7_of lk_X7_96 (hL.sh rfl) (by decide) rfl rfl ⟨(Nat.le_of_ble_eq_true rfl), (Nat.le_of_ble_eq_true rfl)⟩ ⟨(Nat.le_of_ble_eq_true rfl), (Nat.le_of_ble_eq_true rfl)⟩ (Nat.le_of_ble_eq_true rfl) rfl dX7_loyally_6 (sv_kI (fun r_2 g_1 h => ?_))
  refine sv_callV (cs := 0) (sl := 0) (st := [.int v2, .ref (b + 58)]) (As := [.int r_2]) (a := 58) (pc := 9) G RR (c_X7_ofParty hL  h) mw_X7_ofParty lk_X7_114 (hL.sh rfl) (by decide) rfl rfl ⟨(Nat.le_of_ble_eq_true rfl), (Nat.le_of_ble_eq_true rfl)⟩ ⟨(Nat.le_of_ble_eq_true rfl), (Nat.le_of_ble_eq_true rfl)⟩ (Nat.le_of_ble_eq_true rfl) rfl dX7_loyally_9 (sv_kI (fun r_4 g_3 h => ?_))
  refine sv_iand (pc := 12) G dX7_loyally_12 ?_
  refine sv_callV (cs := 0) (sl := 0) (st := []) (As := [.int (v2 &&& r_4)]) (a := 58) (pc := 13) G RR (c_X7_mostOf hL  h) mw_X7_mostOf lk_X7_111 (hL.sh rfl) (by decide) rfl rfl ⟨(Nat.le_of_ble_eq_true rfl), (Nat.le_of_ble_eq_true rfl)⟩ ⟨(Nat.le_of_ble_eq_true rfl), (Nat.le_of_ble_eq_true rfl)⟩ (Nat.le_of_ble_eq_true rfl) rfl dX7_loyally_13 (sv_kI (fun r_6 g_5 h => ?_))
  refine sv_istore_n (pc := 16) G dX7_loyally_16 [(3, .int r_6), (0, .ref (b + 58)), (1, .int v1), (2, .int v2)] (by decide) rfl ?_
  refine sv_iload_n (pc := 17) G dX7_loyally_17 0 rfl ?_
  refine sv_if_ge (pc := 18) G 30 (by decide) dX7_loyally_18 (fun c_7 => ?_) (fun c_7 => ?_)
  · have h := h.1 c_7
    refine sv_iload_n (pc := 30) G dX7_loyally_30 0 rfl ?_
    exact sv_ireturn (pc := 31) G T ⟨(Nat.le_of_ble_eq_true rfl), (Nat.le_of_ble_eq_true rfl)⟩ dX7_loyally_31 ⟨_, rfl, rfl, h⟩
  · have h := h.2 c_7
    refine sv_aload_n (pc := 21) G dX7_loyally_21 1 rfl ?_
    refine sv_iload_n (pc := 22) G dX7_loyally_22 2 rfl ?_
    refine sv_iload_n (pc := 23) G dX7_loyally_23 3 rfl ?_
    refine sv_callV (cs := 0) (sl := 0) (st := []) (As := [.int v1, .int v2]) (a := 58) (pc := 24) G RR (c_X7_plainly hL  h) mw_X7_plainly lk_X7_117 (hL.sh rfl) (by decide) rfl rfl ⟨(Nat.le_of_ble_eq_true rfl), (Nat.le_of_ble_eq_true rfl)⟩ ⟨(Nat.le_of_ble_eq_true rfl), (Nat.le_of_ble_eq_true rfl)⟩ (Nat.le_of_ble_eq_true rfl) rfl dX7_loyally_24 (sv_kI (fun r_9 g_8 h => ?_))
    refine sv_goto (pc := 27) G dX7_loyally_27 31 (by decide) ?_
    exact sv_ireturn (pc := 31) G T ⟨(Nat.le_of_ble_eq_true rfl), (Nat.le_of_ble_eq_true rfl)⟩ dX7_loyally_31 ⟨_, rfl, rfl, h⟩
def wp_X7_counts_10 (F : sv_Fr) (Q : Int32 → sv_Mg → Prop) : Nat → Int32 → Int32 → sv_Mg → Prop
  | 0, _, _, _ => False
  | n + 1, v1, v2, g => ((v2 < 0 → Q (-1) g) ∧ (¬ v2 < 0 → vp_in (71 + (2 * v2)) 1443 ∧ ((((g 59 (71 + (2 * v2)).toNatClampNeg) / 1000) = v1 → Q v2 g) ∧ (¬ ((g 59 (71 + (2 * v2)).toNatClampNeg) / 1000) = v1 → ∀ v2_4 : Int32, v2_4 = v2 + (-1) → (wp_X7_counts_10 F Q  n) v1 v2_4 g))))
def wp_X7_counts (F : sv_Fr) (v1 : Int32) (g : sv_Mg) (Q : Int32 → sv_Mg → Prop) : Prop := ∀ v2_5 : Int32, v2_5 = ((g 59 10) - 1) → ∃ n_6, wp_X7_counts_10 F  Q  n_6 v1 v2_5 g
set_option maxRecDepth 100000 in
set_option maxHeartbeats 4000000 in
theorem aw_X7_counts_10 {x : sv_X} {b : Nat} {xt : sv_Xt} {F : sv_Fr} {Q : Int32 → sv_Mg → Prop} (G : sv_G x b xt RX7 cX7_counts 3) (RR : sv_R x 0 0 0 0) (T : sv_RT x (some .int)) (hL : sv_Lay F) : ∀ (n : Nat) (v1 : Int32) (v2 : Int32) (g : sv_Mg), wp_X7_counts_10 F Q  n v1 v2 g → sv_AW x (sv_Q x (sv_qI F Q) 0 0) F g 0 0 10 [(0, .ref (b + 58)), (1, .int v1), (2, .int v2)] [] := by
  intro n
  induction n with
  | zero => intro v1 v2 g h; exact h.elim
  | succ n ih =>
    intro v1 v2 g h
    rw [wp_X7_counts_10] at h
    refine sv_iload_n (pc := 10) G dX7_counts_10 2 rfl ?_
    refine sv_if_lt (pc := 11) G 41 (by decide) dX7_counts_11 (fun c_1 => ?_) (fun c_1 => ?_)
    · have h := h.1 c_1
      refine sv_iconst (pc := 41) G dX7_counts_41 (-1) ic_m1 ?_
      exact sv_ireturn (pc := 42) G T ⟨(Nat.le_of_ble_eq_true rfl), (Nat.le_of_ble_eq_true rfl)⟩ dX7_counts_42 ⟨_, rfl, rfl, h⟩
    · have h := h.2 c_1
      refine sv_aload_n (pc := 14) G dX7_counts_14 0 rfl ?_
      refine sv_getR (pc := 15) G fw_X7_9 (hL.sh rfl) rfl (hL.rf 60 rfl) dX7_counts_15 ?_
      refine sv_bipush (pc := 18) G dX7_counts_18 71 bp_71 ?_
      refine sv_iconst (pc := 20) G dX7_counts_20 2 ic_2 ?_
      refine sv_iload_n (pc := 21) G dX7_counts_21 2 rfl ?_
      refine sv_imul (pc := 22) G dX7_counts_22 ?_
      refine sv_iadd (pc := 23) G dX7_counts_23 ?_
      obtain ⟨s_2, h⟩ := h
      refine sv_ialdK (pc := 24) G (hL.sh rfl) s_2 (71 + (2 * v2)).toNatClampNeg rfl dX7_counts_24 ?_
      refine sv_sipush (pc := 25) G dX7_counts_25 1000 sp_1000 ?_
      refine sv_idiv (pc := 28) G dX7_counts_28 (by decide) ?_
      refine sv_iload_n (pc := 29) G dX7_counts_29 1 rfl ?_
      refine sv_ic_ne (pc := 30) G 35 (by decide) dX7_counts_30 (fun c_3 => ?_) (fun c_3 => ?_)
      · have h := h.2 c_3
        obtain ⟨v2_4, ev2_4⟩ : ∃ y : Int32, y = v2 + (-1) := ⟨_, rfl⟩
        have h := h v2_4 ev2_4
        refine sv_iinc (pc := 35) G dX7_counts_35 2 v2_4 [(2, .int v2_4), (0, .ref (b + 58)), (1, .int v1)] (by rw [ev2_4, ic_m1]) rfl (by decide) rfl ?_
        refine sv_goto (pc := 38) G dX7_counts_38 10 (by decide) ?_
        refine sv_locs [1, 2, 0] [(0, .ref (b + 58)), (1, .int v1), (2, .int v2_4)] rfl ?_
        exact ih v1 v2_4 g  h
      · have h := h.1 c_3
        refine sv_iload_n (pc := 33) G dX7_counts_33 2 rfl ?_
        exact sv_ireturn (pc := 34) G T ⟨(Nat.le_of_ble_eq_true rfl), (Nat.le_of_ble_eq_true rfl)⟩ dX7_counts_34 ⟨_, rfl, rfl, h⟩
set_option maxRecDepth 100000 in
set_option maxHeartbeats 4000000 in
theorem c_X7_counts {b : Nat} {xt : sv_Xt} {F : sv_Fr} {v1 : Int32} {g : sv_Mg} {Q : Int32 → sv_Mg → Prop} (hL : sv_Lay F) (h : wp_X7_counts F v1 g Q) : sv_Cal yX7_counts cX7_counts 3 (some .int) 0 0 0 0 b xt [.ref (b + 58), .int v1] F g (sv_qI F Q) := by
  refine sv_intro mw_X7_counts [(0, .ref (b + 58)), (1, .int v1)] rfl (Nat.le_of_ble_eq_true rfl) (fun x G RR T NM => ?_)
  have G : sv_G x b xt RX7 cX7_counts 3 := G
  unfold wp_X7_counts at h
  refine sv_aload_n (pc := 0) G dX7_counts_0 0 rfl ?_
  refine sv_getR (pc := 1) G fw_X7_9 (hL.sh rfl) rfl (hL.rf 60 rfl) dX7_counts_1 ?_
  refine sv_bipush (pc := 4) G dX7_counts_4 10 bp_10 ?_
  refine sv_ialdK (pc := 6) G (hL.sh rfl) vi_10_1443 10 tn_10 dX7_counts_6 ?_
  refine sv_iconst (pc := 7) G dX7_counts_7 1 ic_1 ?_
  refine sv_isub (pc := 8) G dX7_counts_8 ?_
  refine sv_topi (fun v2_5 ev2_5 => ?_)
  have h := h v2_5 ev2_5
  refine sv_istore_n (pc := 9) G dX7_counts_9 [(2, .int v2_5), (0, .ref (b + 58)), (1, .int v1)] (by decide) rfl ?_
  refine sv_locs [1, 2, 0] [(0, .ref (b + 58)), (1, .int v1), (2, .int v2_5)] rfl ?_
  obtain ⟨n_6, h⟩ := h
  exact aw_X7_counts_10 G RR T hL   n_6 v1 v2_5 g  h
def wp_X7_two_56 (F : sv_Fr) (Q : Int32 → sv_Mg → Prop) (g : sv_Mg) : Prop := Q 1 g
def wp_X7_two (F : sv_Fr) (v0 : Int32) (v1 : Int32) (v2 : Int32) (g : sv_Mg) (Q : Int32 → sv_Mg → Prop) : Prop := ((v0 = (-8) → Q (v1 * v2) g) ∧ (¬ v0 = (-8) → ((v0 = (-7) → Q (v1 - v2) g) ∧ (¬ v0 = (-7) → ((v0 = (-6) → Q (v1 + v2) g) ∧ (¬ v0 = (-6) → ((v0 = (-5) → ((v1 ≤ v2 → Q 0 g) ∧ (¬ v1 ≤ v2 → Q 1 g))) ∧ (¬ v0 = (-5) → ((v0 = (-4) → ((v1 = v2 → Q 1 g) ∧ (¬ v1 = v2 → Q 0 g))) ∧ (¬ v0 = (-4) → ((v0 = (-3) → ((v2 ≤ v1 → Q 0 g) ∧ (¬ v2 ≤ v1 → Q 1 g))) ∧ (¬ v0 = (-3) → ((v0 = (-2) → ((v1 = 0 → Q 0 g) ∧ (¬ v1 = 0 → ((v2 = 0 → Q 0 g) ∧ (¬ v2 = 0 → Q 1 g))))) ∧ (¬ v0 = (-2) → ((v0 = (-1) → ((v1 = 0 → ((v2 = 0 → Q 0 g) ∧ (¬ v2 = 0 → wp_X7_two_56 F  Q   g))) ∧ (¬ v1 = 0 → wp_X7_two_56 F  Q   g))) ∧ (¬ v0 = (-1) → ((v2 = 0 → Q 0 g) ∧ (¬ v2 = 0 → ¬ v2 = 0 ∧ Q (v1 / v2) g))))))))))))))))))
set_option maxRecDepth 100000 in
set_option maxHeartbeats 4000000 in
theorem aw_X7_two_56 {x : sv_X} {b : Nat} {xt : sv_Xt} {F : sv_Fr} {Q : Int32 → sv_Mg → Prop} (G : sv_G x b xt RX7 cX7_two 3) (RR : sv_R x 0 0 0 0) (T : sv_RT x (some .int)) (hL : sv_Lay F) : ∀  (g : sv_Mg), wp_X7_two_56 F Q   g → sv_AW x (sv_Q x (sv_qI F Q) 0 0) F g 0 0 56 [] [] := by
  intro g h
  unfold wp_X7_two_56 at h
  refine sv_iconst (pc := 56) G dX7_two_56 1 ic_1 ?_
  refine sv_goto (pc := 57) G dX7_two_57 61 (by decide) ?_
  exact sv_ireturn (pc := 61) G T ⟨(Nat.le_of_ble_eq_true rfl), (Nat.le_of_ble_eq_true rfl)⟩ dX7_two_61 ⟨_, rfl, rfl, h⟩
set_option maxRecDepth 100000 in
set_option maxHeartbeats 4000000 in
theorem c_X7_two {b : Nat} {xt : sv_Xt} {F : sv_Fr} {v0 : Int32} {v1 : Int32} {v2 : Int32} {g : sv_Mg} {Q : Int32 → sv_Mg → Prop} (hL : sv_Lay F) (h : wp_X7_two F v0 v1 v2 g Q) : sv_Cal yX7_two cX7_two 3 (some .int) 0 0 0 0 b xt [.int v0, .int v1, .int v2] F g (sv_qI F Q) := by
  refine sv_intro mw_X7_two [(0, .int v0), (1, .int v1), (2, .int v2)] rfl (Nat.le_of_ble_eq_true rfl) (fun x G RR T NM => ?_)
  have G : sv_G x b xt RX7 cX7_two 3 := G
  unfold wp_X7_two at h
  refine sv_iload_n (pc := 0) G dX7_two_0 0 rfl ?_
  by_cases c_1 : v0 = (-8)
  · have h := h.1 c_1
    refine sv_tsw (pc := 1) G dX7_two_1 (-8) (by rw [c_1]; decide) 117 (by decide) (by decide) rfl (by decide) ?_
    refine sv_iload_n (pc := 117) G dX7_two_117 1 rfl ?_
    refine sv_iload_n (pc := 118) G dX7_two_118 2 rfl ?_
    refine sv_imul (pc := 119) G dX7_two_119 ?_
    exact sv_ireturn (pc := 120) G T ⟨(Nat.le_of_ble_eq_true rfl), (Nat.le_of_ble_eq_true rfl)⟩ dX7_two_120 ⟨_, rfl, rfl, h⟩
  · have h := h.2 c_1
    by_cases c_2 : v0 = (-7)
    · have h := h.1 c_2
      refine sv_tsw (pc := 1) G dX7_two_1 (-7) (by rw [c_2]; decide) 113 (by decide) (by decide) rfl (by decide) ?_
      refine sv_iload_n (pc := 113) G dX7_two_113 1 rfl ?_
      refine sv_iload_n (pc := 114) G dX7_two_114 2 rfl ?_
      refine sv_isub (pc := 115) G dX7_two_115 ?_
      exact sv_ireturn (pc := 116) G T ⟨(Nat.le_of_ble_eq_true rfl), (Nat.le_of_ble_eq_true rfl)⟩ dX7_two_116 ⟨_, rfl, rfl, h⟩
    · have h := h.2 c_2
      by_cases c_3 : v0 = (-6)
      · have h := h.1 c_3
        refine sv_tsw (pc := 1) G dX7_two_1 (-6) (by rw [c_3]; decide) 109 (by decide) (by decide) rfl (by decide) ?_
        refine sv_iload_n (pc := 109) G dX7_two_109 1 rfl ?_
        refine sv_iload_n (pc := 110) G dX7_two_110 2 rfl ?_
        refine sv_iadd (pc := 111) G dX7_two_111 ?_
        exact sv_ireturn (pc := 112) G T ⟨(Nat.le_of_ble_eq_true rfl), (Nat.le_of_ble_eq_true rfl)⟩ dX7_two_112 ⟨_, rfl, rfl, h⟩
      · have h := h.2 c_3
        by_cases c_4 : v0 = (-5)
        · have h := h.1 c_4
          refine sv_tsw (pc := 1) G dX7_two_1 (-5) (by rw [c_4]; decide) 98 (by decide) (by decide) rfl (by decide) ?_
          refine sv_iload_n (pc := 98) G dX7_two_98 1 rfl ?_
          refine sv_iload_n (pc := 99) G dX7_two_99 2 rfl ?_
          refine sv_ic_le (pc := 100) G 107 (by decide) dX7_two_100 (fun c_5 => ?_) (fun c_5 => ?_)
          · have h := h.1 c_5
            refine sv_iconst (pc := 107) G dX7_two_107 0 ic_0 ?_
            exact sv_ireturn (pc := 108) G T ⟨(Nat.le_of_ble_eq_true rfl), (Nat.le_of_ble_eq_true rfl)⟩ dX7_two_108 ⟨_, rfl, rfl, h⟩
          · have h := h.2 c_5
            refine sv_iconst (pc := 103) G dX7_two_103 1 ic_1 ?_
            refine sv_goto (pc := 104) G dX7_two_104 108 (by decide) ?_
            exact sv_ireturn (pc := 108) G T ⟨(Nat.le_of_ble_eq_true rfl), (Nat.le_of_ble_eq_true rfl)⟩ dX7_two_108 ⟨_, rfl, rfl, h⟩
        · have h := h.2 c_4
          by_cases c_6 : v0 = (-4)
          · have h := h.1 c_6
            refine sv_tsw (pc := 1) G dX7_two_1 (-4) (by rw [c_6]; decide) 87 (by decide) (by decide) rfl (by decide) ?_
            refine sv_iload_n (pc := 87) G dX7_two_87 1 rfl ?_
            refine sv_iload_n (pc := 88) G dX7_two_88 2 rfl ?_
            refine sv_ic_ne (pc := 89) G 96 (by decide) dX7_two_89 (fun c_7 => ?_) (fun c_7 => ?_)
            · have h := h.2 c_7
              refine sv_iconst (pc := 96) G dX7_two_96 0 ic_0 ?_
              exact sv_ireturn (pc := 97) G T ⟨(Nat.le_of_ble_eq_true rfl), (Nat.le_of_ble_eq_true rfl)⟩ dX7_two_97 ⟨_, rfl, rfl, h⟩
            · have h := h.1 c_7
              refine sv_iconst (pc := 92) G dX7_two_92 1 ic_1 ?_
              refine sv_goto (pc := 93) G dX7_two_93 97 (by decide) ?_
              exact sv_ireturn (pc := 97) G T ⟨(Nat.le_of_ble_eq_true rfl), (Nat.le_of_ble_eq_true rfl)⟩ dX7_two_97 ⟨_, rfl, rfl, h⟩
          · have h := h.2 c_6
            by_cases c_8 : v0 = (-3)
            · have h := h.1 c_8
              refine sv_tsw (pc := 1) G dX7_two_1 (-3) (by rw [c_8]; decide) 76 (by decide) (by decide) rfl (by decide) ?_
              refine sv_iload_n (pc := 76) G dX7_two_76 1 rfl ?_
              refine sv_iload_n (pc := 77) G dX7_two_77 2 rfl ?_
              refine sv_ic_ge (pc := 78) G 85 (by decide) dX7_two_78 (fun c_9 => ?_) (fun c_9 => ?_)
              · have h := h.1 c_9
                refine sv_iconst (pc := 85) G dX7_two_85 0 ic_0 ?_
                exact sv_ireturn (pc := 86) G T ⟨(Nat.le_of_ble_eq_true rfl), (Nat.le_of_ble_eq_true rfl)⟩ dX7_two_86 ⟨_, rfl, rfl, h⟩
              · have h := h.2 c_9
                refine sv_iconst (pc := 81) G dX7_two_81 1 ic_1 ?_
                refine sv_goto (pc := 82) G dX7_two_82 86 (by decide) ?_
                exact sv_ireturn (pc := 86) G T ⟨(Nat.le_of_ble_eq_true rfl), (Nat.le_of_ble_eq_true rfl)⟩ dX7_two_86 ⟨_, rfl, rfl, h⟩
            · have h := h.2 c_8
              by_cases c_10 : v0 = (-2)
              · have h := h.1 c_10
                refine sv_tsw (pc := 1) G dX7_two_1 (-2) (by rw [c_10]; decide) 62 (by decide) (by decide) rfl (by decide) ?_
                refine sv_iload_n (pc := 62) G dX7_two_62 1 rfl ?_
                refine sv_if_eq (pc := 63) G 74 (by decide) dX7_two_63 (fun c_11 => ?_) (fun c_11 => ?_)
                · have h := h.1 c_11
                  refine sv_iconst (pc := 74) G dX7_two_74 0 ic_0 ?_
                  exact sv_ireturn (pc := 75) G T ⟨(Nat.le_of_ble_eq_true rfl), (Nat.le_of_ble_eq_true rfl)⟩ dX7_two_75 ⟨_, rfl, rfl, h⟩
                · have h := h.2 c_11
                  refine sv_iload_n (pc := 66) G dX7_two_66 2 rfl ?_
                  refine sv_if_eq (pc := 67) G 74 (by decide) dX7_two_67 (fun c_12 => ?_) (fun c_12 => ?_)
                  · have h := h.1 c_12
                    refine sv_iconst (pc := 74) G dX7_two_74 0 ic_0 ?_
                    exact sv_ireturn (pc := 75) G T ⟨(Nat.le_of_ble_eq_true rfl), (Nat.le_of_ble_eq_true rfl)⟩ dX7_two_75 ⟨_, rfl, rfl, h⟩
                  · have h := h.2 c_12
                    refine sv_iconst (pc := 70) G dX7_two_70 1 ic_1 ?_
                    refine sv_goto (pc := 71) G dX7_two_71 75 (by decide) ?_
                    exact sv_ireturn (pc := 75) G T ⟨(Nat.le_of_ble_eq_true rfl), (Nat.le_of_ble_eq_true rfl)⟩ dX7_two_75 ⟨_, rfl, rfl, h⟩
              · have h := h.2 c_10
                by_cases c_13 : v0 = (-1)
                · have h := h.1 c_13
                  refine sv_tsw (pc := 1) G dX7_two_1 (-1) (by rw [c_13]; decide) 48 (by decide) (by decide) rfl (by decide) ?_
                  refine sv_iload_n (pc := 48) G dX7_two_48 1 rfl ?_
                  refine sv_if_ne (pc := 49) G 56 (by decide) dX7_two_49 (fun c_14 => ?_) (fun c_14 => ?_)
                  · have h := h.2 c_14
                    refine sv_locs [] [] rfl ?_
                    exact aw_X7_two_56 G RR T hL    g  h
                  · have h := h.1 c_14
                    refine sv_iload_n (pc := 52) G dX7_two_52 2 rfl ?_
                    refine sv_if_eq (pc := 53) G 60 (by decide) dX7_two_53 (fun c_15 => ?_) (fun c_15 => ?_)
                    · have h := h.1 c_15
                      refine sv_iconst (pc := 60) G dX7_two_60 0 ic_0 ?_
                      exact sv_ireturn (pc := 61) G T ⟨(Nat.le_of_ble_eq_true rfl), (Nat.le_of_ble_eq_true rfl)⟩ dX7_two_61 ⟨_, rfl, rfl, h⟩
                    · have h := h.2 c_15
                      refine sv_locs [] [] rfl ?_
                      exact aw_X7_two_56 G RR T hL    g  h
                · have h := h.2 c_13
                  refine sv_tswD (pc := 1) G dX7_two_1 (by have qc_1 := lv_neT (a := (-8)) c_1 (by decide); have qc_2 := lv_neT (a := (-7)) c_2 (by decide); have qc_3 := lv_neT (a := (-6)) c_3 (by decide); have qc_4 := lv_neT (a := (-5)) c_4 (by decide); have qc_6 := lv_neT (a := (-4)) c_6 (by decide); have qc_8 := lv_neT (a := (-3)) c_8 (by decide); have qc_10 := lv_neT (a := (-2)) c_10 (by decide); have qc_13 := lv_neT (a := (-1)) c_13 (by decide); omega) 121 (by decide) ?_
                  refine sv_iload_n (pc := 121) G dX7_two_121 2 rfl ?_
                  refine sv_if_ne (pc := 122) G 129 (by decide) dX7_two_122 (fun c_16 => ?_) (fun c_16 => ?_)
                  · have h := h.2 c_16
                    refine sv_iload_n (pc := 129) G dX7_two_129 1 rfl ?_
                    refine sv_iload_n (pc := 130) G dX7_two_130 2 rfl ?_
                    obtain ⟨s_17, h⟩ := h
                    refine sv_idiv (pc := 131) G dX7_two_131 s_17 ?_
                    exact sv_ireturn (pc := 132) G T ⟨(Nat.le_of_ble_eq_true rfl), (Nat.le_of_ble_eq_true rfl)⟩ dX7_two_132 ⟨_, rfl, rfl, h⟩
                  · have h := h.1 c_16
                    refine sv_iconst (pc := 125) G dX7_two_125 0 ic_0 ?_
                    refine sv_goto (pc := 126) G dX7_two_126 132 (by decide) ?_
                    exact sv_ireturn (pc := 132) G T ⟨(Nat.le_of_ble_eq_true rfl), (Nat.le_of_ble_eq_true rfl)⟩ dX7_two_132 ⟨_, rfl, rfl, h⟩
def wp_X7_worksOut_149 (F : sv_Fr) (Q : Int32 → sv_Mg → Prop) (K21 : Int32 → Int32 → Int32 → Int32 → sv_Mg → Prop) (v1 : Int32) (v2 : Int32) (v3 : Int32) (v4 : Int32) (g : sv_Mg) : Prop := ∀ v4_1 : Int32, v4_1 = v4 + 1 → K21 v1 v2 v3 v4_1 g
def wp_X7_worksOut_115 (F : sv_Fr) (Q : Int32 → sv_Mg → Prop) (K21 : Int32 → Int32 → Int32 → Int32 → sv_Mg → Prop) (v1 : Int32) (v2 : Int32) (v3 : Int32) (v4 : Int32) (s0 : Int32) (s1 : Int32) (g : sv_Mg) : Prop := vp_in s1 96 ∧ ∀ g_3, g_3 = sv_st g 71 s1.toNatClampNeg s0 → wp_X7_worksOut_149 F  Q K21 v1 v2 v3 v4 g_3
def wp_X7_worksOut_78 (F : sv_Fr) (Q : Int32 → sv_Mg → Prop) (K21 : Int32 → Int32 → Int32 → Int32 → sv_Mg → Prop) (v1 : Int32) (v2 : Int32) (v3 : Int32) (v4 : Int32) (s0 : Int32) (s1 : Int32) (g : sv_Mg) : Prop := vp_in s1 96 ∧ ∀ g_5, g_5 = sv_st g 71 s1.toNatClampNeg s0 → ∀ v2_6 : Int32, v2_6 = v2 + 1 → wp_X7_worksOut_149 F  Q K21 v1 v2_6 v3 v4 g_5
def wp_X7_worksOut_21 (F : sv_Fr) (Q : Int32 → sv_Mg → Prop) : Nat → Int32 → Int32 → Int32 → Int32 → sv_Mg → Prop
  | 0, _, _, _, _, _ => False
  | n + 1, v1, v2, v3, v4, g => ((v3 ≤ v4 → Q (g 71 0) g) ∧ (¬ v3 ≤ v4 → vp_in ((99 + (96 * v1)) + v4) 1443 ∧ ∀ v5_9 : Int32, v5_9 = (g 59 ((99 + (96 * v1)) + v4).toNatClampNeg) → ((v5_9 < 0 → ((v5_9 = (-10) → vp_in (v2 - 1) 96 ∧ (((g 71 (v2 - 1).toNatClampNeg) = 0 → wp_X7_worksOut_115 F  Q (wp_X7_worksOut_21 F Q  n) v1 v2 v3 v4 1 (v2 - 1) g) ∧ (¬ (g 71 (v2 - 1).toNatClampNeg) = 0 → wp_X7_worksOut_115 F  Q (wp_X7_worksOut_21 F Q  n) v1 v2 v3 v4 0 (v2 - 1) g))) ∧ (¬ v5_9 = (-10) → ∀ v2_12 : Int32, v2_12 = v2 + (-1) → vp_in (v2_12 - 1) 96 ∧ vp_in v2_12 96 ∧ wp_X7_two F v5_9 (g 71 (v2_12 - 1).toNatClampNeg) (g 71 v2_12.toNatClampNeg) g (fun r_16 g_15 => vp_in (v2_12 - 1) 96 ∧ ∀ g_18, g_18 = sv_st g_15 71 (v2_12 - 1).toNatClampNeg r_16 → wp_X7_worksOut_149 F  Q (wp_X7_worksOut_21 F Q  n) v1 v2_12 v3 v4 g_18)))) ∧ (¬ v5_9 < 0 → ((10000 ≤ v5_9 → vp_in (v5_9 - 10000) 4 ∧ wp_X7_worksOut_78 F  Q (wp_X7_worksOut_21 F Q  n) v1 v2 v3 v4 (g 72 (v5_9 - 10000).toNatClampNeg) v2 g) ∧ (¬ 10000 ≤ v5_9 → wp_X7_worksOut_78 F  Q (wp_X7_worksOut_21 F Q  n) v1 v2 v3 v4 v5_9 v2 g))))))
def wp_X7_worksOut (F : sv_Fr) (v1 : Int32) (g : sv_Mg) (Q : Int32 → sv_Mg → Prop) : Prop := vp_in (71 + (2 * v1)) 1443 ∧ ∀ v3_24 : Int32, v3_24 = ((g 59 (71 + (2 * v1)).toNatClampNeg) - (g 59 (71 + (2 * v1)).toNatClampNeg) / 1000 * 1000) → ∃ n_25, wp_X7_worksOut_21 F  Q  n_25 v1 0 v3_24 0 g
set_option maxRecDepth 100000 in
set_option maxHeartbeats 4000000 in
theorem aw_X7_worksOut_149 {x : sv_X} {b : Nat} {xt : sv_Xt} {F : sv_Fr} {Q : Int32 → sv_Mg → Prop} (G : sv_G x b xt RX7 cX7_worksOut 6) (RR : sv_R x 1 22 0 0) (T : sv_RT x (some .int)) (hL : sv_Lay F) {K21 : Int32 → Int32 → Int32 → Int32 → sv_Mg → Prop} (hK21 : ∀ (v1 : Int32) (v2 : Int32) (v3 : Int32) (v4 : Int32) (g : sv_Mg), K21 v1 v2 v3 v4 g → sv_AW x (sv_Q x (sv_qI F Q) 0 0) F g 0 0 21 [(0, .ref (b + 58)), (1, .int v1), (2, .int v2), (3, .int v3), (4, .int v4)] []) : ∀ (v1 : Int32) (v2 : Int32) (v3 : Int32) (v4 : Int32) (g : sv_Mg), wp_X7_worksOut_149 F Q K21 v1 v2 v3 v4 g → sv_AW x (sv_Q x (sv_qI F Q) 0 0) F g 0 0 149 [(0, .ref (b + 58)), (1, .int v1), (2, .int v2), (3, .int v3), (4, .int v4)] [] := by
  intro v1 v2 v3 v4 g h
  unfold wp_X7_worksOut_149 at h
  obtain ⟨v4_1, ev4_1⟩ : ∃ y : Int32, y = v4 + 1 := ⟨_, rfl⟩
  have h := h v4_1 ev4_1
  refine sv_iinc (pc := 149) G dX7_worksOut_149 4 v4_1 [(4, .int v4_1), (0, .ref (b + 58)), (1, .int v1), (2, .int v2), (3, .int v3)] (by rw [ev4_1, ic_1]) rfl (by decide) rfl ?_
  refine sv_goto (pc := 152) G dX7_worksOut_152 21 (by decide) ?_
  refine sv_locs [1, 2, 3, 4, 0] [(0, .ref (b + 58)), (1, .int v1), (2, .int v2), (3, .int v3), (4, .int v4_1)] rfl ?_
  exact hK21 v1 v2 v3 v4_1 g  h
set_option maxRecDepth 100000 in
set_option maxHeartbeats 4000000 in
theorem aw_X7_worksOut_115 {x : sv_X} {b : Nat} {xt : sv_Xt} {F : sv_Fr} {Q : Int32 → sv_Mg → Prop} (G : sv_G x b xt RX7 cX7_worksOut 6) (RR : sv_R x 1 22 0 0) (T : sv_RT x (some .int)) (hL : sv_Lay F) {K21 : Int32 → Int32 → Int32 → Int32 → sv_Mg → Prop} (hK21 : ∀ (v1 : Int32) (v2 : Int32) (v3 : Int32) (v4 : Int32) (g : sv_Mg), K21 v1 v2 v3 v4 g → sv_AW x (sv_Q x (sv_qI F Q) 0 0) F g 0 0 21 [(0, .ref (b + 58)), (1, .int v1), (2, .int v2), (3, .int v3), (4, .int v4)] []) : ∀ (v1 : Int32) (v2 : Int32) (v3 : Int32) (v4 : Int32) (s0 : Int32) (s1 : Int32) (g : sv_Mg), wp_X7_worksOut_115 F Q K21 v1 v2 v3 v4 s0 s1 g → sv_AW x (sv_Q x (sv_qI F Q) 0 0) F g 0 0 115 [(0, .ref (b + 58)), (1, .int v1), (2, .int v2), (3, .int v3), (4, .int v4)] [.int s0, .int s1, .ref (b + 71)] := by
  intro v1 v2 v3 v4 s0 s1 g h
  unfold wp_X7_worksOut_115 at h
  obtain ⟨s_2, h⟩ := h
  refine sv_iastK (pc := 115) G (hL.sh rfl) s_2 s1.toNatClampNeg rfl dX7_worksOut_115 (fun g_3 eg_3 => ?_)
  have h := h g_3 eg_3
  refine sv_goto (pc := 116) G dX7_worksOut_116 149 (by decide) ?_
  refine sv_locs [0, 1, 2, 3, 4] [(0, .ref (b + 58)), (1, .int v1), (2, .int v2), (3, .int v3), (4, .int v4)] rfl ?_
  exact aw_X7_worksOut_149 G RR T hL  hK21 v1 v2 v3 v4 g_3  h
set_option maxRecDepth 100000 in
set_option maxHeartbeats 4000000 in
theorem aw_X7_worksOut_78 {x : sv_X} {b : Nat} {xt : sv_Xt} {F : sv_Fr} {Q : Int32 → sv_Mg → Prop} (G : sv_G x b xt RX7 cX7_worksOut 6) (RR : sv_R x 1 22 0 0) (T : sv_RT x (some .int)) (hL : sv_Lay F) {K21 : Int32 → Int32 → Int32 → Int32 → sv_Mg → Prop} (hK21 : ∀ (v1 : Int32) (v2 : Int32) (v3 : Int32) (v4 : Int32) (g : sv_Mg), K21 v1 v2 v3 v4 g → sv_AW x (sv_Q x (sv_qI F Q) 0 0) F g 0 0 21 [(0, .ref (b + 58)), (1, .int v1), (2, .int v2), (3, .int v3), (4, .int v4)] []) : ∀ (v1 : Int32) (v2 : Int32) (v3 : Int32) (v4 : Int32) (s0 : Int32) (s1 : Int32) (g : sv_Mg), wp_X7_worksOut_78 F Q K21 v1 v2 v3 v4 s0 s1 g → sv_AW x (sv_Q x (sv_qI F Q) 0 0) F g 0 0 78 [(0, .ref (b + 58)), (1, .int v1), (2, .int v2), (3, .int v3), (4, .int v4)] [.int s0, .int s1, .ref (b + 71)] := by
  intro v1 v2 v3 v4 s0 s1 g h
  unfold wp_X7_worksOut_78 at h
  obtain ⟨s_4, h⟩ := h
  refine sv_iastK (pc := 78) G (hL.sh rfl) s_4 s1.toNatClampNeg rfl dX7_worksOut_78 (fun g_5 eg_5 => ?_)
  have h := h g_5 eg_5
  obtain ⟨v2_6, ev2_6⟩ : ∃ y : Int32, y = v2 + 1 := ⟨_, rfl⟩
  have h := h v2_6 ev2_6
  refine sv_iinc (pc := 79) G dX7_worksOut_79 2 v2_6 [(2, .int v2_6), (0, .ref (b + 58)), (1, .int v1), (3, .int v3), (4, .int v4)] (by rw [ev2_6, ic_1]) rfl (by decide) rfl ?_
  refine sv_goto (pc := 82) G dX7_worksOut_82 149 (by decide) ?_
  refine sv_locs [1, 2, 0, 3, 4] [(0, .ref (b + 58)), (1, .int v1), (2, .int v2_6), (3, .int v3), (4, .int v4)] rfl ?_
  exact aw_X7_worksOut_149 G RR T hL  hK21 v1 v2_6 v3 v4 g_5  h
set_option maxRecDepth 100000 in
set_option maxHeartbeats 4000000 in
theorem aw_X7_worksOut_21 {x : sv_X} {b : Nat} {xt : sv_Xt} {F : sv_Fr} {Q : Int32 → sv_Mg → Prop} (G : sv_G x b xt RX7 cX7_worksOut 6) (RR : sv_R x 1 22 0 0) (T : sv_RT x (some .int)) (hL : sv_Lay F) : ∀ (n : Nat) (v1 : Int32) (v2 : Int32) (v3 : Int32) (v4 : Int32) (g : sv_Mg), wp_X7_worksOut_21 F Q  n v1 v2 v3 v4 g → sv_AW x (sv_Q x (sv_qI F Q) 0 0) F g 0 0 21 [(0, .ref (b + 58)), (1, .int v1), (2, .int v2), (3, .int v3), (4, .int v4)] [] := by
  intro n
  induction n with
  | zero => intro v1 v2 v3 v4 g h; exact h.elim
  | succ n ih =>
    intro v1 v2 v3 v4 g h
    rw [wp_X7_worksOut_21] at h
    refine sv_iload (pc := 21) G dX7_worksOut_21 4 rfl ?_
    refine sv_iload_n (pc := 23) G dX7_worksOut_23 3 rfl ?_
    refine sv_ic_ge (pc := 24) G 155 (by decide) dX7_worksOut_24 (fun c_7 => ?_) (fun c_7 => ?_)
    · have h := h.1 c_7
      refine sv_aload_n (pc := 155) G dX7_worksOut_155 0 rfl ?_
      refine sv_getR (pc := 156) G fw_X7_48 (hL.sh rfl) rfl (hL.rf 72 rfl) dX7_worksOut_156 ?_
      refine sv_iconst (pc := 159) G dX7_worksOut_159 0 ic_0 ?_
      refine sv_ialdK (pc := 160) G (hL.sh rfl) vi_0_96 0 tn_0 dX7_worksOut_160 ?_
      exact sv_ireturn (pc := 161) G T ⟨(Nat.le_of_ble_eq_true rfl), (Nat.le_of_ble_eq_true rfl)⟩ dX7_worksOut_161 ⟨_, rfl, rfl, h⟩
    · have h := h.2 c_7
      refine sv_aload_n (pc := 27) G dX7_worksOut_27 0 rfl ?_
      refine sv_getR (pc := 28) G fw_X7_9 (hL.sh rfl) rfl (hL.rf 60 rfl) dX7_worksOut_28 ?_
      refine sv_bipush (pc := 31) G dX7_worksOut_31 99 bp_99 ?_
      refine sv_bipush (pc := 33) G dX7_worksOut_33 96 bp_96 ?_
      refine sv_iload_n (pc := 35) G dX7_worksOut_35 1 rfl ?_
      refine sv_imul (pc := 36) G dX7_worksOut_36 ?_
      refine sv_iadd (pc := 37) G dX7_worksOut_37 ?_
      refine sv_iload (pc := 38) G dX7_worksOut_38 4 rfl ?_
      refine sv_iadd (pc := 40) G dX7_worksOut_40 ?_
      obtain ⟨s_8, h⟩ := h
      refine sv_ialdK (pc := 41) G (hL.sh rfl) s_8 ((99 + (96 * v1)) + v4).toNatClampNeg rfl dX7_worksOut_41 ?_
      refine sv_topi (fun v5_9 ev5_9 => ?_)
      have h := h v5_9 ev5_9
      refine sv_istore (pc := 42) G dX7_worksOut_42 [(5, .int v5_9), (0, .ref (b + 58)), (1, .int v1), (2, .int v2), (3, .int v3), (4, .int v4)] (by decide) rfl ?_
      refine sv_iload (pc := 44) G dX7_worksOut_44 0 rfl ?_
      refine sv_if_lt (pc := 46) G 85 (by decide) dX7_worksOut_46 (fun c_10 => ?_) (fun c_10 => ?_)
      · have h := h.1 c_10
        refine sv_iload (pc := 85) G dX7_worksOut_85 0 rfl ?_
        refine sv_bipush (pc := 87) G dX7_worksOut_87 (-10) bp_m10 ?_
        refine sv_ic_ne (pc := 89) G 119 (by decide) dX7_worksOut_89 (fun c_11 => ?_) (fun c_11 => ?_)
        · have h := h.2 c_11
          obtain ⟨v2_12, ev2_12⟩ : ∃ y : Int32, y = v2 + (-1) := ⟨_, rfl⟩
          have h := h v2_12 ev2_12
          refine sv_iinc (pc := 119) G dX7_worksOut_119 3 v2_12 [(2, .int v2_12), (5, .int v5_9), (0, .ref (b + 58)), (1, .int v1), (3, .int v3), (4, .int v4)] (by rw [ev2_12, ic_m1]) rfl (by decide) rfl ?_
          refine sv_aload_n (pc := 122) G dX7_worksOut_122 2 rfl ?_
          refine sv_getR (pc := 123) G fw_X7_48 (hL.sh rfl) rfl (hL.rf 72 rfl) dX7_worksOut_123 ?_
          refine sv_iload_n (pc := 126) G dX7_worksOut_126 0 rfl ?_
          refine sv_iconst (pc := 127) G dX7_worksOut_127 1 ic_1 ?_
          refine sv_isub (pc := 128) G dX7_worksOut_128 ?_
          refine sv_iload (pc := 129) G dX7_worksOut_129 1 rfl ?_
          refine sv_aload_n (pc := 131) G dX7_worksOut_131 2 rfl ?_
          refine sv_getR (pc := 132) G fw_X7_48 (hL.sh rfl) rfl (hL.rf 72 rfl) dX7_worksOut_132 ?_
          refine sv_iload_n (pc := 135) G dX7_worksOut_135 0 rfl ?_
          refine sv_iconst (pc := 136) G dX7_worksOut_136 1 ic_1 ?_
          refine sv_isub (pc := 137) G dX7_worksOut_137 ?_
          obtain ⟨s_13, h⟩ := h
          refine sv_ialdK (pc := 138) G (hL.sh rfl) s_13 (v2_12 - 1).toNatClampNeg rfl dX7_worksOut_138 ?_
          refine sv_aload_n (pc := 139) G dX7_worksOut_139 2 rfl ?_
          refine sv_getR (pc := 140) G fw_X7_48 (hL.sh rfl) rfl (hL.rf 72 rfl) dX7_worksOut_140 ?_
          refine sv_iload_n (pc := 143) G dX7_worksOut_143 0 rfl ?_
          obtain ⟨s_14, h⟩ := h
          refine sv_ialdK (pc := 144) G (hL.sh rfl) s_14 v2_12.toNatClampNeg rfl dX7_worksOut_144 ?_
          refine sv_callS (cs := 0) (sl := 0) (st := [.int (v2_12 - 1), .ref (b + 71)]) (As := [.int v5_9, .int (g 71 (v2_12 - 1).toNatClampNeg), .int (g 71 v2_12.toNatClampNeg)]) (pc := 145) G RR (c_X7_two hL  h) mw_X7_two lk_X7_262 rfl ⟨(Nat.le_of_ble_eq_true rfl), (Nat.le_of_ble_eq_true rfl)⟩ ⟨(Nat.le_of_ble_eq_true rfl), (Nat.le_of_ble_eq_true rfl)⟩ (Nat.le_of_ble_eq_true rfl) rfl dX7_worksOut_145 (sv_kI (fun r_16 g_15 h => ?_))
          obtain ⟨s_17, h⟩ := h
          refine sv_iastK (pc := 148) G (hL.sh rfl) s_17 (v2_12 - 1).toNatClampNeg rfl dX7_worksOut_148 (fun g_18 eg_18 => ?_)
          have h := h g_18 eg_18
          refine sv_locs [2, 3, 0, 4, 5] [(0, .ref (b + 58)), (1, .int v1), (2, .int v2_12), (3, .int v3), (4, .int v4)] rfl ?_
          exact aw_X7_worksOut_149 G RR T hL  ih v1 v2_12 v3 v4 g_18  h
        · have h := h.1 c_11
          refine sv_aload_n (pc := 92) G dX7_worksOut_92 1 rfl ?_
          refine sv_getR (pc := 93) G fw_X7_48 (hL.sh rfl) rfl (hL.rf 72 rfl) dX7_worksOut_93 ?_
          refine sv_iload_n (pc := 96) G dX7_worksOut_96 3 rfl ?_
          refine sv_iconst (pc := 97) G dX7_worksOut_97 1 ic_1 ?_
          refine sv_isub (pc := 98) G dX7_worksOut_98 ?_
          refine sv_aload_n (pc := 99) G dX7_worksOut_99 1 rfl ?_
          refine sv_getR (pc := 100) G fw_X7_48 (hL.sh rfl) rfl (hL.rf 72 rfl) dX7_worksOut_100 ?_
          refine sv_iload_n (pc := 103) G dX7_worksOut_103 3 rfl ?_
          refine sv_iconst (pc := 104) G dX7_worksOut_104 1 ic_1 ?_
          refine sv_isub (pc := 105) G dX7_worksOut_105 ?_
          obtain ⟨s_19, h⟩ := h
          refine sv_ialdK (pc := 106) G (hL.sh rfl) s_19 (v2 - 1).toNatClampNeg rfl dX7_worksOut_106 ?_
          refine sv_if_ne (pc := 107) G 114 (by decide) dX7_worksOut_107 (fun c_20 => ?_) (fun c_20 => ?_)
          · have h := h.2 c_20
            refine sv_iconst (pc := 114) G dX7_worksOut_114 0 ic_0 ?_
            refine sv_locs [1, 2, 3, 4, 5] [(0, .ref (b + 58)), (1, .int v1), (2, .int v2), (3, .int v3), (4, .int v4)] rfl ?_
            exact aw_X7_worksOut_115 G RR T hL  ih v1 v2 v3 v4 0 (v2 - 1) g  h
          · have h := h.1 c_20
            refine sv_iconst (pc := 110) G dX7_worksOut_110 1 ic_1 ?_
            refine sv_goto (pc := 111) G dX7_worksOut_111 115 (by decide) ?_
            refine sv_locs [1, 2, 3, 4, 5] [(0, .ref (b + 58)), (1, .int v1), (2, .int v2), (3, .int v3), (4, .int v4)] rfl ?_
            exact aw_X7_worksOut_115 G RR T hL  ih v1 v2 v3 v4 1 (v2 - 1) g  h
      · have h := h.2 c_10
        refine sv_aload_n (pc := 49) G dX7_worksOut_49 1 rfl ?_
        refine sv_getR (pc := 50) G fw_X7_48 (hL.sh rfl) rfl (hL.rf 72 rfl) dX7_worksOut_50 ?_
        refine sv_iload_n (pc := 53) G dX7_worksOut_53 3 rfl ?_
        refine sv_iload (pc := 54) G dX7_worksOut_54 0 rfl ?_
        refine sv_sipush (pc := 56) G dX7_worksOut_56 10000 sp_10000 ?_
        refine sv_ic_ge (pc := 59) G 67 (by decide) dX7_worksOut_59 (fun c_21 => ?_) (fun c_21 => ?_)
        · have h := h.1 c_21
          refine sv_aload_n (pc := 67) G dX7_worksOut_67 1 rfl ?_
          refine sv_getR (pc := 68) G fw_X7_51 (hL.sh rfl) rfl (hL.rf 73 rfl) dX7_worksOut_68 ?_
          refine sv_iload (pc := 71) G dX7_worksOut_71 0 rfl ?_
          refine sv_sipush (pc := 73) G dX7_worksOut_73 10000 sp_10000 ?_
          refine sv_isub (pc := 76) G dX7_worksOut_76 ?_
          obtain ⟨s_22, h⟩ := h
          refine sv_ialdK (pc := 77) G (hL.sh rfl) s_22 (v5_9 - 10000).toNatClampNeg rfl dX7_worksOut_77 ?_
          refine sv_locs [1, 2, 3, 4, 5] [(0, .ref (b + 58)), (1, .int v1), (2, .int v2), (3, .int v3), (4, .int v4)] rfl ?_
          exact aw_X7_worksOut_78 G RR T hL  ih v1 v2 v3 v4 (g 72 (v5_9 - 10000).toNatClampNeg) v2 g  h
        · have h := h.2 c_21
          refine sv_iload (pc := 62) G dX7_worksOut_62 0 rfl ?_
          refine sv_goto (pc := 64) G dX7_worksOut_64 78 (by decide) ?_
          refine sv_locs [1, 2, 3, 4, 5] [(0, .ref (b + 58)), (1, .int v1), (2, .int v2), (3, .int v3), (4, .int v4)] rfl ?_
          exact aw_X7_worksOut_78 G RR T hL  ih v1 v2 v3 v4 v5_9 v2 g  h
set_option maxRecDepth 100000 in
set_option maxHeartbeats 4000000 in
theorem c_X7_worksOut {b : Nat} {xt : sv_Xt} {F : sv_Fr} {v1 : Int32} {g : sv_Mg} {Q : Int32 → sv_Mg → Prop} (hL : sv_Lay F) (h : wp_X7_worksOut F v1 g Q) : sv_Cal yX7_worksOut cX7_worksOut 6 (some .int) 1 22 0 0 b xt [.ref (b + 58), .int v1] F g (sv_qI F Q) := by
  refine sv_intro mw_X7_worksOut [(0, .ref (b + 58)), (1, .int v1)] rfl (Nat.le_of_ble_eq_true rfl) (fun x G RR T NM => ?_)
  have G : sv_G x b xt RX7 cX7_worksOut 6 := G
  unfold wp_X7_worksOut at h
  refine sv_iconst (pc := 0) G dX7_worksOut_0 0 ic_0 ?_
  refine sv_istore_n (pc := 1) G dX7_worksOut_1 [(2, .int 0), (0, .ref (b + 58)), (1, .int v1)] (by decide) rfl ?_
  refine sv_aload_n (pc := 2) G dX7_worksOut_2 1 rfl ?_
  refine sv_getR (pc := 3) G fw_X7_9 (hL.sh rfl) rfl (hL.rf 60 rfl) dX7_worksOut_3 ?_
  refine sv_bipush (pc := 6) G dX7_worksOut_6 71 bp_71 ?_
  refine sv_iconst (pc := 8) G dX7_worksOut_8 2 ic_2 ?_
  refine sv_iload_n (pc := 9) G dX7_worksOut_9 2 rfl ?_
  refine sv_imul (pc := 10) G dX7_worksOut_10 ?_
  refine sv_iadd (pc := 11) G dX7_worksOut_11 ?_
  obtain ⟨s_23, h⟩ := h
  refine sv_ialdK (pc := 12) G (hL.sh rfl) s_23 (71 + (2 * v1)).toNatClampNeg rfl dX7_worksOut_12 ?_
  refine sv_sipush (pc := 13) G dX7_worksOut_13 1000 sp_1000 ?_
  refine sv_irem (pc := 16) G dX7_worksOut_16 (by decide) ?_
  refine sv_topi (fun v3_24 ev3_24 => ?_)
  have h := h v3_24 ev3_24
  refine sv_istore_n (pc := 17) G dX7_worksOut_17 [(3, .int v3_24), (2, .int 0), (0, .ref (b + 58)), (1, .int v1)] (by decide) rfl ?_
  refine sv_iconst (pc := 18) G dX7_worksOut_18 0 ic_0 ?_
  refine sv_istore (pc := 19) G dX7_worksOut_19 [(4, .int 0), (3, .int v3_24), (2, .int 0), (0, .ref (b + 58)), (1, .int v1)] (by decide) rfl ?_
  refine sv_locs [3, 4, 2, 1, 0] [(0, .ref (b + 58)), (1, .int v1), (2, .int 0), (3, .int v3_24), (4, .int 0)] rfl ?_
  obtain ⟨n_25, h⟩ := h
  exact aw_X7_worksOut_21 G RR T hL   n_25 v1 0 v3_24 0 g  h
def wp_X7_swayed_69 (F : sv_Fr) (Q : Int32 → sv_Mg → Prop) (v1 : Int32) (v2 : Int32) (s0 : Int32) (g : sv_Mg) : Prop := wp_X7_mostOf F v2 g (fun r_2 g_1 => wp_X7_has F r_2 g_1 (fun r_4 g_3 => ((r_4 ≤ s0 → wp_X7_plainly F v1 v2 g_3 (fun r_7 g_6 => Q r_7 g_6)) ∧ (¬ r_4 ≤ s0 → Q r_2 g_3))))
def wp_X7_swayed (F : sv_Fr) (v1 : Int32) (v2 : Int32) (g : sv_Mg) (Q : Int32 → sv_Mg → Prop) : Prop := wp_X7_counts F 0 g (fun r_9 g_8 => wp_X7_of F v1 3 g_8 (fun r_11 g_10 => ∀ g_12, g_12 = sv_st g_10 72 0 r_11 → ∀ g_13, g_13 = sv_st g_12 72 1 (g_12 59 3) → wp_X7_of F v1 2 g_13 (fun r_15 g_14 => ∀ g_16, g_16 = sv_st g_14 72 2 r_15 → ((0 ≤ r_9 → wp_X7_worksOut F r_9 g_16 (fun r_19 g_18 => wp_X7_within F r_19 0 99 g_18 (fun r_21 g_20 => wp_X7_swayed_69 F  Q  v1 v2 r_21 g_20))) ∧ (¬ 0 ≤ r_9 → wp_X7_of F v1 3 g_16 (fun r_23 g_22 => wp_X7_swayed_69 F  Q  v1 v2 (r_23 / 10) g_22))))))
set_option maxRecDepth 100000 in
set_option maxHeartbeats 4000000 in
theorem aw_X7_swayed_69 {x : sv_X} {b : Nat} {xt : sv_Xt} {F : sv_Fr} {Q : Int32 → sv_Mg → Prop} (G : sv_G x b xt RX7 cX7_swayed 6) (RR : sv_R x 5 111 0 0) (T : sv_RT x (some .int)) (hL : sv_Lay F) : ∀ (v1 : Int32) (v2 : Int32) (s0 : Int32) (g : sv_Mg), wp_X7_swayed_69 F Q  v1 v2 s0 g → sv_AW x (sv_Q x (sv_qI F Q) 0 0) F g 0 0 69 [(0, .ref (b + 58)), (1, .int v1), (2, .int v2)] [.int s0] := by
  intro v1 v2 s0 g h
  unfold wp_X7_swayed_69 at h
  refine sv_istore (pc := 69) G dX7_swayed_69 [(4, .int s0), (0, .ref (b + 58)), (1, .int v1), (2, .int v2)] (by decide) rfl ?_
  refine sv_aload_n (pc := 71) G dX7_swayed_71 1 rfl ?_
  refine sv_iload_n (pc := 72) G dX7_swayed_72 3 rfl ?_
  refine sv_callV (cs := 0) (sl := 0) (st := []) (As := [.int v2]) (a := 58) (pc := 73) G RR (c_X7_mostOf hL  h) mw_X7_mostOf lk_X7_111 (hL.sh rfl) (by decide) rfl rfl ⟨(Nat.le_of_ble_eq_true rfl), (Nat.le_of_ble_eq_true rfl)⟩ ⟨(Nat.le_of_ble_eq_true rfl), (Nat.le_of_ble_eq_true rfl)⟩ (Nat.le_of_ble_eq_true rfl) rfl dX7_swayed_73 (sv_kI (fun r_2 g_1 h => ?_))
  refine sv_istore (pc := 76) G dX7_swayed_76 [(5, .int r_2), (4, .int s0), (0, .ref (b + 58)), (1, .int v1), (2, .int v2)] (by decide) rfl ?_
  refine sv_aload_n (pc := 78) G dX7_swayed_78 2 rfl ?_
  refine sv_iload (pc := 79) G dX7_swayed_79 0 rfl ?_
  refine sv_callV (cs := 0) (sl := 0) (st := []) (As := [.int r_2]) (a := 58) (pc := 81) G RR (c_X7_has hL  h) mw_X7_has lk_X7_104 (hL.sh rfl) (by decide) rfl rfl ⟨(Nat.le_of_ble_eq_true rfl), (Nat.le_of_ble_eq_true rfl)⟩ ⟨(Nat.le_of_ble_eq_true rfl), (Nat.le_of_ble_eq_true rfl)⟩ (Nat.le_of_ble_eq_true rfl) rfl dX7_swayed_81 (sv_kI (fun r_4 g_3 h => ?_))
  refine sv_iload (pc := 84) G dX7_swayed_84 1 rfl ?_
  refine sv_ic_le (pc := 86) G 94 (by decide) dX7_swayed_86 (fun c_5 => ?_) (fun c_5 => ?_)
  · have h := h.1 c_5
    refine sv_aload_n (pc := 94) G dX7_swayed_94 2 rfl ?_
    refine sv_iload_n (pc := 95) G dX7_swayed_95 3 rfl ?_
    refine sv_iload_n (pc := 96) G dX7_swayed_96 4 rfl ?_
    refine sv_callV (cs := 0) (sl := 0) (st := []) (As := [.int v1, .int v2]) (a := 58) (pc := 97) G RR (c_X7_plainly hL  h) mw_X7_plainly lk_X7_117 (hL.sh rfl) (by decide) rfl rfl ⟨(Nat.le_of_ble_eq_true rfl), (Nat.le_of_ble_eq_true rfl)⟩ ⟨(Nat.le_of_ble_eq_true rfl), (Nat.le_of_ble_eq_true rfl)⟩ (Nat.le_of_ble_eq_true rfl) rfl dX7_swayed_97 (sv_kI (fun r_7 g_6 h => ?_))
    exact sv_ireturn (pc := 100) G T ⟨(Nat.le_of_ble_eq_true rfl), (Nat.le_of_ble_eq_true rfl)⟩ dX7_swayed_100 ⟨_, rfl, rfl, h⟩
  · have h := h.2 c_5
    refine sv_iload (pc := 89) G dX7_swayed_89 0 rfl ?_
    refine sv_goto (pc := 91) G dX7_swayed_91 100 (by decide) ?_
    exact sv_ireturn (pc := 100) G T ⟨(Nat.le_of_ble_eq_true rfl), (Nat.le_of_ble_eq_true rfl)⟩ dX7_swayed_100 ⟨_, rfl, rfl, h⟩
set_option maxRecDepth 100000 in
set_option maxHeartbeats 4000000 in
theorem c_X7_swayed {b : Nat} {xt : sv_Xt} {F : sv_Fr} {v1 : Int32} {v2 : Int32} {g : sv_Mg} {Q : Int32 → sv_Mg → Prop} (hL : sv_Lay F) (h : wp_X7_swayed F v1 v2 g Q) : sv_Cal yX7_swayed cX7_swayed 6 (some .int) 5 111 0 0 b xt [.ref (b + 58), .int v1, .int v2] F g (sv_qI F Q) := by
  refine sv_intro mw_X7_swayed [(0, .ref (b + 58)), (1, .int v1), (2, .int v2)] rfl (Nat.le_of_ble_eq_true rfl) (fun x G RR T NM => ?_)
  have G : sv_G x b xt RX7 cX7_swayed 6 := G
  unfold wp_X7_swayed at h
  refine sv_aload_n (pc := 0) G dX7_swayed_0 0 rfl ?_
  refine sv_iconst (pc := 1) G dX7_swayed_1 0 ic_0 ?_
  refine sv_callV (cs := 0) (sl := 0) (st := []) (As := [.int 0]) (a := 58) (pc := 2) G RR (c_X7_counts hL  h) mw_X7_counts lk_X7_120 (hL.sh rfl) (by decide) rfl rfl ⟨(Nat.le_of_ble_eq_true rfl), (Nat.le_of_ble_eq_true rfl)⟩ ⟨(Nat.le_of_ble_eq_true rfl), (Nat.le_of_ble_eq_true rfl)⟩ (Nat.le_of_ble_eq_true rfl) rfl dX7_swayed_2 (sv_kI (fun r_9 g_8 h => ?_))
  refine sv_istore_n (pc := 5) G dX7_swayed_5 [(3, .int r_9), (0, .ref (b + 58)), (1, .int v1), (2, .int v2)] (by decide) rfl ?_
  refine sv_aload_n (pc := 6) G dX7_swayed_6 1 rfl ?_
  refine sv_getR (pc := 7) G fw_X7_51 (hL.sh rfl) rfl (hL.rf 73 rfl) dX7_swayed_7 ?_
  refine sv_iconst (pc := 10) G dX7_swayed_10 0 ic_0 ?_
  refine sv_aload_n (pc := 11) G dX7_swayed_11 1 rfl ?_
  refine sv_iload_n (pc := 12) G dX7_swayed_12 2 rfl ?_
  refine sv_iconst (pc := 13) G dX7_swayed_13 3 ic_3 ?_
  refine sv_callV (cs := 0) (sl := 0) (st := [.int 0, .ref (b + 72)]) (As := [.int v1, .int 3]) (a := 58) (pc := 14) G RR (c_X7_of hL  h) mw_X7_of lk_X7_96 (hL.sh rfl) (by decide) rfl rfl ⟨(Nat.le_of_ble_eq_true rfl), (Nat.le_of_ble_eq_true rfl)⟩ ⟨(Nat.le_of_ble_eq_true rfl), (Nat.le_of_ble_eq_true rfl)⟩ (Nat.le_of_ble_eq_true rfl) rfl dX7_swayed_14 (sv_kI (fun r_11 g_10 h => ?_))
  refine sv_iastK (pc := 17) G (hL.sh rfl) vi_0_4 0 tn_0 dX7_swayed_17 (fun g_12 eg_12 => ?_)
  have h := h g_12 eg_12
  refine sv_aload_n (pc := 18) G dX7_swayed_18 1 rfl ?_
  refine sv_getR (pc := 19) G fw_X7_51 (hL.sh rfl) rfl (hL.rf 73 rfl) dX7_swayed_19 ?_
  refine sv_iconst (pc := 22) G dX7_swayed_22 1 ic_1 ?_
  refine sv_aload_n (pc := 23) G dX7_swayed_23 1 rfl ?_
  refine sv_getR (pc := 24) G fw_X7_9 (hL.sh rfl) rfl (hL.rf 60 rfl) dX7_swayed_24 ?_
  refine sv_iconst (pc := 27) G dX7_swayed_27 3 ic_3 ?_
  refine sv_ialdK (pc := 28) G (hL.sh rfl) vi_3_1443 3 tn_3 dX7_swayed_28 ?_
  refine sv_iastK (pc := 29) G (hL.sh rfl) vi_1_4 1 tn_1 dX7_swayed_29 (fun g_13 eg_13 => ?_)
  have h := h g_13 eg_13
  refine sv_aload_n (pc := 30) G dX7_swayed_30 1 rfl ?_
  refine sv_getR (pc := 31) G fw_X7_51 (hL.sh rfl) rfl (hL.rf 73 rfl) dX7_swayed_31 ?_
  refine sv_iconst (pc := 34) G dX7_swayed_34 2 ic_2 ?_
  refine sv_aload_n (pc := 35) G dX7_swayed_35 1 rfl ?_
  refine sv_iload_n (pc := 36) G dX7_swayed_36 2 rfl ?_
  refine sv_iconst (pc := 37) G dX7_swayed_37 2 ic_2 ?_
  refine sv_callV (cs := 0) (sl := 0) (st := [.int 2, .ref (b + 72)]) (As := [.int v1, .int 2]) (a := 58) (pc := 38) G RR (c_X7_of hL  h) mw_X7_of lk_X7_96 (hL.sh rfl) (by decide) rfl rfl ⟨(Nat.le_of_ble_eq_true rfl), (Nat.le_of_ble_eq_true rfl)⟩ ⟨(Nat.le_of_ble_eq_true rfl), (Nat.le_of_ble_eq_true rfl)⟩ (Nat.le_of_ble_eq_true rfl) rfl dX7_swayed_38 (sv_kI (fun r_15 g_14 h => ?_))
  refine sv_iastK (pc := 41) G (hL.sh rfl) vi_2_4 2 tn_2 dX7_swayed_41 (fun g_16 eg_16 => ?_)
  have h := h g_16 eg_16
  refine sv_iload_n (pc := 42) G dX7_swayed_42 0 rfl ?_
  refine sv_if_ge (pc := 43) G 58 (by decide) dX7_swayed_43 (fun c_17 => ?_) (fun c_17 => ?_)
  · have h := h.1 c_17
    refine sv_aload_n (pc := 58) G dX7_swayed_58 1 rfl ?_
    refine sv_iload_n (pc := 59) G dX7_swayed_59 0 rfl ?_
    refine sv_callV (cs := 0) (sl := 0) (st := []) (As := [.int r_9]) (a := 58) (pc := 60) G RR (c_X7_worksOut hL  h) mw_X7_worksOut lk_X7_123 (hL.sh rfl) (by decide) rfl rfl ⟨(Nat.le_of_ble_eq_true rfl), (Nat.le_of_ble_eq_true rfl)⟩ ⟨(Nat.le_of_ble_eq_true rfl), (Nat.le_of_ble_eq_true rfl)⟩ (Nat.le_of_ble_eq_true rfl) rfl dX7_swayed_60 (sv_kI (fun r_19 g_18 h => ?_))
    refine sv_iconst (pc := 63) G dX7_swayed_63 0 ic_0 ?_
    refine sv_bipush (pc := 64) G dX7_swayed_64 99 bp_99 ?_
    refine sv_callS (cs := 0) (sl := 0) (st := []) (As := [.int r_19, .int 0, .int 99]) (pc := 66) G RR (c_X7_within hL  h) mw_X7_within lk_X7_126 rfl ⟨(Nat.le_of_ble_eq_true rfl), (Nat.le_of_ble_eq_true rfl)⟩ ⟨(Nat.le_of_ble_eq_true rfl), (Nat.le_of_ble_eq_true rfl)⟩ (Nat.le_of_ble_eq_true rfl) rfl dX7_swayed_66 (sv_kI (fun r_21 g_20 h => ?_))
    refine sv_locs [1, 2, 3] [(0, .ref (b + 58)), (1, .int v1), (2, .int v2)] rfl ?_
    exact aw_X7_swayed_69 G RR T hL   v1 v2 r_21 g_20  h
  · have h := h.2 c_17
    refine sv_aload_n (pc := 46) G dX7_swayed_46 1 rfl ?_
    refine sv_iload_n (pc := 47) G dX7_swayed_47 2 rfl ?_
    refine sv_iconst (pc := 48) G dX7_swayed_48 3 ic_3 ?_
    refine sv_callV (cs := 0) (sl := 0) (st := []) (As := [.int v1, .int 3]) (a := 58) (pc := 49) G RR (c_X7_of hL  h) mw_X7_of lk_X7_96 (hL.sh rfl) (by decide) rfl rfl ⟨(Nat.le_of_ble_eq_true rfl), (Nat.le_of_ble_eq_true rfl)⟩ ⟨(Nat.le_of_ble_eq_true rfl), (Nat.le_of_ble_eq_true rfl)⟩ (Nat.le_of_ble_eq_true rfl) rfl dX7_swayed_49 (sv_kI (fun r_23 g_22 h => ?_))
    refine sv_bipush (pc := 52) G dX7_swayed_52 10 bp_10 ?_
    refine sv_idiv (pc := 54) G dX7_swayed_54 (by decide) ?_
    refine sv_goto (pc := 55) G dX7_swayed_55 69 (by decide) ?_
    refine sv_locs [1, 2, 3] [(0, .ref (b + 58)), (1, .int v1), (2, .int v2)] rfl ?_
    exact aw_X7_swayed_69 G RR T hL   v1 v2 (r_23 / 10) g_22  h
def wp_X7_votesFor (F : sv_Fr) (v1 : Int32) (g : sv_Mg) (Q : Int32 → sv_Mg → Prop) : Prop := wp_X7_runners F  g (fun r_2 g_1 => wp_X7_of F v1 0 g_1 (fun r_4 g_3 => ((r_4 = 1 → wp_X7_loyally F v1 r_2 g_3 (fun r_7 g_6 => Q r_7 g_6)) ∧ (¬ r_4 = 1 → ((r_4 = 2 → wp_X7_swayed F v1 r_2 g_3 (fun r_10 g_9 => Q r_10 g_9)) ∧ (¬ r_4 = 2 → ((r_4 = 3 → ((((r_2 >>> (v1 &&& 31)) &&& 1) = 1 → wp_X7_of F v1 3 g_3 (fun r_16 g_15 => ((r_16 < 50 → wp_X7_loyally F v1 r_2 g_15 (fun r_19 g_18 => Q r_19 g_18)) ∧ (¬ r_16 < 50 → Q v1 g_15)))) ∧ (¬ ((r_2 >>> (v1 &&& 31)) &&& 1) = 1 → wp_X7_loyally F v1 r_2 g_3 (fun r_14 g_13 => Q r_14 g_13)))) ∧ (¬ r_4 = 3 → ((r_4 = 4 → ((((g_3 59 3) - (g_3 59 3) / 2 * 2) = 1 → Q (-1) g_3) ∧ (¬ ((g_3 59 3) - (g_3 59 3) / 2 * 2) = 1 → wp_X7_swayed F v1 r_2 g_3 (fun r_23 g_22 => Q r_23 g_22)))) ∧ (¬ r_4 = 4 → wp_X7_plainly F v1 r_2 g_3 (fun r_25 g_24 => Q r_25 g_24)))))))))))
set_option maxRecDepth 100000 in
set_option maxHeartbeats 4000000 in
theorem c_X7_votesFor {b : Nat} {xt : sv_Xt} {F : sv_Fr} {v1 : Int32} {g : sv_Mg} {Q : Int32 → sv_Mg → Prop} (hL : sv_Lay F) (h : wp_X7_votesFor F v1 g Q) : sv_Cal yX7_votesFor cX7_votesFor 3 (some .int) 6 136 0 0 b xt [.ref (b + 58), .int v1] F g (sv_qI F Q) := by
  refine sv_intro mw_X7_votesFor [(0, .ref (b + 58)), (1, .int v1)] rfl (Nat.le_of_ble_eq_true rfl) (fun x G RR T NM => ?_)
  have G : sv_G x b xt RX7 cX7_votesFor 3 := G
  unfold wp_X7_votesFor at h
  refine sv_aload_n (pc := 0) G dX7_votesFor_0 0 rfl ?_
  refine sv_callV (cs := 0) (sl := 0) (st := []) (As := []) (a := 58) (pc := 1) G RR (c_X7_runners hL  h) mw_X7_runners lk_X7_130 (hL.sh rfl) (by decide) rfl rfl ⟨(Nat.le_of_ble_eq_true rfl), (Nat.le_of_ble_eq_true rfl)⟩ ⟨(Nat.le_of_ble_eq_true rfl), (Nat.le_of_ble_eq_true rfl)⟩ (Nat.le_of_ble_eq_true rfl) rfl dX7_votesFor_1 (sv_kI (fun r_2 g_1 h => ?_))
  refine sv_istore_n (pc := 4) G dX7_votesFor_4 [(2, .int r_2), (0, .ref (b + 58)), (1, .int v1)] (by decide) rfl ?_
  refine sv_aload_n (pc := 5) G dX7_votesFor_5 1 rfl ?_
  refine sv_iload_n (pc := 6) G dX7_votesFor_6 2 rfl ?_
  refine sv_iconst (pc := 7) G dX7_votesFor_7 0 ic_0 ?_
  refine sv_callV (cs := 0) (sl := 0) (st := []) (As := [.int v1, .int 0]) (a := 58) (pc := 8) G RR (c_X7_of hL  h) mw_X7_of lk_X7_96 (hL.sh rfl) (by decide) rfl rfl ⟨(Nat.le_of_ble_eq_true rfl), (Nat.le_of_ble_eq_true rfl)⟩ ⟨(Nat.le_of_ble_eq_true rfl), (Nat.le_of_ble_eq_true rfl)⟩ (Nat.le_of_ble_eq_true rfl) rfl dX7_votesFor_8 (sv_kI (fun r_4 g_3 h => ?_))
  by_cases c_5 : r_4 = 1
  · have h := h.1 c_5
    refine sv_tsw (pc := 11) G dX7_votesFor_11 1 (by rw [c_5]; decide) 40 (by decide) (by decide) rfl (by decide) ?_
    refine sv_aload_n (pc := 40) G dX7_votesFor_40 1 rfl ?_
    refine sv_iload_n (pc := 41) G dX7_votesFor_41 2 rfl ?_
    refine sv_iload_n (pc := 42) G dX7_votesFor_42 0 rfl ?_
    refine sv_callV (cs := 0) (sl := 0) (st := []) (As := [.int v1, .int r_2]) (a := 58) (pc := 43) G RR (c_X7_loyally hL  h) mw_X7_loyally lk_X7_133 (hL.sh rfl) (by decide) rfl rfl ⟨(Nat.le_of_ble_eq_true rfl), (Nat.le_of_ble_eq_true rfl)⟩ ⟨(Nat.le_of_ble_eq_true rfl), (Nat.le_of_ble_eq_true rfl)⟩ (Nat.le_of_ble_eq_true rfl) rfl dX7_votesFor_43 (sv_kI (fun r_7 g_6 h => ?_))
    exact sv_ireturn (pc := 46) G T ⟨(Nat.le_of_ble_eq_true rfl), (Nat.le_of_ble_eq_true rfl)⟩ dX7_votesFor_46 ⟨_, rfl, rfl, h⟩
  · have h := h.2 c_5
    by_cases c_8 : r_4 = 2
    · have h := h.1 c_8
      refine sv_tsw (pc := 11) G dX7_votesFor_11 2 (by rw [c_8]; decide) 47 (by decide) (by decide) rfl (by decide) ?_
      refine sv_aload_n (pc := 47) G dX7_votesFor_47 1 rfl ?_
      refine sv_iload_n (pc := 48) G dX7_votesFor_48 2 rfl ?_
      refine sv_iload_n (pc := 49) G dX7_votesFor_49 0 rfl ?_
      refine sv_callV (cs := 0) (sl := 0) (st := []) (As := [.int v1, .int r_2]) (a := 58) (pc := 50) G RR (c_X7_swayed hL  h) mw_X7_swayed lk_X7_136 (hL.sh rfl) (by decide) rfl rfl ⟨(Nat.le_of_ble_eq_true rfl), (Nat.le_of_ble_eq_true rfl)⟩ ⟨(Nat.le_of_ble_eq_true rfl), (Nat.le_of_ble_eq_true rfl)⟩ (Nat.le_of_ble_eq_true rfl) rfl dX7_votesFor_50 (sv_kI (fun r_10 g_9 h => ?_))
      exact sv_ireturn (pc := 53) G T ⟨(Nat.le_of_ble_eq_true rfl), (Nat.le_of_ble_eq_true rfl)⟩ dX7_votesFor_53 ⟨_, rfl, rfl, h⟩
    · have h := h.2 c_8
      by_cases c_11 : r_4 = 3
      · have h := h.1 c_11
        refine sv_tsw (pc := 11) G dX7_votesFor_11 3 (by rw [c_11]; decide) 54 (by decide) (by decide) rfl (by decide) ?_
        refine sv_iload_n (pc := 54) G dX7_votesFor_54 0 rfl ?_
        refine sv_iload_n (pc := 55) G dX7_votesFor_55 2 rfl ?_
        refine sv_ishr (pc := 56) G dX7_votesFor_56 ?_
        refine sv_iconst (pc := 57) G dX7_votesFor_57 1 ic_1 ?_
        refine sv_iand (pc := 58) G dX7_votesFor_58 ?_
        refine sv_iconst (pc := 59) G dX7_votesFor_59 1 ic_1 ?_
        refine sv_ic_ne (pc := 60) G 78 (by decide) dX7_votesFor_60 (fun c_12 => ?_) (fun c_12 => ?_)
        · have h := h.2 c_12
          refine sv_aload_n (pc := 78) G dX7_votesFor_78 1 rfl ?_
          refine sv_iload_n (pc := 79) G dX7_votesFor_79 2 rfl ?_
          refine sv_iload_n (pc := 80) G dX7_votesFor_80 0 rfl ?_
          refine sv_callV (cs := 0) (sl := 0) (st := []) (As := [.int v1, .int r_2]) (a := 58) (pc := 81) G RR (c_X7_loyally hL  h) mw_X7_loyally lk_X7_133 (hL.sh rfl) (by decide) rfl rfl ⟨(Nat.le_of_ble_eq_true rfl), (Nat.le_of_ble_eq_true rfl)⟩ ⟨(Nat.le_of_ble_eq_true rfl), (Nat.le_of_ble_eq_true rfl)⟩ (Nat.le_of_ble_eq_true rfl) rfl dX7_votesFor_81 (sv_kI (fun r_14 g_13 h => ?_))
          exact sv_ireturn (pc := 84) G T ⟨(Nat.le_of_ble_eq_true rfl), (Nat.le_of_ble_eq_true rfl)⟩ dX7_votesFor_84 ⟨_, rfl, rfl, h⟩
        · have h := h.1 c_12
          refine sv_aload_n (pc := 63) G dX7_votesFor_63 1 rfl ?_
          refine sv_iload_n (pc := 64) G dX7_votesFor_64 2 rfl ?_
          refine sv_iconst (pc := 65) G dX7_votesFor_65 3 ic_3 ?_
          refine sv_callV (cs := 0) (sl := 0) (st := []) (As := [.int v1, .int 3]) (a := 58) (pc := 66) G RR (c_X7_of hL  h) mw_X7_of lk_X7_96 (hL.sh rfl) (by decide) rfl rfl ⟨(Nat.le_of_ble_eq_true rfl), (Nat.le_of_ble_eq_true rfl)⟩ ⟨(Nat.le_of_ble_eq_true rfl), (Nat.le_of_ble_eq_true rfl)⟩ (Nat.le_of_ble_eq_true rfl) rfl dX7_votesFor_66 (sv_kI (fun r_16 g_15 h => ?_))
          refine sv_bipush (pc := 69) G dX7_votesFor_69 50 bp_50 ?_
          refine sv_ic_lt (pc := 71) G 78 (by decide) dX7_votesFor_71 (fun c_17 => ?_) (fun c_17 => ?_)
          · have h := h.1 c_17
            refine sv_aload_n (pc := 78) G dX7_votesFor_78 1 rfl ?_
            refine sv_iload_n (pc := 79) G dX7_votesFor_79 2 rfl ?_
            refine sv_iload_n (pc := 80) G dX7_votesFor_80 0 rfl ?_
            refine sv_callV (cs := 0) (sl := 0) (st := []) (As := [.int v1, .int r_2]) (a := 58) (pc := 81) G RR (c_X7_loyally hL  h) mw_X7_loyally lk_X7_133 (hL.sh rfl) (by decide) rfl rfl ⟨(Nat.le_of_ble_eq_true rfl), (Nat.le_of_ble_eq_true rfl)⟩ ⟨(Nat.le_of_ble_eq_true rfl), (Nat.le_of_ble_eq_true rfl)⟩ (Nat.le_of_ble_eq_true rfl) rfl dX7_votesFor_81 (sv_kI (fun r_19 g_18 h => ?_))
            exact sv_ireturn (pc := 84) G T ⟨(Nat.le_of_ble_eq_true rfl), (Nat.le_of_ble_eq_true rfl)⟩ dX7_votesFor_84 ⟨_, rfl, rfl, h⟩
          · have h := h.2 c_17
            refine sv_iload_n (pc := 74) G dX7_votesFor_74 2 rfl ?_
            refine sv_goto (pc := 75) G dX7_votesFor_75 84 (by decide) ?_
            exact sv_ireturn (pc := 84) G T ⟨(Nat.le_of_ble_eq_true rfl), (Nat.le_of_ble_eq_true rfl)⟩ dX7_votesFor_84 ⟨_, rfl, rfl, h⟩
      · have h := h.2 c_11
        by_cases c_20 : r_4 = 4
        · have h := h.1 c_20
          refine sv_tsw (pc := 11) G dX7_votesFor_11 4 (by rw [c_20]; decide) 85 (by decide) (by decide) rfl (by decide) ?_
          refine sv_aload_n (pc := 85) G dX7_votesFor_85 1 rfl ?_
          refine sv_getR (pc := 86) G fw_X7_9 (hL.sh rfl) rfl (hL.rf 60 rfl) dX7_votesFor_86 ?_
          refine sv_iconst (pc := 89) G dX7_votesFor_89 3 ic_3 ?_
          refine sv_ialdK (pc := 90) G (hL.sh rfl) vi_3_1443 3 tn_3 dX7_votesFor_90 ?_
          refine sv_iconst (pc := 91) G dX7_votesFor_91 2 ic_2 ?_
          refine sv_irem (pc := 92) G dX7_votesFor_92 (by decide) ?_
          refine sv_iconst (pc := 93) G dX7_votesFor_93 1 ic_1 ?_
          refine sv_ic_ne (pc := 94) G 101 (by decide) dX7_votesFor_94 (fun c_21 => ?_) (fun c_21 => ?_)
          · have h := h.2 c_21
            refine sv_aload_n (pc := 101) G dX7_votesFor_101 1 rfl ?_
            refine sv_iload_n (pc := 102) G dX7_votesFor_102 2 rfl ?_
            refine sv_iload_n (pc := 103) G dX7_votesFor_103 0 rfl ?_
            refine sv_callV (cs := 0) (sl := 0) (st := []) (As := [.int v1, .int r_2]) (a := 58) (pc := 104) G RR (c_X7_swayed hL  h) mw_X7_swayed lk_X7_136 (hL.sh rfl) (by decide) rfl rfl ⟨(Nat.le_of_ble_eq_true rfl), (Nat.le_of_ble_eq_true rfl)⟩ ⟨(Nat.le_of_ble_eq_true rfl), (Nat.le_of_ble_eq_true rfl)⟩ (Nat.le_of_ble_eq_true rfl) rfl dX7_votesFor_104 (sv_kI (fun r_23 g_22 h => ?_))
            exact sv_ireturn (pc := 107) G T ⟨(Nat.le_of_ble_eq_true rfl), (Nat.le_of_ble_eq_true rfl)⟩ dX7_votesFor_107 ⟨_, rfl, rfl, h⟩
          · have h := h.1 c_21
            refine sv_iconst (pc := 97) G dX7_votesFor_97 (-1) ic_m1 ?_
            refine sv_goto (pc := 98) G dX7_votesFor_98 107 (by decide) ?_
            exact sv_ireturn (pc := 107) G T ⟨(Nat.le_of_ble_eq_true rfl), (Nat.le_of_ble_eq_true rfl)⟩ dX7_votesFor_107 ⟨_, rfl, rfl, h⟩
        · have h := h.2 c_20
          refine sv_tswD (pc := 11) G dX7_votesFor_11 (by have qc_5 := lv_neT (a := 1) c_5 (by decide); have qc_8 := lv_neT (a := 2) c_8 (by decide); have qc_11 := lv_neT (a := 3) c_11 (by decide); have qc_20 := lv_neT (a := 4) c_20 (by decide); omega) 108 (by decide) ?_
          refine sv_aload_n (pc := 108) G dX7_votesFor_108 1 rfl ?_
          refine sv_iload_n (pc := 109) G dX7_votesFor_109 2 rfl ?_
          refine sv_iload_n (pc := 110) G dX7_votesFor_110 0 rfl ?_
          refine sv_callV (cs := 0) (sl := 0) (st := []) (As := [.int v1, .int r_2]) (a := 58) (pc := 111) G RR (c_X7_plainly hL  h) mw_X7_plainly lk_X7_117 (hL.sh rfl) (by decide) rfl rfl ⟨(Nat.le_of_ble_eq_true rfl), (Nat.le_of_ble_eq_true rfl)⟩ ⟨(Nat.le_of_ble_eq_true rfl), (Nat.le_of_ble_eq_true rfl)⟩ (Nat.le_of_ble_eq_true rfl) rfl dX7_votesFor_111 (sv_kI (fun r_25 g_24 h => ?_))
          exact sv_ireturn (pc := 114) G T ⟨(Nat.le_of_ble_eq_true rfl), (Nat.le_of_ble_eq_true rfl)⟩ dX7_votesFor_114 ⟨_, rfl, rfl, h⟩
def wp_X7_worthOf (F : sv_Fr) (v1 : Int32) (g : sv_Mg) (Q : Int32 → sv_Mg → Prop) : Prop := wp_X7_of F v1 3 g (fun r_2 g_1 => wp_X7_of F v1 0 g_1 (fun r_4 g_3 => ((r_4 = 1 → Q (r_2 + 6) g_3) ∧ (¬ r_4 = 1 → ((r_4 = 2 → Q (99 - r_2) g_3) ∧ (¬ r_4 = 2 → ((r_4 = 3 → Q (2 * (r_2 + 6)) g_3) ∧ (¬ r_4 = 3 → ((r_4 = 4 → Q (91 - r_2) g_3) ∧ (¬ r_4 = 4 → ((r_4 = 5 → Q 2 g_3) ∧ (¬ r_4 = 5 → Q r_2 g_3))))))))))))
set_option maxRecDepth 100000 in
set_option maxHeartbeats 4000000 in
theorem c_X7_worthOf {b : Nat} {xt : sv_Xt} {F : sv_Fr} {v1 : Int32} {g : sv_Mg} {Q : Int32 → sv_Mg → Prop} (hL : sv_Lay F) (h : wp_X7_worthOf F v1 g Q) : sv_Cal yX7_worthOf cX7_worthOf 3 (some .int) 1 22 0 0 b xt [.ref (b + 58), .int v1] F g (sv_qI F Q) := by
  refine sv_intro mw_X7_worthOf [(0, .ref (b + 58)), (1, .int v1)] rfl (Nat.le_of_ble_eq_true rfl) (fun x G RR T NM => ?_)
  have G : sv_G x b xt RX7 cX7_worthOf 3 := G
  unfold wp_X7_worthOf at h
  refine sv_aload_n (pc := 0) G dX7_worthOf_0 0 rfl ?_
  refine sv_iload_n (pc := 1) G dX7_worthOf_1 1 rfl ?_
  refine sv_iconst (pc := 2) G dX7_worthOf_2 3 ic_3 ?_
  refine sv_callV (cs := 0) (sl := 0) (st := []) (As := [.int v1, .int 3]) (a := 58) (pc := 3) G RR (c_X7_of hL  h) mw_X7_of lk_X7_96 (hL.sh rfl) (by decide) rfl rfl ⟨(Nat.le_of_ble_eq_true rfl), (Nat.le_of_ble_eq_true rfl)⟩ ⟨(Nat.le_of_ble_eq_true rfl), (Nat.le_of_ble_eq_true rfl)⟩ (Nat.le_of_ble_eq_true rfl) rfl dX7_worthOf_3 (sv_kI (fun r_2 g_1 h => ?_))
  refine sv_istore_n (pc := 6) G dX7_worthOf_6 [(2, .int r_2), (0, .ref (b + 58)), (1, .int v1)] (by decide) rfl ?_
  refine sv_aload_n (pc := 7) G dX7_worthOf_7 1 rfl ?_
  refine sv_iload_n (pc := 8) G dX7_worthOf_8 2 rfl ?_
  refine sv_iconst (pc := 9) G dX7_worthOf_9 0 ic_0 ?_
  refine sv_callV (cs := 0) (sl := 0) (st := []) (As := [.int v1, .int 0]) (a := 58) (pc := 10) G RR (c_X7_of hL  h) mw_X7_of lk_X7_96 (hL.sh rfl) (by decide) rfl rfl ⟨(Nat.le_of_ble_eq_true rfl), (Nat.le_of_ble_eq_true rfl)⟩ ⟨(Nat.le_of_ble_eq_true rfl), (Nat.le_of_ble_eq_true rfl)⟩ (Nat.le_of_ble_eq_true rfl) rfl dX7_worthOf_10 (sv_kI (fun r_4 g_3 h => ?_))
  by_cases c_5 : r_4 = 1
  · have h := h.1 c_5
    refine sv_tsw (pc := 13) G dX7_worthOf_13 1 (by rw [c_5]; decide) 48 (by decide) (by decide) rfl (by decide) ?_
    refine sv_iload_n (pc := 48) G dX7_worthOf_48 0 rfl ?_
    refine sv_bipush (pc := 49) G dX7_worthOf_49 6 bp_6 ?_
    refine sv_iadd (pc := 51) G dX7_worthOf_51 ?_
    exact sv_ireturn (pc := 52) G T ⟨(Nat.le_of_ble_eq_true rfl), (Nat.le_of_ble_eq_true rfl)⟩ dX7_worthOf_52 ⟨_, rfl, rfl, h⟩
  · have h := h.2 c_5
    by_cases c_6 : r_4 = 2
    · have h := h.1 c_6
      refine sv_tsw (pc := 13) G dX7_worthOf_13 2 (by rw [c_6]; decide) 53 (by decide) (by decide) rfl (by decide) ?_
      refine sv_bipush (pc := 53) G dX7_worthOf_53 99 bp_99 ?_
      refine sv_iload_n (pc := 55) G dX7_worthOf_55 0 rfl ?_
      refine sv_isub (pc := 56) G dX7_worthOf_56 ?_
      exact sv_ireturn (pc := 57) G T ⟨(Nat.le_of_ble_eq_true rfl), (Nat.le_of_ble_eq_true rfl)⟩ dX7_worthOf_57 ⟨_, rfl, rfl, h⟩
    · have h := h.2 c_6
      by_cases c_7 : r_4 = 3
      · have h := h.1 c_7
        refine sv_tsw (pc := 13) G dX7_worthOf_13 3 (by rw [c_7]; decide) 58 (by decide) (by decide) rfl (by decide) ?_
        refine sv_iconst (pc := 58) G dX7_worthOf_58 2 ic_2 ?_
        refine sv_iload_n (pc := 59) G dX7_worthOf_59 0 rfl ?_
        refine sv_bipush (pc := 60) G dX7_worthOf_60 6 bp_6 ?_
        refine sv_iadd (pc := 62) G dX7_worthOf_62 ?_
        refine sv_imul (pc := 63) G dX7_worthOf_63 ?_
        exact sv_ireturn (pc := 64) G T ⟨(Nat.le_of_ble_eq_true rfl), (Nat.le_of_ble_eq_true rfl)⟩ dX7_worthOf_64 ⟨_, rfl, rfl, h⟩
      · have h := h.2 c_7
        by_cases c_8 : r_4 = 4
        · have h := h.1 c_8
          refine sv_tsw (pc := 13) G dX7_worthOf_13 4 (by rw [c_8]; decide) 65 (by decide) (by decide) rfl (by decide) ?_
          refine sv_bipush (pc := 65) G dX7_worthOf_65 91 bp_91 ?_
          refine sv_iload_n (pc := 67) G dX7_worthOf_67 0 rfl ?_
          refine sv_isub (pc := 68) G dX7_worthOf_68 ?_
          exact sv_ireturn (pc := 69) G T ⟨(Nat.le_of_ble_eq_true rfl), (Nat.le_of_ble_eq_true rfl)⟩ dX7_worthOf_69 ⟨_, rfl, rfl, h⟩
        · have h := h.2 c_8
          by_cases c_9 : r_4 = 5
          · have h := h.1 c_9
            refine sv_tsw (pc := 13) G dX7_worthOf_13 5 (by rw [c_9]; decide) 70 (by decide) (by decide) rfl (by decide) ?_
            refine sv_iconst (pc := 70) G dX7_worthOf_70 2 ic_2 ?_
            exact sv_ireturn (pc := 71) G T ⟨(Nat.le_of_ble_eq_true rfl), (Nat.le_of_ble_eq_true rfl)⟩ dX7_worthOf_71 ⟨_, rfl, rfl, h⟩
          · have h := h.2 c_9
            refine sv_tswD (pc := 13) G dX7_worthOf_13 (by have qc_5 := lv_neT (a := 1) c_5 (by decide); have qc_6 := lv_neT (a := 2) c_6 (by decide); have qc_7 := lv_neT (a := 3) c_7 (by decide); have qc_8 := lv_neT (a := 4) c_8 (by decide); have qc_9 := lv_neT (a := 5) c_9 (by decide); omega) 72 (by decide) ?_
            refine sv_iload_n (pc := 72) G dX7_worthOf_72 0 rfl ?_
            exact sv_ireturn (pc := 73) G T ⟨(Nat.le_of_ble_eq_true rfl), (Nat.le_of_ble_eq_true rfl)⟩ dX7_worthOf_73 ⟨_, rfl, rfl, h⟩
def wp_X7_told (F : sv_Fr) (v1 : Int32) (v2 : Int32) (g : sv_Mg) (Q : Int32 → sv_Mg → Prop) : Prop := wp_X7_isVoter F v1 g (fun r_2 g_1 => ((r_2 = 0 → Q (-1000000001) g_1) ∧ (¬ r_2 = 0 → ((v2 = 0 → wp_X7_of F v1 v2 g_1 (fun r_6 g_5 => Q r_6 g_5)) ∧ (¬ v2 = 0 → ((v2 = 1 → wp_X7_of F v1 v2 g_1 (fun r_9 g_8 => Q r_9 g_8)) ∧ (¬ v2 = 1 → ((v2 = 2 → wp_X7_of F v1 v2 g_1 (fun r_12 g_11 => Q r_12 g_11)) ∧ (¬ v2 = 2 → ((v2 = 3 → wp_X7_of F v1 v2 g_1 (fun r_15 g_14 => Q r_15 g_14)) ∧ (¬ v2 = 3 → ((v2 = 4 → wp_X7_of F v1 v2 g_1 (fun r_18 g_17 => Q r_18 g_17)) ∧ (¬ v2 = 4 → ((v2 = 5 → wp_X7_of F v1 v2 g_1 (fun r_21 g_20 => Q r_21 g_20)) ∧ (¬ v2 = 5 → ((v2 = 6 → wp_X7_has F v1 g_1 (fun r_24 g_23 => Q r_24 g_23)) ∧ (¬ v2 = 6 → ((v2 = 7 → wp_X7_votesFor F v1 g_1 (fun r_27 g_26 => Q r_27 g_26)) ∧ (¬ v2 = 7 → ((v2 = 8 → wp_X7_weightOf F v1 g_1 (fun r_30 g_29 => Q r_30 g_29)) ∧ (¬ v2 = 8 → ((v2 = 9 → wp_X7_worthOf F v1 g_1 (fun r_33 g_32 => Q r_33 g_32)) ∧ (¬ v2 = 9 → Q (-1000000001) g_1)))))))))))))))))))))))
set_option maxRecDepth 100000 in
set_option maxHeartbeats 4000000 in
theorem c_X7_told {b : Nat} {xt : sv_Xt} {F : sv_Fr} {v1 : Int32} {v2 : Int32} {g : sv_Mg} {Q : Int32 → sv_Mg → Prop} (hL : sv_Lay F) (h : wp_X7_told F v1 v2 g Q) : sv_Cal yX7_told cX7_told 3 (some .int) 7 158 0 0 b xt [.ref (b + 58), .int v1, .int v2] F g (sv_qI F Q) := by
  refine sv_intro mw_X7_told [(0, .ref (b + 58)), (1, .int v1), (2, .int v2)] rfl (Nat.le_of_ble_eq_true rfl) (fun x G RR T NM => ?_)
  have G : sv_G x b xt RX7 cX7_told 3 := G
  unfold wp_X7_told at h
  refine sv_aload_n (pc := 0) G dX7_told_0 0 rfl ?_
  refine sv_iload_n (pc := 1) G dX7_told_1 1 rfl ?_
  refine sv_callV (cs := 0) (sl := 0) (st := []) (As := [.int v1]) (a := 58) (pc := 2) G RR (c_X7_isVoter hL  h) mw_X7_isVoter lk_X7_139 (hL.sh rfl) (by decide) rfl rfl ⟨(Nat.le_of_ble_eq_true rfl), (Nat.le_of_ble_eq_true rfl)⟩ ⟨(Nat.le_of_ble_eq_true rfl), (Nat.le_of_ble_eq_true rfl)⟩ (Nat.le_of_ble_eq_true rfl) rfl dX7_told_2 (sv_kI (fun r_2 g_1 h => ?_))
  refine sv_if_ne (pc := 5) G 11 (by decide) dX7_told_5 (fun c_3 => ?_) (fun c_3 => ?_)
  · have h := h.2 c_3
    refine sv_iload_n (pc := 11) G dX7_told_11 2 rfl ?_
    by_cases c_4 : v2 = 0
    · have h := h.1 c_4
      refine sv_tsw (pc := 12) G dX7_told_12 0 (by rw [c_4]; decide) 68 (by decide) (by decide) rfl (by decide) ?_
      refine sv_aload_n (pc := 68) G dX7_told_68 0 rfl ?_
      refine sv_iload_n (pc := 69) G dX7_told_69 1 rfl ?_
      refine sv_iload_n (pc := 70) G dX7_told_70 2 rfl ?_
      refine sv_callV (cs := 0) (sl := 0) (st := []) (As := [.int v1, .int v2]) (a := 58) (pc := 71) G RR (c_X7_of hL  h) mw_X7_of lk_X7_96 (hL.sh rfl) (by decide) rfl rfl ⟨(Nat.le_of_ble_eq_true rfl), (Nat.le_of_ble_eq_true rfl)⟩ ⟨(Nat.le_of_ble_eq_true rfl), (Nat.le_of_ble_eq_true rfl)⟩ (Nat.le_of_ble_eq_true rfl) rfl dX7_told_71 (sv_kI (fun r_6 g_5 h => ?_))
      exact sv_ireturn (pc := 74) G T ⟨(Nat.le_of_ble_eq_true rfl), (Nat.le_of_ble_eq_true rfl)⟩ dX7_told_74 ⟨_, rfl, rfl, h⟩
    · have h := h.2 c_4
      by_cases c_7 : v2 = 1
      · have h := h.1 c_7
        refine sv_tsw (pc := 12) G dX7_told_12 1 (by rw [c_7]; decide) 68 (by decide) (by decide) rfl (by decide) ?_
        refine sv_aload_n (pc := 68) G dX7_told_68 0 rfl ?_
        refine sv_iload_n (pc := 69) G dX7_told_69 1 rfl ?_
        refine sv_iload_n (pc := 70) G dX7_told_70 2 rfl ?_
        refine sv_callV (cs := 0) (sl := 0) (st := []) (As := [.int v1, .int v2]) (a := 58) (pc := 71) G RR (c_X7_of hL  h) mw_X7_of lk_X7_96 (hL.sh rfl) (by decide) rfl rfl ⟨(Nat.le_of_ble_eq_true rfl), (Nat.le_of_ble_eq_true rfl)⟩ ⟨(Nat.le_of_ble_eq_true rfl), (Nat.le_of_ble_eq_true rfl)⟩ (Nat.le_of_ble_eq_true rfl) rfl dX7_told_71 (sv_kI (fun r_9 g_8 h => ?_))
        exact sv_ireturn (pc := 74) G T ⟨(Nat.le_of_ble_eq_true rfl), (Nat.le_of_ble_eq_true rfl)⟩ dX7_told_74 ⟨_, rfl, rfl, h⟩
      · have h := h.2 c_7
        by_cases c_10 : v2 = 2
        · have h := h.1 c_10
          refine sv_tsw (pc := 12) G dX7_told_12 2 (by rw [c_10]; decide) 68 (by decide) (by decide) rfl (by decide) ?_
          refine sv_aload_n (pc := 68) G dX7_told_68 0 rfl ?_
          refine sv_iload_n (pc := 69) G dX7_told_69 1 rfl ?_
          refine sv_iload_n (pc := 70) G dX7_told_70 2 rfl ?_
          refine sv_callV (cs := 0) (sl := 0) (st := []) (As := [.int v1, .int v2]) (a := 58) (pc := 71) G RR (c_X7_of hL  h) mw_X7_of lk_X7_96 (hL.sh rfl) (by decide) rfl rfl ⟨(Nat.le_of_ble_eq_true rfl), (Nat.le_of_ble_eq_true rfl)⟩ ⟨(Nat.le_of_ble_eq_true rfl), (Nat.le_of_ble_eq_true rfl)⟩ (Nat.le_of_ble_eq_true rfl) rfl dX7_told_71 (sv_kI (fun r_12 g_11 h => ?_))
          exact sv_ireturn (pc := 74) G T ⟨(Nat.le_of_ble_eq_true rfl), (Nat.le_of_ble_eq_true rfl)⟩ dX7_told_74 ⟨_, rfl, rfl, h⟩
        · have h := h.2 c_10
          by_cases c_13 : v2 = 3
          · have h := h.1 c_13
            refine sv_tsw (pc := 12) G dX7_told_12 3 (by rw [c_13]; decide) 68 (by decide) (by decide) rfl (by decide) ?_
            refine sv_aload_n (pc := 68) G dX7_told_68 0 rfl ?_
            refine sv_iload_n (pc := 69) G dX7_told_69 1 rfl ?_
            refine sv_iload_n (pc := 70) G dX7_told_70 2 rfl ?_
            refine sv_callV (cs := 0) (sl := 0) (st := []) (As := [.int v1, .int v2]) (a := 58) (pc := 71) G RR (c_X7_of hL  h) mw_X7_of lk_X7_96 (hL.sh rfl) (by decide) rfl rfl ⟨(Nat.le_of_ble_eq_true rfl), (Nat.le_of_ble_eq_true rfl)⟩ ⟨(Nat.le_of_ble_eq_true rfl), (Nat.le_of_ble_eq_true rfl)⟩ (Nat.le_of_ble_eq_true rfl) rfl dX7_told_71 (sv_kI (fun r_15 g_14 h => ?_))
            exact sv_ireturn (pc := 74) G T ⟨(Nat.le_of_ble_eq_true rfl), (Nat.le_of_ble_eq_true rfl)⟩ dX7_told_74 ⟨_, rfl, rfl, h⟩
          · have h := h.2 c_13
            by_cases c_16 : v2 = 4
            · have h := h.1 c_16
              refine sv_tsw (pc := 12) G dX7_told_12 4 (by rw [c_16]; decide) 68 (by decide) (by decide) rfl (by decide) ?_
              refine sv_aload_n (pc := 68) G dX7_told_68 0 rfl ?_
              refine sv_iload_n (pc := 69) G dX7_told_69 1 rfl ?_
              refine sv_iload_n (pc := 70) G dX7_told_70 2 rfl ?_
              refine sv_callV (cs := 0) (sl := 0) (st := []) (As := [.int v1, .int v2]) (a := 58) (pc := 71) G RR (c_X7_of hL  h) mw_X7_of lk_X7_96 (hL.sh rfl) (by decide) rfl rfl ⟨(Nat.le_of_ble_eq_true rfl), (Nat.le_of_ble_eq_true rfl)⟩ ⟨(Nat.le_of_ble_eq_true rfl), (Nat.le_of_ble_eq_true rfl)⟩ (Nat.le_of_ble_eq_true rfl) rfl dX7_told_71 (sv_kI (fun r_18 g_17 h => ?_))
              exact sv_ireturn (pc := 74) G T ⟨(Nat.le_of_ble_eq_true rfl), (Nat.le_of_ble_eq_true rfl)⟩ dX7_told_74 ⟨_, rfl, rfl, h⟩
            · have h := h.2 c_16
              by_cases c_19 : v2 = 5
              · have h := h.1 c_19
                refine sv_tsw (pc := 12) G dX7_told_12 5 (by rw [c_19]; decide) 68 (by decide) (by decide) rfl (by decide) ?_
                refine sv_aload_n (pc := 68) G dX7_told_68 0 rfl ?_
                refine sv_iload_n (pc := 69) G dX7_told_69 1 rfl ?_
                refine sv_iload_n (pc := 70) G dX7_told_70 2 rfl ?_
                refine sv_callV (cs := 0) (sl := 0) (st := []) (As := [.int v1, .int v2]) (a := 58) (pc := 71) G RR (c_X7_of hL  h) mw_X7_of lk_X7_96 (hL.sh rfl) (by decide) rfl rfl ⟨(Nat.le_of_ble_eq_true rfl), (Nat.le_of_ble_eq_true rfl)⟩ ⟨(Nat.le_of_ble_eq_true rfl), (Nat.le_of_ble_eq_true rfl)⟩ (Nat.le_of_ble_eq_true rfl) rfl dX7_told_71 (sv_kI (fun r_21 g_20 h => ?_))
                exact sv_ireturn (pc := 74) G T ⟨(Nat.le_of_ble_eq_true rfl), (Nat.le_of_ble_eq_true rfl)⟩ dX7_told_74 ⟨_, rfl, rfl, h⟩
              · have h := h.2 c_19
                by_cases c_22 : v2 = 6
                · have h := h.1 c_22
                  refine sv_tsw (pc := 12) G dX7_told_12 6 (by rw [c_22]; decide) 75 (by decide) (by decide) rfl (by decide) ?_
                  refine sv_aload_n (pc := 75) G dX7_told_75 0 rfl ?_
                  refine sv_iload_n (pc := 76) G dX7_told_76 1 rfl ?_
                  refine sv_callV (cs := 0) (sl := 0) (st := []) (As := [.int v1]) (a := 58) (pc := 77) G RR (c_X7_has hL  h) mw_X7_has lk_X7_104 (hL.sh rfl) (by decide) rfl rfl ⟨(Nat.le_of_ble_eq_true rfl), (Nat.le_of_ble_eq_true rfl)⟩ ⟨(Nat.le_of_ble_eq_true rfl), (Nat.le_of_ble_eq_true rfl)⟩ (Nat.le_of_ble_eq_true rfl) rfl dX7_told_77 (sv_kI (fun r_24 g_23 h => ?_))
                  exact sv_ireturn (pc := 80) G T ⟨(Nat.le_of_ble_eq_true rfl), (Nat.le_of_ble_eq_true rfl)⟩ dX7_told_80 ⟨_, rfl, rfl, h⟩
                · have h := h.2 c_22
                  by_cases c_25 : v2 = 7
                  · have h := h.1 c_25
                    refine sv_tsw (pc := 12) G dX7_told_12 7 (by rw [c_25]; decide) 81 (by decide) (by decide) rfl (by decide) ?_
                    refine sv_aload_n (pc := 81) G dX7_told_81 0 rfl ?_
                    refine sv_iload_n (pc := 82) G dX7_told_82 1 rfl ?_
                    refine sv_callV (cs := 0) (sl := 0) (st := []) (As := [.int v1]) (a := 58) (pc := 83) G RR (c_X7_votesFor hL  h) mw_X7_votesFor lk_X7_143 (hL.sh rfl) (by decide) rfl rfl ⟨(Nat.le_of_ble_eq_true rfl), (Nat.le_of_ble_eq_true rfl)⟩ ⟨(Nat.le_of_ble_eq_true rfl), (Nat.le_of_ble_eq_true rfl)⟩ (Nat.le_of_ble_eq_true rfl) rfl dX7_told_83 (sv_kI (fun r_27 g_26 h => ?_))
                    exact sv_ireturn (pc := 86) G T ⟨(Nat.le_of_ble_eq_true rfl), (Nat.le_of_ble_eq_true rfl)⟩ dX7_told_86 ⟨_, rfl, rfl, h⟩
                  · have h := h.2 c_25
                    by_cases c_28 : v2 = 8
                    · have h := h.1 c_28
                      refine sv_tsw (pc := 12) G dX7_told_12 8 (by rw [c_28]; decide) 87 (by decide) (by decide) rfl (by decide) ?_
                      refine sv_aload_n (pc := 87) G dX7_told_87 0 rfl ?_
                      refine sv_iload_n (pc := 88) G dX7_told_88 1 rfl ?_
                      refine sv_callV (cs := 0) (sl := 0) (st := []) (As := [.int v1]) (a := 58) (pc := 89) G RR (c_X7_weightOf hL  h) mw_X7_weightOf lk_X7_100 (hL.sh rfl) (by decide) rfl rfl ⟨(Nat.le_of_ble_eq_true rfl), (Nat.le_of_ble_eq_true rfl)⟩ ⟨(Nat.le_of_ble_eq_true rfl), (Nat.le_of_ble_eq_true rfl)⟩ (Nat.le_of_ble_eq_true rfl) rfl dX7_told_89 (sv_kI (fun r_30 g_29 h => ?_))
                      exact sv_ireturn (pc := 92) G T ⟨(Nat.le_of_ble_eq_true rfl), (Nat.le_of_ble_eq_true rfl)⟩ dX7_told_92 ⟨_, rfl, rfl, h⟩
                    · have h := h.2 c_28
                      by_cases c_31 : v2 = 9
                      · have h := h.1 c_31
                        refine sv_tsw (pc := 12) G dX7_told_12 9 (by rw [c_31]; decide) 93 (by decide) (by decide) rfl (by decide) ?_
                        refine sv_aload_n (pc := 93) G dX7_told_93 0 rfl ?_
                        refine sv_iload_n (pc := 94) G dX7_told_94 1 rfl ?_
                        refine sv_callV (cs := 0) (sl := 0) (st := []) (As := [.int v1]) (a := 58) (pc := 95) G RR (c_X7_worthOf hL  h) mw_X7_worthOf lk_X7_146 (hL.sh rfl) (by decide) rfl rfl ⟨(Nat.le_of_ble_eq_true rfl), (Nat.le_of_ble_eq_true rfl)⟩ ⟨(Nat.le_of_ble_eq_true rfl), (Nat.le_of_ble_eq_true rfl)⟩ (Nat.le_of_ble_eq_true rfl) rfl dX7_told_95 (sv_kI (fun r_33 g_32 h => ?_))
                        exact sv_ireturn (pc := 98) G T ⟨(Nat.le_of_ble_eq_true rfl), (Nat.le_of_ble_eq_true rfl)⟩ dX7_told_98 ⟨_, rfl, rfl, h⟩
                      · have h := h.2 c_31
                        refine sv_tswD (pc := 12) G dX7_told_12 (by have qc_4 := lv_neT (a := 0) c_4 (by decide); have qc_7 := lv_neT (a := 1) c_7 (by decide); have qc_10 := lv_neT (a := 2) c_10 (by decide); have qc_13 := lv_neT (a := 3) c_13 (by decide); have qc_16 := lv_neT (a := 4) c_16 (by decide); have qc_19 := lv_neT (a := 5) c_19 (by decide); have qc_22 := lv_neT (a := 6) c_22 (by decide); have qc_25 := lv_neT (a := 7) c_25 (by decide); have qc_28 := lv_neT (a := 8) c_28 (by decide); have qc_31 := lv_neT (a := 9) c_31 (by decide); omega) 99 (by decide) ?_
                        refine sv_ldc (pc := 99) G dX7_told_99 cn_X7_90 ?_
                        exact sv_ireturn (pc := 101) G T ⟨(Nat.le_of_ble_eq_true rfl), (Nat.le_of_ble_eq_true rfl)⟩ dX7_told_101 ⟨_, rfl, rfl, h⟩
  · have h := h.1 c_3
    refine sv_ldc (pc := 8) G dX7_told_8 cn_X7_90 ?_
    exact sv_ireturn (pc := 10) G T ⟨(Nat.le_of_ble_eq_true rfl), (Nat.le_of_ble_eq_true rfl)⟩ dX7_told_10 ⟨_, rfl, rfl, h⟩
def wp_X7_isUnder_29 (F : sv_Fr) (Q : Int32 → sv_Mg → Prop) (g : sv_Mg) : Prop := Q 1 g
def wp_X7_isUnder_19 (F : sv_Fr) (Q : Int32 → sv_Mg → Prop) (v0 : Int32) (v1 : Int32) (g : sv_Mg) : Prop := ((v1 = 2 → ((v0 = 4 → wp_X7_isUnder_29 F  Q   g) ∧ (¬ v0 = 4 → Q 0 g))) ∧ (¬ v1 = 2 → Q 0 g))
def wp_X7_isUnder (F : sv_Fr) (v0 : Int32) (v1 : Int32) (g : sv_Mg) (Q : Int32 → sv_Mg → Prop) : Prop := ((v1 = 0 → wp_X7_isUnder_29 F  Q   g) ∧ (¬ v1 = 0 → ((v0 = v1 → wp_X7_isUnder_29 F  Q   g) ∧ (¬ v0 = v1 → ((v1 = 1 → ((v0 = 3 → wp_X7_isUnder_29 F  Q   g) ∧ (¬ v0 = 3 → wp_X7_isUnder_19 F  Q  v0 v1 g))) ∧ (¬ v1 = 1 → wp_X7_isUnder_19 F  Q  v0 v1 g))))))
set_option maxRecDepth 100000 in
set_option maxHeartbeats 4000000 in
theorem aw_X7_isUnder_29 {x : sv_X} {b : Nat} {xt : sv_Xt} {F : sv_Fr} {Q : Int32 → sv_Mg → Prop} (G : sv_G x b xt RX7 cX7_isUnder 2) (RR : sv_R x 0 0 0 0) (T : sv_RT x (some .boolean)) (hL : sv_Lay F) : ∀  (g : sv_Mg), wp_X7_isUnder_29 F Q   g → sv_AW x (sv_Q x (sv_qI F Q) 0 0) F g 0 0 29 [] [] := by
  intro g h
  unfold wp_X7_isUnder_29 at h
  refine sv_iconst (pc := 29) G dX7_isUnder_29 1 ic_1 ?_
  refine sv_goto (pc := 30) G dX7_isUnder_30 34 (by decide) ?_
  exact sv_zreturn (pc := 34) G T (Or.inr rfl) ⟨(Nat.le_of_ble_eq_true rfl), (Nat.le_of_ble_eq_true rfl)⟩ dX7_isUnder_34 ⟨_, rfl, rfl, h⟩
set_option maxRecDepth 100000 in
set_option maxHeartbeats 4000000 in
theorem aw_X7_isUnder_19 {x : sv_X} {b : Nat} {xt : sv_Xt} {F : sv_Fr} {Q : Int32 → sv_Mg → Prop} (G : sv_G x b xt RX7 cX7_isUnder 2) (RR : sv_R x 0 0 0 0) (T : sv_RT x (some .boolean)) (hL : sv_Lay F) : ∀ (v0 : Int32) (v1 : Int32) (g : sv_Mg), wp_X7_isUnder_19 F Q  v0 v1 g → sv_AW x (sv_Q x (sv_qI F Q) 0 0) F g 0 0 19 [(0, .int v0), (1, .int v1)] [] := by
  intro v0 v1 g h
  unfold wp_X7_isUnder_19 at h
  refine sv_iload_n (pc := 19) G dX7_isUnder_19 1 rfl ?_
  refine sv_iconst (pc := 20) G dX7_isUnder_20 2 ic_2 ?_
  refine sv_ic_ne (pc := 21) G 33 (by decide) dX7_isUnder_21 (fun c_1 => ?_) (fun c_1 => ?_)
  · have h := h.2 c_1
    refine sv_iconst (pc := 33) G dX7_isUnder_33 0 ic_0 ?_
    exact sv_zreturn (pc := 34) G T (Or.inl rfl) ⟨(Nat.le_of_ble_eq_true rfl), (Nat.le_of_ble_eq_true rfl)⟩ dX7_isUnder_34 ⟨_, rfl, rfl, h⟩
  · have h := h.1 c_1
    refine sv_iload_n (pc := 24) G dX7_isUnder_24 0 rfl ?_
    refine sv_iconst (pc := 25) G dX7_isUnder_25 4 ic_4 ?_
    refine sv_ic_ne (pc := 26) G 33 (by decide) dX7_isUnder_26 (fun c_2 => ?_) (fun c_2 => ?_)
    · have h := h.2 c_2
      refine sv_iconst (pc := 33) G dX7_isUnder_33 0 ic_0 ?_
      exact sv_zreturn (pc := 34) G T (Or.inl rfl) ⟨(Nat.le_of_ble_eq_true rfl), (Nat.le_of_ble_eq_true rfl)⟩ dX7_isUnder_34 ⟨_, rfl, rfl, h⟩
    · have h := h.1 c_2
      refine sv_locs [] [] rfl ?_
      exact aw_X7_isUnder_29 G RR T hL    g  h
set_option maxRecDepth 100000 in
set_option maxHeartbeats 4000000 in
theorem c_X7_isUnder {b : Nat} {xt : sv_Xt} {F : sv_Fr} {v0 : Int32} {v1 : Int32} {g : sv_Mg} {Q : Int32 → sv_Mg → Prop} (hL : sv_Lay F) (h : wp_X7_isUnder F v0 v1 g Q) : sv_Cal yX7_isUnder cX7_isUnder 2 (some .boolean) 0 0 0 0 b xt [.int v0, .int v1] F g (sv_qI F Q) := by
  refine sv_intro mw_X7_isUnder [(0, .int v0), (1, .int v1)] rfl (Nat.le_of_ble_eq_true rfl) (fun x G RR T NM => ?_)
  have G : sv_G x b xt RX7 cX7_isUnder 2 := G
  unfold wp_X7_isUnder at h
  refine sv_iload_n (pc := 0) G dX7_isUnder_0 1 rfl ?_
  refine sv_if_eq (pc := 1) G 29 (by decide) dX7_isUnder_1 (fun c_3 => ?_) (fun c_3 => ?_)
  · have h := h.1 c_3
    refine sv_locs [] [] rfl ?_
    exact aw_X7_isUnder_29 G RR T hL    g  h
  · have h := h.2 c_3
    refine sv_iload_n (pc := 4) G dX7_isUnder_4 0 rfl ?_
    refine sv_iload_n (pc := 5) G dX7_isUnder_5 1 rfl ?_
    refine sv_ic_eq (pc := 6) G 29 (by decide) dX7_isUnder_6 (fun c_4 => ?_) (fun c_4 => ?_)
    · have h := h.1 c_4
      refine sv_locs [] [] rfl ?_
      exact aw_X7_isUnder_29 G RR T hL    g  h
    · have h := h.2 c_4
      refine sv_iload_n (pc := 9) G dX7_isUnder_9 1 rfl ?_
      refine sv_iconst (pc := 10) G dX7_isUnder_10 1 ic_1 ?_
      refine sv_ic_ne (pc := 11) G 19 (by decide) dX7_isUnder_11 (fun c_5 => ?_) (fun c_5 => ?_)
      · have h := h.2 c_5
        refine sv_locs [0, 1] [(0, .int v0), (1, .int v1)] rfl ?_
        exact aw_X7_isUnder_19 G RR T hL   v0 v1 g  h
      · have h := h.1 c_5
        refine sv_iload_n (pc := 14) G dX7_isUnder_14 0 rfl ?_
        refine sv_iconst (pc := 15) G dX7_isUnder_15 3 ic_3 ?_
        refine sv_ic_eq (pc := 16) G 29 (by decide) dX7_isUnder_16 (fun c_6 => ?_) (fun c_6 => ?_)
        · have h := h.1 c_6
          refine sv_locs [] [] rfl ?_
          exact aw_X7_isUnder_29 G RR T hL    g  h
        · have h := h.2 c_6
          refine sv_locs [0, 1] [(0, .int v0), (1, .int v1)] rfl ?_
          exact aw_X7_isUnder_19 G RR T hL   v0 v1 g  h
def wp_X7_as (F : sv_Fr) (v1 : Int32) (v2 : Int32) (g : sv_Mg) (Q : Int32 → sv_Mg → Prop) : Prop := wp_X7_isVoter F v1 g (fun r_2 g_1 => ((r_2 = 0 → Q (-1000000001) g_1) ∧ (¬ r_2 = 0 → wp_X7_in F v2 0 5 g_1 (fun r_5 g_4 => ((r_5 = 0 → Q (-1000000001) g_4) ∧ (¬ r_5 = 0 → wp_X7_of F v1 0 g_4 (fun r_8 g_7 => wp_X7_isUnder F r_8 v2 g_7 (fun r_10 g_9 => ((r_10 = 0 → Q (-1000000012) g_9) ∧ (¬ r_10 = 0 → wp_X7_of F v1 3 g_9 (fun r_13 g_12 => Q r_13 g_12)))))))))))
set_option maxRecDepth 100000 in
set_option maxHeartbeats 4000000 in
theorem c_X7_as {b : Nat} {xt : sv_Xt} {F : sv_Fr} {v1 : Int32} {v2 : Int32} {g : sv_Mg} {Q : Int32 → sv_Mg → Prop} (hL : sv_Lay F) (h : wp_X7_as F v1 v2 g Q) : sv_Cal yX7_as cX7_as 3 (some .int) 2 43 0 0 b xt [.ref (b + 58), .int v1, .int v2] F g (sv_qI F Q) := by
  refine sv_intro mw_X7_as [(0, .ref (b + 58)), (1, .int v1), (2, .int v2)] rfl (Nat.le_of_ble_eq_true rfl) (fun x G RR T NM => ?_)
  have G : sv_G x b xt RX7 cX7_as 3 := G
  unfold wp_X7_as at h
  refine sv_aload_n (pc := 0) G dX7_as_0 0 rfl ?_
  refine sv_iload_n (pc := 1) G dX7_as_1 1 rfl ?_
  refine sv_callV (cs := 0) (sl := 0) (st := []) (As := [.int v1]) (a := 58) (pc := 2) G RR (c_X7_isVoter hL  h) mw_X7_isVoter lk_X7_139 (hL.sh rfl) (by decide) rfl rfl ⟨(Nat.le_of_ble_eq_true rfl), (Nat.le_of_ble_eq_true rfl)⟩ ⟨(Nat.le_of_ble_eq_true rfl), (Nat.le_of_ble_eq_true rfl)⟩ (Nat.le_of_ble_eq_true rfl) rfl dX7_as_2 (sv_kI (fun r_2 g_1 h => ?_))
  refine sv_if_eq (pc := 5) G 17 (by decide) dX7_as_5 (fun c_3 => ?_) (fun c_3 => ?_)
  · have h := h.1 c_3
    refine sv_ldc (pc := 17) G dX7_as_17 cn_X7_90 ?_
    exact sv_ireturn (pc := 19) G T ⟨(Nat.le_of_ble_eq_true rfl), (Nat.le_of_ble_eq_true rfl)⟩ dX7_as_19 ⟨_, rfl, rfl, h⟩
  · have h := h.2 c_3
    refine sv_iload_n (pc := 8) G dX7_as_8 2 rfl ?_
    refine sv_iconst (pc := 9) G dX7_as_9 0 ic_0 ?_
    refine sv_iconst (pc := 10) G dX7_as_10 5 ic_5 ?_
    refine sv_callS (cs := 0) (sl := 0) (st := []) (As := [.int v2, .int 0, .int 5]) (pc := 11) G RR (c_X7_in hL  h) mw_X7_in lk_X7_82 rfl ⟨(Nat.le_of_ble_eq_true rfl), (Nat.le_of_ble_eq_true rfl)⟩ ⟨(Nat.le_of_ble_eq_true rfl), (Nat.le_of_ble_eq_true rfl)⟩ (Nat.le_of_ble_eq_true rfl) rfl dX7_as_11 (sv_kI (fun r_5 g_4 h => ?_))
    refine sv_if_ne (pc := 14) G 20 (by decide) dX7_as_14 (fun c_6 => ?_) (fun c_6 => ?_)
    · have h := h.2 c_6
      refine sv_aload_n (pc := 20) G dX7_as_20 0 rfl ?_
      refine sv_iload_n (pc := 21) G dX7_as_21 1 rfl ?_
      refine sv_iconst (pc := 22) G dX7_as_22 0 ic_0 ?_
      refine sv_callV (cs := 0) (sl := 0) (st := []) (As := [.int v1, .int 0]) (a := 58) (pc := 23) G RR (c_X7_of hL  h) mw_X7_of lk_X7_96 (hL.sh rfl) (by decide) rfl rfl ⟨(Nat.le_of_ble_eq_true rfl), (Nat.le_of_ble_eq_true rfl)⟩ ⟨(Nat.le_of_ble_eq_true rfl), (Nat.le_of_ble_eq_true rfl)⟩ (Nat.le_of_ble_eq_true rfl) rfl dX7_as_23 (sv_kI (fun r_8 g_7 h => ?_))
      refine sv_iload_n (pc := 26) G dX7_as_26 2 rfl ?_
      refine sv_callS (cs := 0) (sl := 0) (st := []) (As := [.int r_8, .int v2]) (pc := 27) G RR (c_X7_isUnder hL  h) mw_X7_isUnder lk_X7_149 rfl ⟨(Nat.le_of_ble_eq_true rfl), (Nat.le_of_ble_eq_true rfl)⟩ ⟨(Nat.le_of_ble_eq_true rfl), (Nat.le_of_ble_eq_true rfl)⟩ (Nat.le_of_ble_eq_true rfl) rfl dX7_as_27 (sv_kI (fun r_10 g_9 h => ?_))
      refine sv_if_eq (pc := 30) G 42 (by decide) dX7_as_30 (fun c_11 => ?_) (fun c_11 => ?_)
      · have h := h.1 c_11
        refine sv_ldc (pc := 42) G dX7_as_42 cn_X7_153 ?_
        exact sv_ireturn (pc := 44) G T ⟨(Nat.le_of_ble_eq_true rfl), (Nat.le_of_ble_eq_true rfl)⟩ dX7_as_44 ⟨_, rfl, rfl, h⟩
      · have h := h.2 c_11
        refine sv_aload_n (pc := 33) G dX7_as_33 0 rfl ?_
        refine sv_iload_n (pc := 34) G dX7_as_34 1 rfl ?_
        refine sv_iconst (pc := 35) G dX7_as_35 3 ic_3 ?_
        refine sv_callV (cs := 0) (sl := 0) (st := []) (As := [.int v1, .int 3]) (a := 58) (pc := 36) G RR (c_X7_of hL  h) mw_X7_of lk_X7_96 (hL.sh rfl) (by decide) rfl rfl ⟨(Nat.le_of_ble_eq_true rfl), (Nat.le_of_ble_eq_true rfl)⟩ ⟨(Nat.le_of_ble_eq_true rfl), (Nat.le_of_ble_eq_true rfl)⟩ (Nat.le_of_ble_eq_true rfl) rfl dX7_as_36 (sv_kI (fun r_13 g_12 h => ?_))
        refine sv_goto (pc := 39) G dX7_as_39 44 (by decide) ?_
        exact sv_ireturn (pc := 44) G T ⟨(Nat.le_of_ble_eq_true rfl), (Nat.le_of_ble_eq_true rfl)⟩ dX7_as_44 ⟨_, rfl, rfl, h⟩
    · have h := h.1 c_6
      refine sv_ldc (pc := 17) G dX7_as_17 cn_X7_90 ?_
      exact sv_ireturn (pc := 19) G T ⟨(Nat.le_of_ble_eq_true rfl), (Nat.le_of_ble_eq_true rfl)⟩ dX7_as_19 ⟨_, rfl, rfl, h⟩
def wp_X7_turns (F : sv_Fr) (v1 : Int32) (v2 : Int32) (g : sv_Mg) (Q : Int32 → sv_Mg → Prop) : Prop := wp_X7_isVoter F v1 g (fun r_2 g_1 => ((r_2 = 0 → Q (-1000000001) g_1) ∧ (¬ r_2 = 0 → wp_X7_in F v2 0 5 g_1 (fun r_5 g_4 => ((r_5 = 0 → Q (-1000000001) g_4) ∧ (¬ r_5 = 0 → wp_X7_becomes F (11 + (6 * v1)) v2 g_4 (fun r_8 g_7 => Q r_8 g_7)))))))
set_option maxRecDepth 100000 in
set_option maxHeartbeats 4000000 in
theorem c_X7_turns {b : Nat} {xt : sv_Xt} {F : sv_Fr} {v1 : Int32} {v2 : Int32} {g : sv_Mg} {Q : Int32 → sv_Mg → Prop} (hL : sv_Lay F) (h : wp_X7_turns F v1 v2 g Q) : sv_Cal yX7_turns cX7_turns 3 (some .int) 2 43 0 0 b xt [.ref (b + 58), .int v1, .int v2] F g (sv_qI F Q) := by
  refine sv_intro mw_X7_turns [(0, .ref (b + 58)), (1, .int v1), (2, .int v2)] rfl (Nat.le_of_ble_eq_true rfl) (fun x G RR T NM => ?_)
  have G : sv_G x b xt RX7 cX7_turns 3 := G
  unfold wp_X7_turns at h
  refine sv_aload_n (pc := 0) G dX7_turns_0 0 rfl ?_
  refine sv_iload_n (pc := 1) G dX7_turns_1 1 rfl ?_
  refine sv_callV (cs := 0) (sl := 0) (st := []) (As := [.int v1]) (a := 58) (pc := 2) G RR (c_X7_isVoter hL  h) mw_X7_isVoter lk_X7_139 (hL.sh rfl) (by decide) rfl rfl ⟨(Nat.le_of_ble_eq_true rfl), (Nat.le_of_ble_eq_true rfl)⟩ ⟨(Nat.le_of_ble_eq_true rfl), (Nat.le_of_ble_eq_true rfl)⟩ (Nat.le_of_ble_eq_true rfl) rfl dX7_turns_2 (sv_kI (fun r_2 g_1 h => ?_))
  refine sv_if_eq (pc := 5) G 32 (by decide) dX7_turns_5 (fun c_3 => ?_) (fun c_3 => ?_)
  · have h := h.1 c_3
    refine sv_ldc (pc := 32) G dX7_turns_32 cn_X7_90 ?_
    exact sv_ireturn (pc := 34) G T ⟨(Nat.le_of_ble_eq_true rfl), (Nat.le_of_ble_eq_true rfl)⟩ dX7_turns_34 ⟨_, rfl, rfl, h⟩
  · have h := h.2 c_3
    refine sv_iload_n (pc := 8) G dX7_turns_8 2 rfl ?_
    refine sv_iconst (pc := 9) G dX7_turns_9 0 ic_0 ?_
    refine sv_iconst (pc := 10) G dX7_turns_10 5 ic_5 ?_
    refine sv_callS (cs := 0) (sl := 0) (st := []) (As := [.int v2, .int 0, .int 5]) (pc := 11) G RR (c_X7_in hL  h) mw_X7_in lk_X7_82 rfl ⟨(Nat.le_of_ble_eq_true rfl), (Nat.le_of_ble_eq_true rfl)⟩ ⟨(Nat.le_of_ble_eq_true rfl), (Nat.le_of_ble_eq_true rfl)⟩ (Nat.le_of_ble_eq_true rfl) rfl dX7_turns_11 (sv_kI (fun r_5 g_4 h => ?_))
    refine sv_if_eq (pc := 14) G 32 (by decide) dX7_turns_14 (fun c_6 => ?_) (fun c_6 => ?_)
    · have h := h.1 c_6
      refine sv_ldc (pc := 32) G dX7_turns_32 cn_X7_90 ?_
      exact sv_ireturn (pc := 34) G T ⟨(Nat.le_of_ble_eq_true rfl), (Nat.le_of_ble_eq_true rfl)⟩ dX7_turns_34 ⟨_, rfl, rfl, h⟩
    · have h := h.2 c_6
      refine sv_aload_n (pc := 17) G dX7_turns_17 0 rfl ?_
      refine sv_bipush (pc := 18) G dX7_turns_18 11 bp_11 ?_
      refine sv_bipush (pc := 20) G dX7_turns_20 6 bp_6 ?_
      refine sv_iload_n (pc := 22) G dX7_turns_22 1 rfl ?_
      refine sv_imul (pc := 23) G dX7_turns_23 ?_
      refine sv_iadd (pc := 24) G dX7_turns_24 ?_
      refine sv_iload_n (pc := 25) G dX7_turns_25 2 rfl ?_
      refine sv_callV (cs := 0) (sl := 0) (st := []) (As := [.int (11 + (6 * v1)), .int v2]) (a := 58) (pc := 26) G RR (c_X7_becomes hL  h) mw_X7_becomes lk_X7_154 (hL.sh rfl) (by decide) rfl rfl ⟨(Nat.le_of_ble_eq_true rfl), (Nat.le_of_ble_eq_true rfl)⟩ ⟨(Nat.le_of_ble_eq_true rfl), (Nat.le_of_ble_eq_true rfl)⟩ (Nat.le_of_ble_eq_true rfl) rfl dX7_turns_26 (sv_kI (fun r_8 g_7 h => ?_))
      refine sv_goto (pc := 29) G dX7_turns_29 34 (by decide) ?_
      exact sv_ireturn (pc := 34) G T ⟨(Nat.le_of_ble_eq_true rfl), (Nat.le_of_ble_eq_true rfl)⟩ dX7_turns_34 ⟨_, rfl, rfl, h⟩
def wp_X7_set_21 (F : sv_Fr) (Q : Int32 → sv_Mg → Prop) (v1 : Int32) (v2 : Int32) (v3 : Int32) (s0 : Int32) (g : sv_Mg) : Prop := wp_X7_isVoter F v1 g (fun r_2 g_1 => ((r_2 = 0 → Q (-1000000001) g_1) ∧ (¬ r_2 = 0 → wp_X7_in F v2 1 4 g_1 (fun r_5 g_4 => ((r_5 = 0 → Q (-1000000001) g_4) ∧ (¬ r_5 = 0 → wp_X7_in F v3 0 s0 g_4 (fun r_8 g_7 => ((r_8 = 0 → Q (-1000000001) g_7) ∧ (¬ r_8 = 0 → wp_X7_becomes F ((11 + (6 * v1)) + v2) v3 g_7 (fun r_11 g_10 => Q r_11 g_10))))))))))
def wp_X7_set (F : sv_Fr) (v1 : Int32) (v2 : Int32) (v3 : Int32) (g : sv_Mg) (Q : Int32 → sv_Mg → Prop) : Prop := ((v2 = 2 → wp_X7_set_21 F  Q  v1 v2 v3 3 g) ∧ (¬ v2 = 2 → ((v2 = 3 → wp_X7_set_21 F  Q  v1 v2 v3 99 g) ∧ (¬ v2 = 3 → wp_X7_set_21 F  Q  v1 v2 v3 9 g))))
set_option maxRecDepth 100000 in
set_option maxHeartbeats 4000000 in
theorem aw_X7_set_21 {x : sv_X} {b : Nat} {xt : sv_Xt} {F : sv_Fr} {Q : Int32 → sv_Mg → Prop} (G : sv_G x b xt RX7 cX7_set 5) (RR : sv_R x 2 43 0 0) (T : sv_RT x (some .int)) (hL : sv_Lay F) : ∀ (v1 : Int32) (v2 : Int32) (v3 : Int32) (s0 : Int32) (g : sv_Mg), wp_X7_set_21 F Q  v1 v2 v3 s0 g → sv_AW x (sv_Q x (sv_qI F Q) 0 0) F g 0 0 21 [(0, .ref (b + 58)), (1, .int v1), (2, .int v2), (3, .int v3)] [.int s0] := by
  intro v1 v2 v3 s0 g h
  unfold wp_X7_set_21 at h
  refine sv_istore (pc := 21) G dX7_set_21 [(4, .int s0), (0, .ref (b + 58)), (1, .int v1), (2, .int v2), (3, .int v3)] (by decide) rfl ?_
  refine sv_aload_n (pc := 23) G dX7_set_23 1 rfl ?_
  refine sv_iload_n (pc := 24) G dX7_set_24 2 rfl ?_
  refine sv_callV (cs := 0) (sl := 0) (st := []) (As := [.int v1]) (a := 58) (pc := 25) G RR (c_X7_isVoter hL  h) mw_X7_isVoter lk_X7_139 (hL.sh rfl) (by decide) rfl rfl ⟨(Nat.le_of_ble_eq_true rfl), (Nat.le_of_ble_eq_true rfl)⟩ ⟨(Nat.le_of_ble_eq_true rfl), (Nat.le_of_ble_eq_true rfl)⟩ (Nat.le_of_ble_eq_true rfl) rfl dX7_set_25 (sv_kI (fun r_2 g_1 h => ?_))
  refine sv_if_eq (pc := 28) G 67 (by decide) dX7_set_28 (fun c_3 => ?_) (fun c_3 => ?_)
  · have h := h.1 c_3
    refine sv_ldc (pc := 67) G dX7_set_67 cn_X7_90 ?_
    exact sv_ireturn (pc := 69) G T ⟨(Nat.le_of_ble_eq_true rfl), (Nat.le_of_ble_eq_true rfl)⟩ dX7_set_69 ⟨_, rfl, rfl, h⟩
  · have h := h.2 c_3
    refine sv_iload_n (pc := 31) G dX7_set_31 3 rfl ?_
    refine sv_iconst (pc := 32) G dX7_set_32 1 ic_1 ?_
    refine sv_iconst (pc := 33) G dX7_set_33 4 ic_4 ?_
    refine sv_callS (cs := 0) (sl := 0) (st := []) (As := [.int v2, .int 1, .int 4]) (pc := 34) G RR (c_X7_in hL  h) mw_X7_in lk_X7_82 rfl ⟨(Nat.le_of_ble_eq_true rfl), (Nat.le_of_ble_eq_true rfl)⟩ ⟨(Nat.le_of_ble_eq_true rfl), (Nat.le_of_ble_eq_true rfl)⟩ (Nat.le_of_ble_eq_true rfl) rfl dX7_set_34 (sv_kI (fun r_5 g_4 h => ?_))
    refine sv_if_eq (pc := 37) G 67 (by decide) dX7_set_37 (fun c_6 => ?_) (fun c_6 => ?_)
    · have h := h.1 c_6
      refine sv_ldc (pc := 67) G dX7_set_67 cn_X7_90 ?_
      exact sv_ireturn (pc := 69) G T ⟨(Nat.le_of_ble_eq_true rfl), (Nat.le_of_ble_eq_true rfl)⟩ dX7_set_69 ⟨_, rfl, rfl, h⟩
    · have h := h.2 c_6
      refine sv_iload_n (pc := 40) G dX7_set_40 4 rfl ?_
      refine sv_iconst (pc := 41) G dX7_set_41 0 ic_0 ?_
      refine sv_iload (pc := 42) G dX7_set_42 0 rfl ?_
      refine sv_callS (cs := 0) (sl := 0) (st := []) (As := [.int v3, .int 0, .int s0]) (pc := 44) G RR (c_X7_in hL  h) mw_X7_in lk_X7_82 rfl ⟨(Nat.le_of_ble_eq_true rfl), (Nat.le_of_ble_eq_true rfl)⟩ ⟨(Nat.le_of_ble_eq_true rfl), (Nat.le_of_ble_eq_true rfl)⟩ (Nat.le_of_ble_eq_true rfl) rfl dX7_set_44 (sv_kI (fun r_8 g_7 h => ?_))
      refine sv_if_eq (pc := 47) G 67 (by decide) dX7_set_47 (fun c_9 => ?_) (fun c_9 => ?_)
      · have h := h.1 c_9
        refine sv_ldc (pc := 67) G dX7_set_67 cn_X7_90 ?_
        exact sv_ireturn (pc := 69) G T ⟨(Nat.le_of_ble_eq_true rfl), (Nat.le_of_ble_eq_true rfl)⟩ dX7_set_69 ⟨_, rfl, rfl, h⟩
      · have h := h.2 c_9
        refine sv_aload_n (pc := 50) G dX7_set_50 1 rfl ?_
        refine sv_bipush (pc := 51) G dX7_set_51 11 bp_11 ?_
        refine sv_bipush (pc := 53) G dX7_set_53 6 bp_6 ?_
        refine sv_iload_n (pc := 55) G dX7_set_55 2 rfl ?_
        refine sv_imul (pc := 56) G dX7_set_56 ?_
        refine sv_iadd (pc := 57) G dX7_set_57 ?_
        refine sv_iload_n (pc := 58) G dX7_set_58 3 rfl ?_
        refine sv_iadd (pc := 59) G dX7_set_59 ?_
        refine sv_iload_n (pc := 60) G dX7_set_60 4 rfl ?_
        refine sv_callV (cs := 0) (sl := 0) (st := []) (As := [.int ((11 + (6 * v1)) + v2), .int v3]) (a := 58) (pc := 61) G RR (c_X7_becomes hL  h) mw_X7_becomes lk_X7_154 (hL.sh rfl) (by decide) rfl rfl ⟨(Nat.le_of_ble_eq_true rfl), (Nat.le_of_ble_eq_true rfl)⟩ ⟨(Nat.le_of_ble_eq_true rfl), (Nat.le_of_ble_eq_true rfl)⟩ (Nat.le_of_ble_eq_true rfl) rfl dX7_set_61 (sv_kI (fun r_11 g_10 h => ?_))
        refine sv_goto (pc := 64) G dX7_set_64 69 (by decide) ?_
        exact sv_ireturn (pc := 69) G T ⟨(Nat.le_of_ble_eq_true rfl), (Nat.le_of_ble_eq_true rfl)⟩ dX7_set_69 ⟨_, rfl, rfl, h⟩
set_option maxRecDepth 100000 in
set_option maxHeartbeats 4000000 in
theorem c_X7_set {b : Nat} {xt : sv_Xt} {F : sv_Fr} {v1 : Int32} {v2 : Int32} {v3 : Int32} {g : sv_Mg} {Q : Int32 → sv_Mg → Prop} (hL : sv_Lay F) (h : wp_X7_set F v1 v2 v3 g Q) : sv_Cal yX7_set cX7_set 5 (some .int) 2 43 0 0 b xt [.ref (b + 58), .int v1, .int v2, .int v3] F g (sv_qI F Q) := by
  refine sv_intro mw_X7_set [(0, .ref (b + 58)), (1, .int v1), (2, .int v2), (3, .int v3)] rfl (Nat.le_of_ble_eq_true rfl) (fun x G RR T NM => ?_)
  have G : sv_G x b xt RX7 cX7_set 5 := G
  unfold wp_X7_set at h
  refine sv_iload_n (pc := 0) G dX7_set_0 2 rfl ?_
  refine sv_iconst (pc := 1) G dX7_set_1 2 ic_2 ?_
  refine sv_ic_ne (pc := 2) G 9 (by decide) dX7_set_2 (fun c_12 => ?_) (fun c_12 => ?_)
  · have h := h.2 c_12
    refine sv_iload_n (pc := 9) G dX7_set_9 2 rfl ?_
    refine sv_iconst (pc := 10) G dX7_set_10 3 ic_3 ?_
    refine sv_ic_ne (pc := 11) G 19 (by decide) dX7_set_11 (fun c_13 => ?_) (fun c_13 => ?_)
    · have h := h.2 c_13
      refine sv_bipush (pc := 19) G dX7_set_19 9 bp_9 ?_
      refine sv_locs [0, 1, 2, 3] [(0, .ref (b + 58)), (1, .int v1), (2, .int v2), (3, .int v3)] rfl ?_
      exact aw_X7_set_21 G RR T hL   v1 v2 v3 9 g  h
    · have h := h.1 c_13
      refine sv_bipush (pc := 14) G dX7_set_14 99 bp_99 ?_
      refine sv_goto (pc := 16) G dX7_set_16 21 (by decide) ?_
      refine sv_locs [0, 1, 2, 3] [(0, .ref (b + 58)), (1, .int v1), (2, .int v2), (3, .int v3)] rfl ?_
      exact aw_X7_set_21 G RR T hL   v1 v2 v3 99 g  h
  · have h := h.1 c_12
    refine sv_iconst (pc := 5) G dX7_set_5 3 ic_3 ?_
    refine sv_goto (pc := 6) G dX7_set_6 21 (by decide) ?_
    refine sv_locs [0, 1, 2, 3] [(0, .ref (b + 58)), (1, .int v1), (2, .int v2), (3, .int v3)] rfl ?_
    exact aw_X7_set_21 G RR T hL   v1 v2 v3 3 g  h
def wp_X7_rule_20 (F : sv_Fr) (Q : Int32 → sv_Mg → Prop) (v1 : Int32) (v2 : Int32) (s0 : Int32) (s1 : Int32) (g : sv_Mg) : Prop := wp_X7_in F s1 s0 99 g (fun r_2 g_1 => ((r_2 = 0 → Q (-1000000001) g_1) ∧ (¬ r_2 = 0 → wp_X7_becomes F (4 + v1) v2 g_1 (fun r_5 g_4 => Q r_5 g_4))))
def wp_X7_rule (F : sv_Fr) (v1 : Int32) (v2 : Int32) (g : sv_Mg) (Q : Int32 → sv_Mg → Prop) : Prop := wp_X7_in F v1 0 2 g (fun r_7 g_6 => ((r_7 = 0 → Q (-1000000001) g_6) ∧ (¬ r_7 = 0 → ((v1 = 2 → wp_X7_rule_20 F  Q  v1 v2 1 v2 g_6) ∧ (¬ v1 = 2 → wp_X7_rule_20 F  Q  v1 v2 0 v2 g_6)))))
set_option maxRecDepth 100000 in
set_option maxHeartbeats 4000000 in
theorem aw_X7_rule_20 {x : sv_X} {b : Nat} {xt : sv_Xt} {F : sv_Fr} {Q : Int32 → sv_Mg → Prop} (G : sv_G x b xt RX7 cX7_rule 3) (RR : sv_R x 1 23 0 0) (T : sv_RT x (some .int)) (hL : sv_Lay F) : ∀ (v1 : Int32) (v2 : Int32) (s0 : Int32) (s1 : Int32) (g : sv_Mg), wp_X7_rule_20 F Q  v1 v2 s0 s1 g → sv_AW x (sv_Q x (sv_qI F Q) 0 0) F g 0 0 20 [(0, .ref (b + 58)), (1, .int v1), (2, .int v2)] [.int s0, .int s1] := by
  intro v1 v2 s0 s1 g h
  unfold wp_X7_rule_20 at h
  refine sv_bipush (pc := 20) G dX7_rule_20 99 bp_99 ?_
  refine sv_callS (cs := 0) (sl := 0) (st := []) (As := [.int s1, .int s0, .int 99]) (pc := 22) G RR (c_X7_in hL  h) mw_X7_in lk_X7_82 rfl ⟨(Nat.le_of_ble_eq_true rfl), (Nat.le_of_ble_eq_true rfl)⟩ ⟨(Nat.le_of_ble_eq_true rfl), (Nat.le_of_ble_eq_true rfl)⟩ (Nat.le_of_ble_eq_true rfl) rfl dX7_rule_22 (sv_kI (fun r_2 g_1 h => ?_))
  refine sv_if_eq (pc := 25) G 39 (by decide) dX7_rule_25 (fun c_3 => ?_) (fun c_3 => ?_)
  · have h := h.1 c_3
    refine sv_ldc (pc := 39) G dX7_rule_39 cn_X7_90 ?_
    exact sv_ireturn (pc := 41) G T ⟨(Nat.le_of_ble_eq_true rfl), (Nat.le_of_ble_eq_true rfl)⟩ dX7_rule_41 ⟨_, rfl, rfl, h⟩
  · have h := h.2 c_3
    refine sv_aload_n (pc := 28) G dX7_rule_28 0 rfl ?_
    refine sv_iconst (pc := 29) G dX7_rule_29 4 ic_4 ?_
    refine sv_iload_n (pc := 30) G dX7_rule_30 1 rfl ?_
    refine sv_iadd (pc := 31) G dX7_rule_31 ?_
    refine sv_iload_n (pc := 32) G dX7_rule_32 2 rfl ?_
    refine sv_callV (cs := 0) (sl := 0) (st := []) (As := [.int (4 + v1), .int v2]) (a := 58) (pc := 33) G RR (c_X7_becomes hL  h) mw_X7_becomes lk_X7_154 (hL.sh rfl) (by decide) rfl rfl ⟨(Nat.le_of_ble_eq_true rfl), (Nat.le_of_ble_eq_true rfl)⟩ ⟨(Nat.le_of_ble_eq_true rfl), (Nat.le_of_ble_eq_true rfl)⟩ (Nat.le_of_ble_eq_true rfl) rfl dX7_rule_33 (sv_kI (fun r_5 g_4 h => ?_))
    refine sv_goto (pc := 36) G dX7_rule_36 41 (by decide) ?_
    exact sv_ireturn (pc := 41) G T ⟨(Nat.le_of_ble_eq_true rfl), (Nat.le_of_ble_eq_true rfl)⟩ dX7_rule_41 ⟨_, rfl, rfl, h⟩
set_option maxRecDepth 100000 in
set_option maxHeartbeats 4000000 in
theorem c_X7_rule {b : Nat} {xt : sv_Xt} {F : sv_Fr} {v1 : Int32} {v2 : Int32} {g : sv_Mg} {Q : Int32 → sv_Mg → Prop} (hL : sv_Lay F) (h : wp_X7_rule F v1 v2 g Q) : sv_Cal yX7_rule cX7_rule 3 (some .int) 1 23 0 0 b xt [.ref (b + 58), .int v1, .int v2] F g (sv_qI F Q) := by
  refine sv_intro mw_X7_rule [(0, .ref (b + 58)), (1, .int v1), (2, .int v2)] rfl (Nat.le_of_ble_eq_true rfl) (fun x G RR T NM => ?_)
  have G : sv_G x b xt RX7 cX7_rule 3 := G
  unfold wp_X7_rule at h
  refine sv_iload_n (pc := 0) G dX7_rule_0 1 rfl ?_
  refine sv_iconst (pc := 1) G dX7_rule_1 0 ic_0 ?_
  refine sv_iconst (pc := 2) G dX7_rule_2 2 ic_2 ?_
  refine sv_callS (cs := 0) (sl := 0) (st := []) (As := [.int v1, .int 0, .int 2]) (pc := 3) G RR (c_X7_in hL  h) mw_X7_in lk_X7_82 rfl ⟨(Nat.le_of_ble_eq_true rfl), (Nat.le_of_ble_eq_true rfl)⟩ ⟨(Nat.le_of_ble_eq_true rfl), (Nat.le_of_ble_eq_true rfl)⟩ (Nat.le_of_ble_eq_true rfl) rfl dX7_rule_3 (sv_kI (fun r_7 g_6 h => ?_))
  refine sv_if_eq (pc := 6) G 39 (by decide) dX7_rule_6 (fun c_8 => ?_) (fun c_8 => ?_)
  · have h := h.1 c_8
    refine sv_ldc (pc := 39) G dX7_rule_39 cn_X7_90 ?_
    exact sv_ireturn (pc := 41) G T ⟨(Nat.le_of_ble_eq_true rfl), (Nat.le_of_ble_eq_true rfl)⟩ dX7_rule_41 ⟨_, rfl, rfl, h⟩
  · have h := h.2 c_8
    refine sv_iload_n (pc := 9) G dX7_rule_9 2 rfl ?_
    refine sv_iload_n (pc := 10) G dX7_rule_10 1 rfl ?_
    refine sv_iconst (pc := 11) G dX7_rule_11 2 ic_2 ?_
    refine sv_ic_ne (pc := 12) G 19 (by decide) dX7_rule_12 (fun c_9 => ?_) (fun c_9 => ?_)
    · have h := h.2 c_9
      refine sv_iconst (pc := 19) G dX7_rule_19 0 ic_0 ?_
      refine sv_locs [0, 1, 2] [(0, .ref (b + 58)), (1, .int v1), (2, .int v2)] rfl ?_
      exact aw_X7_rule_20 G RR T hL   v1 v2 0 v2 g_6  h
    · have h := h.1 c_9
      refine sv_iconst (pc := 15) G dX7_rule_15 1 ic_1 ?_
      refine sv_goto (pc := 16) G dX7_rule_16 20 (by decide) ?_
      refine sv_locs [0, 1, 2] [(0, .ref (b + 58)), (1, .int v1), (2, .int v2)] rfl ?_
      exact aw_X7_rule_20 G RR T hL   v1 v2 1 v2 g_6  h
def wp_X7_again_32 (F : sv_Fr) (Q : Int32 → sv_Mg → Prop) : Nat → Int32 → Int32 → sv_Mg → Prop
  | 0, _, _, _ => False
  | n + 1, v1, v2, g => (((g 59 1) ≤ v2 → Q v1 g) ∧ (¬ (g 59 1) ≤ v2 → wp_X7_put F v2 5 (-1) g (fun g_2 => ∀ v2_3 : Int32, v2_3 = v2 + 1 → (wp_X7_again_32 F Q  n) v1 v2_3 g_2)))
def wp_X7_again (F : sv_Fr) (g : sv_Mg) (Q : Int32 → sv_Mg → Prop) : Prop := ∀ v1_4 : Int32, v1_4 = (g 59 3) → ∀ g_5, g_5 = sv_st g 59 3 0 → ∀ g_6, g_6 = sv_st g_5 59 7 (-1) → ∀ g_7, g_7 = sv_st g_6 59 8 3 → ∃ n_8, wp_X7_again_32 F  Q  n_8 v1_4 0 g_7
set_option maxRecDepth 100000 in
set_option maxHeartbeats 4000000 in
theorem aw_X7_again_32 {x : sv_X} {b : Nat} {xt : sv_Xt} {F : sv_Fr} {Q : Int32 → sv_Mg → Prop} (G : sv_G x b xt RX7 cX7_again 3) (RR : sv_R x 1 23 0 0) (T : sv_RT x (some .int)) (hL : sv_Lay F) : ∀ (n : Nat) (v1 : Int32) (v2 : Int32) (g : sv_Mg), wp_X7_again_32 F Q  n v1 v2 g → sv_AW x (sv_Q x (sv_qI F Q) 0 0) F g 0 0 32 [(0, .ref (b + 58)), (1, .int v1), (2, .int v2)] [] := by
  intro n
  induction n with
  | zero => intro v1 v2 g h; exact h.elim
  | succ n ih =>
    intro v1 v2 g h
    rw [wp_X7_again_32] at h
    refine sv_iload_n (pc := 32) G dX7_again_32 2 rfl ?_
    refine sv_aload_n (pc := 33) G dX7_again_33 0 rfl ?_
    refine sv_getR (pc := 34) G fw_X7_9 (hL.sh rfl) rfl (hL.rf 60 rfl) dX7_again_34 ?_
    refine sv_iconst (pc := 37) G dX7_again_37 1 ic_1 ?_
    refine sv_ialdK (pc := 38) G (hL.sh rfl) vi_1_1443 1 tn_1 dX7_again_38 ?_
    refine sv_ic_ge (pc := 39) G 55 (by decide) dX7_again_39 (fun c_1 => ?_) (fun c_1 => ?_)
    · have h := h.1 c_1
      refine sv_iload_n (pc := 55) G dX7_again_55 1 rfl ?_
      exact sv_ireturn (pc := 56) G T ⟨(Nat.le_of_ble_eq_true rfl), (Nat.le_of_ble_eq_true rfl)⟩ dX7_again_56 ⟨_, rfl, rfl, h⟩
    · have h := h.2 c_1
      refine sv_aload_n (pc := 42) G dX7_again_42 0 rfl ?_
      refine sv_iload_n (pc := 43) G dX7_again_43 2 rfl ?_
      refine sv_iconst (pc := 44) G dX7_again_44 5 ic_5 ?_
      refine sv_iconst (pc := 45) G dX7_again_45 (-1) ic_m1 ?_
      refine sv_callV (cs := 0) (sl := 0) (st := []) (As := [.int v2, .int 5, .int (-1)]) (a := 58) (pc := 46) G RR (c_X7_put hL  h) mw_X7_put lk_X7_86 (hL.sh rfl) (by decide) rfl rfl ⟨(Nat.le_of_ble_eq_true rfl), (Nat.le_of_ble_eq_true rfl)⟩ ⟨(Nat.le_of_ble_eq_true rfl), (Nat.le_of_ble_eq_true rfl)⟩ (Nat.le_of_ble_eq_true rfl) rfl dX7_again_46 (sv_kV (fun g_2 h => ?_))
      obtain ⟨v2_3, ev2_3⟩ : ∃ y : Int32, y = v2 + 1 := ⟨_, rfl⟩
      have h := h v2_3 ev2_3
      refine sv_iinc (pc := 49) G dX7_again_49 2 v2_3 [(2, .int v2_3), (0, .ref (b + 58)), (1, .int v1)] (by rw [ev2_3, ic_1]) rfl (by decide) rfl ?_
      refine sv_goto (pc := 52) G dX7_again_52 32 (by decide) ?_
      refine sv_locs [1, 2, 0] [(0, .ref (b + 58)), (1, .int v1), (2, .int v2_3)] rfl ?_
      exact ih v1 v2_3 g_2  h
set_option maxRecDepth 100000 in
set_option maxHeartbeats 4000000 in
theorem c_X7_again {b : Nat} {xt : sv_Xt} {F : sv_Fr} {g : sv_Mg} {Q : Int32 → sv_Mg → Prop} (hL : sv_Lay F) (h : wp_X7_again F g Q) : sv_Cal yX7_again cX7_again 3 (some .int) 1 23 0 0 b xt [.ref (b + 58)] F g (sv_qI F Q) := by
  refine sv_intro mw_X7_again [(0, .ref (b + 58))] rfl (Nat.le_of_ble_eq_true rfl) (fun x G RR T NM => ?_)
  have G : sv_G x b xt RX7 cX7_again 3 := G
  unfold wp_X7_again at h
  refine sv_aload_n (pc := 0) G dX7_again_0 0 rfl ?_
  refine sv_getR (pc := 1) G fw_X7_9 (hL.sh rfl) rfl (hL.rf 60 rfl) dX7_again_1 ?_
  refine sv_iconst (pc := 4) G dX7_again_4 3 ic_3 ?_
  refine sv_ialdK (pc := 5) G (hL.sh rfl) vi_3_1443 3 tn_3 dX7_again_5 ?_
  refine sv_topi (fun v1_4 ev1_4 => ?_)
  have h := h v1_4 ev1_4
  refine sv_istore_n (pc := 6) G dX7_again_6 [(1, .int v1_4), (0, .ref (b + 58))] (by decide) rfl ?_
  refine sv_aload_n (pc := 7) G dX7_again_7 1 rfl ?_
  refine sv_getR (pc := 8) G fw_X7_9 (hL.sh rfl) rfl (hL.rf 60 rfl) dX7_again_8 ?_
  refine sv_iconst (pc := 11) G dX7_again_11 3 ic_3 ?_
  refine sv_iconst (pc := 12) G dX7_again_12 0 ic_0 ?_
  refine sv_iastK (pc := 13) G (hL.sh rfl) vi_3_1443 3 tn_3 dX7_again_13 (fun g_5 eg_5 => ?_)
  have h := h g_5 eg_5
  refine sv_aload_n (pc := 14) G dX7_again_14 1 rfl ?_
  refine sv_getR (pc := 15) G fw_X7_9 (hL.sh rfl) rfl (hL.rf 60 rfl) dX7_again_15 ?_
  refine sv_bipush (pc := 18) G dX7_again_18 7 bp_7 ?_
  refine sv_iconst (pc := 20) G dX7_again_20 (-1) ic_m1 ?_
  refine sv_iastK (pc := 21) G (hL.sh rfl) vi_7_1443 7 tn_7 dX7_again_21 (fun g_6 eg_6 => ?_)
  have h := h g_6 eg_6
  refine sv_aload_n (pc := 22) G dX7_again_22 1 rfl ?_
  refine sv_getR (pc := 23) G fw_X7_9 (hL.sh rfl) rfl (hL.rf 60 rfl) dX7_again_23 ?_
  refine sv_bipush (pc := 26) G dX7_again_26 8 bp_8 ?_
  refine sv_iconst (pc := 28) G dX7_again_28 3 ic_3 ?_
  refine sv_iastK (pc := 29) G (hL.sh rfl) vi_8_1443 8 tn_8 dX7_again_29 (fun g_7 eg_7 => ?_)
  have h := h g_7 eg_7
  refine sv_iconst (pc := 30) G dX7_again_30 0 ic_0 ?_
  refine sv_istore_n (pc := 31) G dX7_again_31 [(2, .int 0), (1, .int v1_4), (0, .ref (b + 58))] (by decide) rfl ?_
  refine sv_locs [2, 1, 0] [(0, .ref (b + 58)), (1, .int v1_4), (2, .int 0)] rfl ?_
  obtain ⟨n_8, h⟩ := h
  exact aw_X7_again_32 G RR T hL   n_8 v1_4 0 g_7  h
def wp_X7_draw (F : sv_Fr) (g : sv_Mg) (Q : Int32 → sv_Mg → Prop) : Prop := ∀ g_1, g_1 = sv_st g 59 0 (((g 59 0) * 1103515245) + 12345) → Q ((((g_1 59 0) : Int32).toUInt32 >>> ((8 : Int32).toUInt32 &&& Int32.toUInt32 31)).toInt32) g_1
set_option maxRecDepth 100000 in
set_option maxHeartbeats 4000000 in
theorem c_X7_draw {b : Nat} {xt : sv_Xt} {F : sv_Fr} {g : sv_Mg} {Q : Int32 → sv_Mg → Prop} (hL : sv_Lay F) (h : wp_X7_draw F g Q) : sv_Cal yX7_draw cX7_draw 1 (some .int) 0 0 0 0 b xt [.ref (b + 58)] F g (sv_qI F Q) := by
  refine sv_intro mw_X7_draw [(0, .ref (b + 58))] rfl (Nat.le_of_ble_eq_true rfl) (fun x G RR T NM => ?_)
  have G : sv_G x b xt RX7 cX7_draw 1 := G
  unfold wp_X7_draw at h
  refine sv_aload_n (pc := 0) G dX7_draw_0 0 rfl ?_
  refine sv_getR (pc := 1) G fw_X7_9 (hL.sh rfl) rfl (hL.rf 60 rfl) dX7_draw_1 ?_
  refine sv_iconst (pc := 4) G dX7_draw_4 0 ic_0 ?_
  refine sv_aload_n (pc := 5) G dX7_draw_5 0 rfl ?_
  refine sv_getR (pc := 6) G fw_X7_9 (hL.sh rfl) rfl (hL.rf 60 rfl) dX7_draw_6 ?_
  refine sv_iconst (pc := 9) G dX7_draw_9 0 ic_0 ?_
  refine sv_ialdK (pc := 10) G (hL.sh rfl) vi_0_1443 0 tn_0 dX7_draw_10 ?_
  refine sv_ldc (pc := 11) G dX7_draw_11 cn_X7_157 ?_
  refine sv_imul (pc := 13) G dX7_draw_13 ?_
  refine sv_sipush (pc := 14) G dX7_draw_14 12345 sp_12345 ?_
  refine sv_iadd (pc := 17) G dX7_draw_17 ?_
  refine sv_iastK (pc := 18) G (hL.sh rfl) vi_0_1443 0 tn_0 dX7_draw_18 (fun g_1 eg_1 => ?_)
  have h := h g_1 eg_1
  refine sv_aload_n (pc := 19) G dX7_draw_19 0 rfl ?_
  refine sv_getR (pc := 20) G fw_X7_9 (hL.sh rfl) rfl (hL.rf 60 rfl) dX7_draw_20 ?_
  refine sv_iconst (pc := 23) G dX7_draw_23 0 ic_0 ?_
  refine sv_ialdK (pc := 24) G (hL.sh rfl) vi_0_1443 0 tn_0 dX7_draw_24 ?_
  refine sv_bipush (pc := 25) G dX7_draw_25 8 bp_8 ?_
  refine sv_iushr (pc := 27) G dX7_draw_27 ?_
  exact sv_ireturn (pc := 28) G T ⟨(Nat.le_of_ble_eq_true rfl), (Nat.le_of_ble_eq_true rfl)⟩ dX7_draw_28 ⟨_, rfl, rfl, h⟩
def wp_X7_deal_15 (F : sv_Fr) (Q : Int32 → sv_Mg → Prop) : Nat → Int32 → Int32 → sv_Mg → Prop
  | 0, _, _, _ => False
  | n + 1, v1, v2, g => ((v1 ≤ v2 → Q v2 g) ∧ (¬ v1 ≤ v2 → ((10 ≤ (g 59 1) → Q v2 g) ∧ (¬ 10 ≤ (g 59 1) → wp_X7_draw F  g (fun r_4 g_3 => ∀ v3_5 : Int32, v3_5 = (r_4 - r_4 / 6 * 6) → wp_X7_draw F  g_3 (fun r_7 g_6 => ∀ v4_8 : Int32, v4_8 = (r_7 - r_7 / 10 * 10) → wp_X7_draw F  g_6 (fun r_10 g_9 => ∀ v5_11 : Int32, v5_11 = (r_10 - r_10 / 4 * 4) → wp_X7_draw F  g_9 (fun r_13 g_12 => wp_X7_comes F v3_5 v4_8 v5_11 (r_13 - r_13 / 100 * 100) g_12 (fun r_15 g_14 => ∀ v2_16 : Int32, v2_16 = v2 + 1 → (wp_X7_deal_15 F Q  n) v1 v2_16 g_14)))))))))
def wp_X7_deal (F : sv_Fr) (v1 : Int32) (g : sv_Mg) (Q : Int32 → sv_Mg → Prop) : Prop := wp_X7_in F v1 1 10 g (fun r_18 g_17 => ((r_18 = 0 → Q (-1000000001) g_17) ∧ (¬ r_18 = 0 → ∃ n_20, wp_X7_deal_15 F  Q  n_20 v1 0 g_17)))
set_option maxRecDepth 100000 in
set_option maxHeartbeats 4000000 in
theorem aw_X7_deal_15 {x : sv_X} {b : Nat} {xt : sv_Xt} {F : sv_Fr} {Q : Int32 → sv_Mg → Prop} (G : sv_G x b xt RX7 cX7_deal 7) (RR : sv_R x 2 48 0 0) (T : sv_RT x (some .int)) (hL : sv_Lay F) : ∀ (n : Nat) (v1 : Int32) (v2 : Int32) (g : sv_Mg), wp_X7_deal_15 F Q  n v1 v2 g → sv_AW x (sv_Q x (sv_qI F Q) 0 0) F g 0 0 15 [(0, .ref (b + 58)), (1, .int v1), (2, .int v2)] [] := by
  intro n
  induction n with
  | zero => intro v1 v2 g h; exact h.elim
  | succ n ih =>
    intro v1 v2 g h
    rw [wp_X7_deal_15] at h
    refine sv_iload_n (pc := 15) G dX7_deal_15 2 rfl ?_
    refine sv_iload_n (pc := 16) G dX7_deal_16 1 rfl ?_
    refine sv_ic_ge (pc := 17) G 80 (by decide) dX7_deal_17 (fun c_1 => ?_) (fun c_1 => ?_)
    · have h := h.1 c_1
      refine sv_iload_n (pc := 80) G dX7_deal_80 2 rfl ?_
      exact sv_ireturn (pc := 81) G T ⟨(Nat.le_of_ble_eq_true rfl), (Nat.le_of_ble_eq_true rfl)⟩ dX7_deal_81 ⟨_, rfl, rfl, h⟩
    · have h := h.2 c_1
      refine sv_aload_n (pc := 20) G dX7_deal_20 0 rfl ?_
      refine sv_getR (pc := 21) G fw_X7_9 (hL.sh rfl) rfl (hL.rf 60 rfl) dX7_deal_21 ?_
      refine sv_iconst (pc := 24) G dX7_deal_24 1 ic_1 ?_
      refine sv_ialdK (pc := 25) G (hL.sh rfl) vi_1_1443 1 tn_1 dX7_deal_25 ?_
      refine sv_bipush (pc := 26) G dX7_deal_26 10 bp_10 ?_
      refine sv_ic_ge (pc := 28) G 80 (by decide) dX7_deal_28 (fun c_2 => ?_) (fun c_2 => ?_)
      · have h := h.1 c_2
        refine sv_iload_n (pc := 80) G dX7_deal_80 2 rfl ?_
        exact sv_ireturn (pc := 81) G T ⟨(Nat.le_of_ble_eq_true rfl), (Nat.le_of_ble_eq_true rfl)⟩ dX7_deal_81 ⟨_, rfl, rfl, h⟩
      · have h := h.2 c_2
        refine sv_aload_n (pc := 31) G dX7_deal_31 0 rfl ?_
        refine sv_callV (cs := 0) (sl := 0) (st := []) (As := []) (a := 58) (pc := 32) G RR (c_X7_draw hL  h) mw_X7_draw lk_X7_158 (hL.sh rfl) (by decide) rfl rfl ⟨(Nat.le_of_ble_eq_true rfl), (Nat.le_of_ble_eq_true rfl)⟩ ⟨(Nat.le_of_ble_eq_true rfl), (Nat.le_of_ble_eq_true rfl)⟩ (Nat.le_of_ble_eq_true rfl) rfl dX7_deal_32 (sv_kI (fun r_4 g_3 h => ?_))
        refine sv_bipush (pc := 35) G dX7_deal_35 6 bp_6 ?_
        refine sv_irem (pc := 37) G dX7_deal_37 (by decide) ?_
        refine sv_topi (fun v3_5 ev3_5 => ?_)
        have h := h v3_5 ev3_5
        refine sv_istore_n (pc := 38) G dX7_deal_38 [(3, .int v3_5), (0, .ref (b + 58)), (1, .int v1), (2, .int v2)] (by decide) rfl ?_
        refine sv_aload_n (pc := 39) G dX7_deal_39 1 rfl ?_
        refine sv_callV (cs := 0) (sl := 0) (st := []) (As := []) (a := 58) (pc := 40) G RR (c_X7_draw hL  h) mw_X7_draw lk_X7_158 (hL.sh rfl) (by decide) rfl rfl ⟨(Nat.le_of_ble_eq_true rfl), (Nat.le_of_ble_eq_true rfl)⟩ ⟨(Nat.le_of_ble_eq_true rfl), (Nat.le_of_ble_eq_true rfl)⟩ (Nat.le_of_ble_eq_true rfl) rfl dX7_deal_40 (sv_kI (fun r_7 g_6 h => ?_))
        refine sv_bipush (pc := 43) G dX7_deal_43 10 bp_10 ?_
        refine sv_irem (pc := 45) G dX7_deal_45 (by decide) ?_
        refine sv_topi (fun v4_8 ev4_8 => ?_)
        have h := h v4_8 ev4_8
        refine sv_istore (pc := 46) G dX7_deal_46 [(4, .int v4_8), (3, .int v3_5), (0, .ref (b + 58)), (1, .int v1), (2, .int v2)] (by decide) rfl ?_
        refine sv_aload_n (pc := 48) G dX7_deal_48 2 rfl ?_
        refine sv_callV (cs := 0) (sl := 0) (st := []) (As := []) (a := 58) (pc := 49) G RR (c_X7_draw hL  h) mw_X7_draw lk_X7_158 (hL.sh rfl) (by decide) rfl rfl ⟨(Nat.le_of_ble_eq_true rfl), (Nat.le_of_ble_eq_true rfl)⟩ ⟨(Nat.le_of_ble_eq_true rfl), (Nat.le_of_ble_eq_true rfl)⟩ (Nat.le_of_ble_eq_true rfl) rfl dX7_deal_49 (sv_kI (fun r_10 g_9 h => ?_))
        refine sv_iconst (pc := 52) G dX7_deal_52 4 ic_4 ?_
        refine sv_irem (pc := 53) G dX7_deal_53 (by decide) ?_
        refine sv_topi (fun v5_11 ev5_11 => ?_)
        have h := h v5_11 ev5_11
        refine sv_istore (pc := 54) G dX7_deal_54 [(5, .int v5_11), (4, .int v4_8), (3, .int v3_5), (0, .ref (b + 58)), (1, .int v1), (2, .int v2)] (by decide) rfl ?_
        refine sv_aload_n (pc := 56) G dX7_deal_56 3 rfl ?_
        refine sv_iload_n (pc := 57) G dX7_deal_57 2 rfl ?_
        refine sv_iload (pc := 58) G dX7_deal_58 1 rfl ?_
        refine sv_iload (pc := 60) G dX7_deal_60 0 rfl ?_
        refine sv_aload_n (pc := 62) G dX7_deal_62 3 rfl ?_
        refine sv_callV (cs := 0) (sl := 0) (st := [.int v5_11, .int v4_8, .int v3_5, .ref (b + 58)]) (As := []) (a := 58) (pc := 63) G RR (c_X7_draw hL  h) mw_X7_draw lk_X7_158 (hL.sh rfl) (by decide) rfl rfl ⟨(Nat.le_of_ble_eq_true rfl), (Nat.le_of_ble_eq_true rfl)⟩ ⟨(Nat.le_of_ble_eq_true rfl), (Nat.le_of_ble_eq_true rfl)⟩ (Nat.le_of_ble_eq_true rfl) rfl dX7_deal_63 (sv_kI (fun r_13 g_12 h => ?_))
        refine sv_bipush (pc := 66) G dX7_deal_66 100 bp_100 ?_
        refine sv_irem (pc := 68) G dX7_deal_68 (by decide) ?_
        refine sv_callV (cs := 0) (sl := 0) (st := []) (As := [.int v3_5, .int v4_8, .int v5_11, .int (r_13 - r_13 / 100 * 100)]) (a := 58) (pc := 69) G RR (c_X7_comes hL  h) mw_X7_comes lk_X7_92 (hL.sh rfl) (by decide) rfl rfl ⟨(Nat.le_of_ble_eq_true rfl), (Nat.le_of_ble_eq_true rfl)⟩ ⟨(Nat.le_of_ble_eq_true rfl), (Nat.le_of_ble_eq_true rfl)⟩ (Nat.le_of_ble_eq_true rfl) rfl dX7_deal_69 (sv_kI (fun r_15 g_14 h => ?_))
        refine sv_istore (pc := 72) G dX7_deal_72 [(6, .int r_15), (5, .int v5_11), (4, .int v4_8), (3, .int v3_5), (0, .ref (b + 58)), (1, .int v1), (2, .int v2)] (by decide) rfl ?_
        obtain ⟨v2_16, ev2_16⟩ : ∃ y : Int32, y = v2 + 1 := ⟨_, rfl⟩
        have h := h v2_16 ev2_16
        refine sv_iinc (pc := 74) G dX7_deal_74 6 v2_16 [(2, .int v2_16), (6, .int r_15), (5, .int v5_11), (4, .int v4_8), (3, .int v3_5), (0, .ref (b + 58)), (1, .int v1)] (by rw [ev2_16, ic_1]) rfl (by decide) rfl ?_
        refine sv_goto (pc := 77) G dX7_deal_77 15 (by decide) ?_
        refine sv_locs [5, 6, 0] [(0, .ref (b + 58)), (1, .int v1), (2, .int v2_16)] rfl ?_
        exact ih v1 v2_16 g_14  h
set_option maxRecDepth 100000 in
set_option maxHeartbeats 4000000 in
theorem c_X7_deal {b : Nat} {xt : sv_Xt} {F : sv_Fr} {v1 : Int32} {g : sv_Mg} {Q : Int32 → sv_Mg → Prop} (hL : sv_Lay F) (h : wp_X7_deal F v1 g Q) : sv_Cal yX7_deal cX7_deal 7 (some .int) 2 48 0 0 b xt [.ref (b + 58), .int v1] F g (sv_qI F Q) := by
  refine sv_intro mw_X7_deal [(0, .ref (b + 58)), (1, .int v1)] rfl (Nat.le_of_ble_eq_true rfl) (fun x G RR T NM => ?_)
  have G : sv_G x b xt RX7 cX7_deal 7 := G
  unfold wp_X7_deal at h
  refine sv_iload_n (pc := 0) G dX7_deal_0 1 rfl ?_
  refine sv_iconst (pc := 1) G dX7_deal_1 1 ic_1 ?_
  refine sv_bipush (pc := 2) G dX7_deal_2 10 bp_10 ?_
  refine sv_callS (cs := 0) (sl := 0) (st := []) (As := [.int v1, .int 1, .int 10]) (pc := 4) G RR (c_X7_in hL  h) mw_X7_in lk_X7_82 rfl ⟨(Nat.le_of_ble_eq_true rfl), (Nat.le_of_ble_eq_true rfl)⟩ ⟨(Nat.le_of_ble_eq_true rfl), (Nat.le_of_ble_eq_true rfl)⟩ (Nat.le_of_ble_eq_true rfl) rfl dX7_deal_4 (sv_kI (fun r_18 g_17 h => ?_))
  refine sv_if_ne (pc := 7) G 13 (by decide) dX7_deal_7 (fun c_19 => ?_) (fun c_19 => ?_)
  · have h := h.2 c_19
    refine sv_iconst (pc := 13) G dX7_deal_13 0 ic_0 ?_
    refine sv_istore_n (pc := 14) G dX7_deal_14 [(2, .int 0), (0, .ref (b + 58)), (1, .int v1)] (by decide) rfl ?_
    refine sv_locs [1, 2, 0] [(0, .ref (b + 58)), (1, .int v1), (2, .int 0)] rfl ?_
    obtain ⟨n_20, h⟩ := h
    exact aw_X7_deal_15 G RR T hL   n_20 v1 0 g_17  h
  · have h := h.1 c_19
    refine sv_ldc (pc := 10) G dX7_deal_10 cn_X7_90 ?_
    exact sv_ireturn (pc := 12) G T ⟨(Nat.le_of_ble_eq_true rfl), (Nat.le_of_ble_eq_true rfl)⟩ dX7_deal_12 ⟨_, rfl, rfl, h⟩
def wp_X7_seed (F : sv_Fr) (v1 : Int32) (g : sv_Mg) (Q : Int32 → sv_Mg → Prop) : Prop := wp_X7_becomes F 0 v1 g (fun r_2 g_1 => Q r_2 g_1)
set_option maxRecDepth 100000 in
set_option maxHeartbeats 4000000 in
theorem c_X7_seed {b : Nat} {xt : sv_Xt} {F : sv_Fr} {v1 : Int32} {g : sv_Mg} {Q : Int32 → sv_Mg → Prop} (hL : sv_Lay F) (h : wp_X7_seed F v1 g Q) : sv_Cal yX7_seed cX7_seed 2 (some .int) 1 23 0 0 b xt [.ref (b + 58), .int v1] F g (sv_qI F Q) := by
  refine sv_intro mw_X7_seed [(0, .ref (b + 58)), (1, .int v1)] rfl (Nat.le_of_ble_eq_true rfl) (fun x G RR T NM => ?_)
  have G : sv_G x b xt RX7 cX7_seed 2 := G
  unfold wp_X7_seed at h
  refine sv_aload_n (pc := 0) G dX7_seed_0 0 rfl ?_
  refine sv_iconst (pc := 1) G dX7_seed_1 0 ic_0 ?_
  refine sv_iload_n (pc := 2) G dX7_seed_2 1 rfl ?_
  refine sv_callV (cs := 0) (sl := 0) (st := []) (As := [.int 0, .int v1]) (a := 58) (pc := 3) G RR (c_X7_becomes hL  h) mw_X7_becomes lk_X7_154 (hL.sh rfl) (by decide) rfl rfl ⟨(Nat.le_of_ble_eq_true rfl), (Nat.le_of_ble_eq_true rfl)⟩ ⟨(Nat.le_of_ble_eq_true rfl), (Nat.le_of_ble_eq_true rfl)⟩ (Nat.le_of_ble_eq_true rfl) rfl dX7_seed_3 (sv_kI (fun r_2 g_1 h => ?_))
  exact sv_ireturn (pc := 6) G T ⟨(Nat.le_of_ble_eq_true rfl), (Nat.le_of_ble_eq_true rfl)⟩ dX7_seed_6 ⟨_, rfl, rfl, h⟩
def wp_X7_wanted_4 (F : sv_Fr) (Q : Int32 → sv_Mg → Prop) : Nat → Int32 → Int32 → sv_Mg → Prop
  | 0, _, _, _ => False
  | n + 1, v1, v2, g => (((g 59 1) ≤ v2 → Q (((2 * v1) + 2) / 3) g) ∧ (¬ (g 59 1) ≤ v2 → wp_X7_weightOf F v2 g (fun r_3 g_2 => ∀ v1_4 : Int32, v1_4 = (v1 + r_3) → ∀ v2_5 : Int32, v2_5 = v2 + 1 → (wp_X7_wanted_4 F Q  n) v1_4 v2_5 g_2)))
def wp_X7_wanted (F : sv_Fr) (g : sv_Mg) (Q : Int32 → sv_Mg → Prop) : Prop := ∃ n_6, wp_X7_wanted_4 F  Q  n_6 0 0 g
set_option maxRecDepth 100000 in
set_option maxHeartbeats 4000000 in
theorem aw_X7_wanted_4 {x : sv_X} {b : Nat} {xt : sv_Xt} {F : sv_Fr} {Q : Int32 → sv_Mg → Prop} (G : sv_G x b xt RX7 cX7_wanted 3) (RR : sv_R x 2 43 0 0) (T : sv_RT x (some .int)) (hL : sv_Lay F) : ∀ (n : Nat) (v1 : Int32) (v2 : Int32) (g : sv_Mg), wp_X7_wanted_4 F Q  n v1 v2 g → sv_AW x (sv_Q x (sv_qI F Q) 0 0) F g 0 0 4 [(0, .ref (b + 58)), (1, .int v1), (2, .int v2)] [] := by
  intro n
  induction n with
  | zero => intro v1 v2 g h; exact h.elim
  | succ n ih =>
    intro v1 v2 g h
    rw [wp_X7_wanted_4] at h
    refine sv_iload_n (pc := 4) G dX7_wanted_4 2 rfl ?_
    refine sv_aload_n (pc := 5) G dX7_wanted_5 0 rfl ?_
    refine sv_getR (pc := 6) G fw_X7_9 (hL.sh rfl) rfl (hL.rf 60 rfl) dX7_wanted_6 ?_
    refine sv_iconst (pc := 9) G dX7_wanted_9 1 ic_1 ?_
    refine sv_ialdK (pc := 10) G (hL.sh rfl) vi_1_1443 1 tn_1 dX7_wanted_10 ?_
    refine sv_ic_ge (pc := 11) G 28 (by decide) dX7_wanted_11 (fun c_1 => ?_) (fun c_1 => ?_)
    · have h := h.1 c_1
      refine sv_iconst (pc := 28) G dX7_wanted_28 2 ic_2 ?_
      refine sv_iload_n (pc := 29) G dX7_wanted_29 1 rfl ?_
      refine sv_imul (pc := 30) G dX7_wanted_30 ?_
      refine sv_iconst (pc := 31) G dX7_wanted_31 2 ic_2 ?_
      refine sv_iadd (pc := 32) G dX7_wanted_32 ?_
      refine sv_iconst (pc := 33) G dX7_wanted_33 3 ic_3 ?_
      refine sv_idiv (pc := 34) G dX7_wanted_34 (by decide) ?_
      exact sv_ireturn (pc := 35) G T ⟨(Nat.le_of_ble_eq_true rfl), (Nat.le_of_ble_eq_true rfl)⟩ dX7_wanted_35 ⟨_, rfl, rfl, h⟩
    · have h := h.2 c_1
      refine sv_iload_n (pc := 14) G dX7_wanted_14 1 rfl ?_
      refine sv_aload_n (pc := 15) G dX7_wanted_15 0 rfl ?_
      refine sv_iload_n (pc := 16) G dX7_wanted_16 2 rfl ?_
      refine sv_callV (cs := 0) (sl := 0) (st := [.int v1]) (As := [.int v2]) (a := 58) (pc := 17) G RR (c_X7_weightOf hL  h) mw_X7_weightOf lk_X7_100 (hL.sh rfl) (by decide) rfl rfl ⟨(Nat.le_of_ble_eq_true rfl), (Nat.le_of_ble_eq_true rfl)⟩ ⟨(Nat.le_of_ble_eq_true rfl), (Nat.le_of_ble_eq_true rfl)⟩ (Nat.le_of_ble_eq_true rfl) rfl dX7_wanted_17 (sv_kI (fun r_3 g_2 h => ?_))
      refine sv_iadd (pc := 20) G dX7_wanted_20 ?_
      refine sv_topi (fun v1_4 ev1_4 => ?_)
      have h := h v1_4 ev1_4
      refine sv_istore_n (pc := 21) G dX7_wanted_21 [(1, .int v1_4), (0, .ref (b + 58)), (2, .int v2)] (by decide) rfl ?_
      obtain ⟨v2_5, ev2_5⟩ : ∃ y : Int32, y = v2 + 1 := ⟨_, rfl⟩
      have h := h v2_5 ev2_5
      refine sv_iinc (pc := 22) G dX7_wanted_22 2 v2_5 [(2, .int v2_5), (1, .int v1_4), (0, .ref (b + 58))] (by rw [ev2_5, ic_1]) rfl (by decide) rfl ?_
      refine sv_goto (pc := 25) G dX7_wanted_25 4 (by decide) ?_
      refine sv_locs [2, 1, 0] [(0, .ref (b + 58)), (1, .int v1_4), (2, .int v2_5)] rfl ?_
      exact ih v1_4 v2_5 g_2  h
set_option maxRecDepth 100000 in
set_option maxHeartbeats 4000000 in
theorem c_X7_wanted {b : Nat} {xt : sv_Xt} {F : sv_Fr} {g : sv_Mg} {Q : Int32 → sv_Mg → Prop} (hL : sv_Lay F) (h : wp_X7_wanted F g Q) : sv_Cal yX7_wanted cX7_wanted 3 (some .int) 2 43 0 0 b xt [.ref (b + 58)] F g (sv_qI F Q) := by
  refine sv_intro mw_X7_wanted [(0, .ref (b + 58))] rfl (Nat.le_of_ble_eq_true rfl) (fun x G RR T NM => ?_)
  have G : sv_G x b xt RX7 cX7_wanted 3 := G
  unfold wp_X7_wanted at h
  refine sv_iconst (pc := 0) G dX7_wanted_0 0 ic_0 ?_
  refine sv_istore_n (pc := 1) G dX7_wanted_1 [(1, .int 0), (0, .ref (b + 58))] (by decide) rfl ?_
  refine sv_iconst (pc := 2) G dX7_wanted_2 0 ic_0 ?_
  refine sv_istore_n (pc := 3) G dX7_wanted_3 [(2, .int 0), (1, .int 0), (0, .ref (b + 58))] (by decide) rfl ?_
  refine sv_locs [2, 1, 0] [(0, .ref (b + 58)), (1, .int 0), (2, .int 0)] rfl ?_
  obtain ⟨n_6, h⟩ := h
  exact aw_X7_wanted_4 G RR T hL   n_6 0 0 g  h
def wp_X7_votes_246 (F : sv_Fr) (Q : sv_Mg → Prop) (K214 : Int32 → sv_Mg → Prop) (v2 : Int32) (g : sv_Mg) : Prop := ∀ v2_1 : Int32, v2_1 = v2 + 1 → K214 v2_1 g
def wp_X7_votes_214 (F : sv_Fr) (Q : sv_Mg → Prop) : Nat → Int32 → sv_Mg → Prop
  | 0, _, _ => False
  | n + 1, v2, g => (((g 59 1) ≤ v2 → Q g) ∧ (¬ (g 59 1) ≤ v2 → vp_in v2 10 ∧ (((g 62 v2.toNatClampNeg) < 0 → wp_X7_votes_246 F  Q (wp_X7_votes_214 F Q  n) v2 g) ∧ (¬ (g 62 v2.toNatClampNeg) < 0 → wp_X7_draw F  g (fun r_6 g_5 => wp_X7_put F v2 4 (r_6 - r_6 / 10 * 10) g_5 (fun g_7 => wp_X7_votes_246 F  Q (wp_X7_votes_214 F Q  n) v2 g_7))))))
def wp_X7_votes_198 (F : sv_Fr) (Q : sv_Mg → Prop) (s0 : Int32) (s1 : Int32) (g : sv_Mg) : Prop := vp_in s1 1443 ∧ ∀ g_9, g_9 = sv_st g 59 s1.toNatClampNeg s0 → wp_X7_draw F  g_9 (fun r_11 g_10 => ∀ g_12, g_12 = sv_st g_10 59 9 (r_11 - r_11 / 4 * 4) → ∃ n_13, wp_X7_votes_214 F  Q  n_13 0 g_12)
def wp_X7_votes_150 (F : sv_Fr) (Q : sv_Mg → Prop) (K117 : Int32 → Int32 → sv_Mg → Prop) (v1 : Int32) (v2 : Int32) (s0 : Int32) (s1 : Int32) (g : sv_Mg) : Prop := vp_in s1 1443 ∧ ∀ g_15, g_15 = sv_st g 59 s1.toNatClampNeg s0 → ∀ v2_16 : Int32, v2_16 = v2 + (-1) → K117 v1 v2_16 g_15
def wp_X7_votes_117 (F : sv_Fr) (Q : sv_Mg → Prop) : Nat → Int32 → Int32 → sv_Mg → Prop
  | 0, _, _, _ => False
  | n + 1, v1, v2, g => ((v2 < 0 → (((g 59 7) < 0 → ((10 ≤ v1 → ((25 ≤ v1 → wp_X7_votes_198 F  Q  3 8 g) ∧ (¬ 25 ≤ v1 → wp_X7_votes_198 F  Q  2 8 g))) ∧ (¬ 10 ≤ v1 → wp_X7_votes_198 F  Q  1 8 g))) ∧ (¬ (g 59 7) < 0 → wp_X7_votes_198 F  Q  0 8 g))) ∧ (¬ v2 < 0 → wp_X7_has F v2 g (fun r_22 g_21 => wp_X7_wanted F  g_21 (fun r_24 g_23 => ((r_22 < r_24 → wp_X7_votes_150 F  Q (wp_X7_votes_117 F Q  n) v1 v2 (g_23 59 7) 7 g_23) ∧ (¬ r_22 < r_24 → wp_X7_votes_150 F  Q (wp_X7_votes_117 F Q  n) v1 v2 v2 7 g_23))))))
def wp_X7_votes_90 (F : sv_Fr) (Q : sv_Mg → Prop) (K48 : Int32 → Int32 → sv_Mg → Prop) (v2 : Int32) (s0 : Int32) (s1 : Int32) (g : sv_Mg) : Prop := ∀ v1_26 : Int32, v1_26 = (s1 + s0) → ∀ v2_27 : Int32, v2_27 = v2 + 1 → K48 v1_26 v2_27 g
def wp_X7_votes_48 (F : sv_Fr) (Q : sv_Mg → Prop) : Nat → Int32 → Int32 → sv_Mg → Prop
  | 0, _, _, _ => False
  | n + 1, v1, v2, g => (((g 59 1) ≤ v2 → ∀ g_29, g_29 = sv_st g 59 3 ((g 59 3) + 1) → ∀ v2_30 : Int32, v2_30 = ((g_29 59 1) - 1) → ∃ n_31, wp_X7_votes_117 F  Q  n_31 v1 v2_30 g_29) ∧ (¬ (g 59 1) ≤ v2 → vp_in v2 10 ∧ wp_X7_put F v2 5 (g 62 v2.toNatClampNeg) g (fun g_33 => vp_in v2 10 ∧ ((0 ≤ (g_33 62 v2.toNatClampNeg) → wp_X7_of F v2 4 g_33 (fun r_37 g_36 => wp_X7_votes_90 F  Q (wp_X7_votes_48 F Q  n) v2 r_37 v1 g_36)) ∧ (¬ 0 ≤ (g_33 62 v2.toNatClampNeg) → wp_X7_votes_90 F  Q (wp_X7_votes_48 F Q  n) v2 0 v1 g_33)))))
def wp_X7_votes_2 (F : sv_Fr) (Q : sv_Mg → Prop) : Nat → Int32 → sv_Mg → Prop
  | 0, _, _ => False
  | n + 1, v1, g => (((g 59 1) ≤ v1 → ∀ v1_39 : Int32, v1_39 = ((g 59 4) - ((g 59 5) / 10)) → ∃ n_40, wp_X7_votes_48 F  Q  n_40 v1_39 0 g) ∧ (¬ (g 59 1) ≤ v1 → wp_X7_votesFor F v1 g (fun r_42 g_41 => vp_in v1 10 ∧ ∀ g_44, g_44 = sv_st g_41 62 v1.toNatClampNeg r_42 → ∀ v1_45 : Int32, v1_45 = v1 + 1 → (wp_X7_votes_2 F Q  n) v1_45 g_44)))
def wp_X7_votes (F : sv_Fr) (g : sv_Mg) (Q : sv_Mg → Prop) : Prop := ∃ n_46, wp_X7_votes_2 F  Q  n_46 0 g
set_option maxRecDepth 100000 in
set_option maxHeartbeats 4000000 in
theorem aw_X7_votes_246 {x : sv_X} {b : Nat} {xt : sv_Xt} {F : sv_Fr} {Q : sv_Mg → Prop} (G : sv_G x b xt RX7 cX7_votes 3) (RR : sv_R x 7 158 0 0) (T : sv_RT x none) (hL : sv_Lay F) {K214 : Int32 → sv_Mg → Prop} (hK214 : ∀ (v2 : Int32) (g : sv_Mg), K214 v2 g → sv_AW x (sv_Q x (sv_qV F Q) 0 0) F g 0 0 214 [(0, .ref (b + 58)), (2, .int v2)] []) : ∀ (v2 : Int32) (g : sv_Mg), wp_X7_votes_246 F Q K214 v2 g → sv_AW x (sv_Q x (sv_qV F Q) 0 0) F g 0 0 246 [(0, .ref (b + 58)), (2, .int v2)] [] := by
  intro v2 g h
  unfold wp_X7_votes_246 at h
  obtain ⟨v2_1, ev2_1⟩ : ∃ y : Int32, y = v2 + 1 := ⟨_, rfl⟩
  have h := h v2_1 ev2_1
  refine sv_iinc (pc := 246) G dX7_votes_246 1 v2_1 [(2, .int v2_1), (0, .ref (b + 58))] (by rw [ev2_1, ic_1]) rfl (by decide) rfl ?_
  refine sv_goto (pc := 249) G dX7_votes_249 214 (by decide) ?_
  refine sv_locs [1, 0] [(0, .ref (b + 58)), (2, .int v2_1)] rfl ?_
  exact hK214 v2_1 g  h
set_option maxRecDepth 100000 in
set_option maxHeartbeats 4000000 in
theorem aw_X7_votes_214 {x : sv_X} {b : Nat} {xt : sv_Xt} {F : sv_Fr} {Q : sv_Mg → Prop} (G : sv_G x b xt RX7 cX7_votes 3) (RR : sv_R x 7 158 0 0) (T : sv_RT x none) (hL : sv_Lay F) : ∀ (n : Nat) (v2 : Int32) (g : sv_Mg), wp_X7_votes_214 F Q  n v2 g → sv_AW x (sv_Q x (sv_qV F Q) 0 0) F g 0 0 214 [(0, .ref (b + 58)), (2, .int v2)] [] := by
  intro n
  induction n with
  | zero => intro v2 g h; exact h.elim
  | succ n ih =>
    intro v2 g h
    rw [wp_X7_votes_214] at h
    refine sv_iload_n (pc := 214) G dX7_votes_214 1 rfl ?_
    refine sv_aload_n (pc := 215) G dX7_votes_215 0 rfl ?_
    refine sv_getR (pc := 216) G fw_X7_9 (hL.sh rfl) rfl (hL.rf 60 rfl) dX7_votes_216 ?_
    refine sv_iconst (pc := 219) G dX7_votes_219 1 ic_1 ?_
    refine sv_ialdK (pc := 220) G (hL.sh rfl) vi_1_1443 1 tn_1 dX7_votes_220 ?_
    refine sv_ic_ge (pc := 221) G 252 (by decide) dX7_votes_221 (fun c_2 => ?_) (fun c_2 => ?_)
    · have h := h.1 c_2
      exact sv_vreturn (pc := 252) G T ⟨(Nat.le_of_ble_eq_true rfl), (Nat.le_of_ble_eq_true rfl)⟩ dX7_votes_252 ⟨rfl, rfl, h⟩
    · have h := h.2 c_2
      refine sv_aload_n (pc := 224) G dX7_votes_224 0 rfl ?_
      refine sv_getR (pc := 225) G fw_X7_19 (hL.sh rfl) rfl (hL.rf 63 rfl) dX7_votes_225 ?_
      refine sv_iload_n (pc := 228) G dX7_votes_228 1 rfl ?_
      obtain ⟨s_3, h⟩ := h
      refine sv_ialdK (pc := 229) G (hL.sh rfl) s_3 v2.toNatClampNeg rfl dX7_votes_229 ?_
      refine sv_if_lt (pc := 230) G 246 (by decide) dX7_votes_230 (fun c_4 => ?_) (fun c_4 => ?_)
      · have h := h.1 c_4
        refine sv_locs [0, 1] [(0, .ref (b + 58)), (2, .int v2)] rfl ?_
        exact aw_X7_votes_246 G RR T hL  ih v2 g  h
      · have h := h.2 c_4
        refine sv_aload_n (pc := 233) G dX7_votes_233 0 rfl ?_
        refine sv_iload_n (pc := 234) G dX7_votes_234 1 rfl ?_
        refine sv_iconst (pc := 235) G dX7_votes_235 4 ic_4 ?_
        refine sv_aload_n (pc := 236) G dX7_votes_236 0 rfl ?_
        refine sv_callV (cs := 0) (sl := 0) (st := [.int 4, .int v2, .ref (b + 58)]) (As := []) (a := 58) (pc := 237) G RR (c_X7_draw hL  h) mw_X7_draw lk_X7_158 (hL.sh rfl) (by decide) rfl rfl ⟨(Nat.le_of_ble_eq_true rfl), (Nat.le_of_ble_eq_true rfl)⟩ ⟨(Nat.le_of_ble_eq_true rfl), (Nat.le_of_ble_eq_true rfl)⟩ (Nat.le_of_ble_eq_true rfl) rfl dX7_votes_237 (sv_kI (fun r_6 g_5 h => ?_))
        refine sv_bipush (pc := 240) G dX7_votes_240 10 bp_10 ?_
        refine sv_irem (pc := 242) G dX7_votes_242 (by decide) ?_
        refine sv_callV (cs := 0) (sl := 0) (st := []) (As := [.int v2, .int 4, .int (r_6 - r_6 / 10 * 10)]) (a := 58) (pc := 243) G RR (c_X7_put hL  h) mw_X7_put lk_X7_86 (hL.sh rfl) (by decide) rfl rfl ⟨(Nat.le_of_ble_eq_true rfl), (Nat.le_of_ble_eq_true rfl)⟩ ⟨(Nat.le_of_ble_eq_true rfl), (Nat.le_of_ble_eq_true rfl)⟩ (Nat.le_of_ble_eq_true rfl) rfl dX7_votes_243 (sv_kV (fun g_7 h => ?_))
        refine sv_locs [0, 1] [(0, .ref (b + 58)), (2, .int v2)] rfl ?_
        exact aw_X7_votes_246 G RR T hL  ih v2 g_7  h
set_option maxRecDepth 100000 in
set_option maxHeartbeats 4000000 in
theorem aw_X7_votes_198 {x : sv_X} {b : Nat} {xt : sv_Xt} {F : sv_Fr} {Q : sv_Mg → Prop} (G : sv_G x b xt RX7 cX7_votes 3) (RR : sv_R x 7 158 0 0) (T : sv_RT x none) (hL : sv_Lay F) : ∀ (s0 : Int32) (s1 : Int32) (g : sv_Mg), wp_X7_votes_198 F Q  s0 s1 g → sv_AW x (sv_Q x (sv_qV F Q) 0 0) F g 0 0 198 [(0, .ref (b + 58))] [.int s0, .int s1, .ref (b + 59)] := by
  intro s0 s1 g h
  unfold wp_X7_votes_198 at h
  obtain ⟨s_8, h⟩ := h
  refine sv_iastK (pc := 198) G (hL.sh rfl) s_8 s1.toNatClampNeg rfl dX7_votes_198 (fun g_9 eg_9 => ?_)
  have h := h g_9 eg_9
  refine sv_aload_n (pc := 199) G dX7_votes_199 0 rfl ?_
  refine sv_getR (pc := 200) G fw_X7_9 (hL.sh rfl) rfl (hL.rf 60 rfl) dX7_votes_200 ?_
  refine sv_bipush (pc := 203) G dX7_votes_203 9 bp_9 ?_
  refine sv_aload_n (pc := 205) G dX7_votes_205 0 rfl ?_
  refine sv_callV (cs := 0) (sl := 0) (st := [.int 9, .ref (b + 59)]) (As := []) (a := 58) (pc := 206) G RR (c_X7_draw hL  h) mw_X7_draw lk_X7_158 (hL.sh rfl) (by decide) rfl rfl ⟨(Nat.le_of_ble_eq_true rfl), (Nat.le_of_ble_eq_true rfl)⟩ ⟨(Nat.le_of_ble_eq_true rfl), (Nat.le_of_ble_eq_true rfl)⟩ (Nat.le_of_ble_eq_true rfl) rfl dX7_votes_206 (sv_kI (fun r_11 g_10 h => ?_))
  refine sv_iconst (pc := 209) G dX7_votes_209 4 ic_4 ?_
  refine sv_irem (pc := 210) G dX7_votes_210 (by decide) ?_
  refine sv_iastK (pc := 211) G (hL.sh rfl) vi_9_1443 9 tn_9 dX7_votes_211 (fun g_12 eg_12 => ?_)
  have h := h g_12 eg_12
  refine sv_iconst (pc := 212) G dX7_votes_212 0 ic_0 ?_
  refine sv_istore_n (pc := 213) G dX7_votes_213 [(2, .int 0), (0, .ref (b + 58))] (by decide) rfl ?_
  refine sv_locs [1, 0] [(0, .ref (b + 58)), (2, .int 0)] rfl ?_
  obtain ⟨n_13, h⟩ := h
  exact aw_X7_votes_214 G RR T hL   n_13 0 g_12  h
set_option maxRecDepth 100000 in
set_option maxHeartbeats 4000000 in
theorem aw_X7_votes_150 {x : sv_X} {b : Nat} {xt : sv_Xt} {F : sv_Fr} {Q : sv_Mg → Prop} (G : sv_G x b xt RX7 cX7_votes 3) (RR : sv_R x 7 158 0 0) (T : sv_RT x none) (hL : sv_Lay F) {K117 : Int32 → Int32 → sv_Mg → Prop} (hK117 : ∀ (v1 : Int32) (v2 : Int32) (g : sv_Mg), K117 v1 v2 g → sv_AW x (sv_Q x (sv_qV F Q) 0 0) F g 0 0 117 [(0, .ref (b + 58)), (1, .int v1), (2, .int v2)] []) : ∀ (v1 : Int32) (v2 : Int32) (s0 : Int32) (s1 : Int32) (g : sv_Mg), wp_X7_votes_150 F Q K117 v1 v2 s0 s1 g → sv_AW x (sv_Q x (sv_qV F Q) 0 0) F g 0 0 150 [(0, .ref (b + 58)), (1, .int v1), (2, .int v2)] [.int s0, .int s1, .ref (b + 59)] := by
  intro v1 v2 s0 s1 g h
  unfold wp_X7_votes_150 at h
  obtain ⟨s_14, h⟩ := h
  refine sv_iastK (pc := 150) G (hL.sh rfl) s_14 s1.toNatClampNeg rfl dX7_votes_150 (fun g_15 eg_15 => ?_)
  have h := h g_15 eg_15
  obtain ⟨v2_16, ev2_16⟩ : ∃ y : Int32, y = v2 + (-1) := ⟨_, rfl⟩
  have h := h v2_16 ev2_16
  refine sv_iinc (pc := 151) G dX7_votes_151 2 v2_16 [(2, .int v2_16), (0, .ref (b + 58)), (1, .int v1)] (by rw [ev2_16, ic_m1]) rfl (by decide) rfl ?_
  refine sv_goto (pc := 154) G dX7_votes_154 117 (by decide) ?_
  refine sv_locs [1, 2, 0] [(0, .ref (b + 58)), (1, .int v1), (2, .int v2_16)] rfl ?_
  exact hK117 v1 v2_16 g_15  h
set_option maxRecDepth 100000 in
set_option maxHeartbeats 4000000 in
theorem aw_X7_votes_117 {x : sv_X} {b : Nat} {xt : sv_Xt} {F : sv_Fr} {Q : sv_Mg → Prop} (G : sv_G x b xt RX7 cX7_votes 3) (RR : sv_R x 7 158 0 0) (T : sv_RT x none) (hL : sv_Lay F) : ∀ (n : Nat) (v1 : Int32) (v2 : Int32) (g : sv_Mg), wp_X7_votes_117 F Q  n v1 v2 g → sv_AW x (sv_Q x (sv_qV F Q) 0 0) F g 0 0 117 [(0, .ref (b + 58)), (1, .int v1), (2, .int v2)] [] := by
  intro n
  induction n with
  | zero => intro v1 v2 g h; exact h.elim
  | succ n ih =>
    intro v1 v2 g h
    rw [wp_X7_votes_117] at h
    refine sv_iload_n (pc := 117) G dX7_votes_117 2 rfl ?_
    refine sv_if_lt (pc := 118) G 157 (by decide) dX7_votes_118 (fun c_17 => ?_) (fun c_17 => ?_)
    · have h := h.1 c_17
      refine sv_aload_n (pc := 157) G dX7_votes_157 0 rfl ?_
      refine sv_getR (pc := 158) G fw_X7_9 (hL.sh rfl) rfl (hL.rf 60 rfl) dX7_votes_158 ?_
      refine sv_bipush (pc := 161) G dX7_votes_161 8 bp_8 ?_
      refine sv_aload_n (pc := 163) G dX7_votes_163 0 rfl ?_
      refine sv_getR (pc := 164) G fw_X7_9 (hL.sh rfl) rfl (hL.rf 60 rfl) dX7_votes_164 ?_
      refine sv_bipush (pc := 167) G dX7_votes_167 7 bp_7 ?_
      refine sv_ialdK (pc := 169) G (hL.sh rfl) vi_7_1443 7 tn_7 dX7_votes_169 ?_
      refine sv_if_lt (pc := 170) G 177 (by decide) dX7_votes_170 (fun c_18 => ?_) (fun c_18 => ?_)
      · have h := h.1 c_18
        refine sv_iload_n (pc := 177) G dX7_votes_177 1 rfl ?_
        refine sv_bipush (pc := 178) G dX7_votes_178 10 bp_10 ?_
        refine sv_ic_ge (pc := 180) G 187 (by decide) dX7_votes_180 (fun c_19 => ?_) (fun c_19 => ?_)
        · have h := h.1 c_19
          refine sv_iload_n (pc := 187) G dX7_votes_187 1 rfl ?_
          refine sv_bipush (pc := 188) G dX7_votes_188 25 bp_25 ?_
          refine sv_ic_ge (pc := 190) G 197 (by decide) dX7_votes_190 (fun c_20 => ?_) (fun c_20 => ?_)
          · have h := h.1 c_20
            refine sv_iconst (pc := 197) G dX7_votes_197 3 ic_3 ?_
            refine sv_locs [0] [(0, .ref (b + 58))] rfl ?_
            exact aw_X7_votes_198 G RR T hL   3 8 g  h
          · have h := h.2 c_20
            refine sv_iconst (pc := 193) G dX7_votes_193 2 ic_2 ?_
            refine sv_goto (pc := 194) G dX7_votes_194 198 (by decide) ?_
            refine sv_locs [0] [(0, .ref (b + 58))] rfl ?_
            exact aw_X7_votes_198 G RR T hL   2 8 g  h
        · have h := h.2 c_19
          refine sv_iconst (pc := 183) G dX7_votes_183 1 ic_1 ?_
          refine sv_goto (pc := 184) G dX7_votes_184 198 (by decide) ?_
          refine sv_locs [0] [(0, .ref (b + 58))] rfl ?_
          exact aw_X7_votes_198 G RR T hL   1 8 g  h
      · have h := h.2 c_18
        refine sv_iconst (pc := 173) G dX7_votes_173 0 ic_0 ?_
        refine sv_goto (pc := 174) G dX7_votes_174 198 (by decide) ?_
        refine sv_locs [0] [(0, .ref (b + 58))] rfl ?_
        exact aw_X7_votes_198 G RR T hL   0 8 g  h
    · have h := h.2 c_17
      refine sv_aload_n (pc := 121) G dX7_votes_121 0 rfl ?_
      refine sv_getR (pc := 122) G fw_X7_9 (hL.sh rfl) rfl (hL.rf 60 rfl) dX7_votes_122 ?_
      refine sv_bipush (pc := 125) G dX7_votes_125 7 bp_7 ?_
      refine sv_aload_n (pc := 127) G dX7_votes_127 0 rfl ?_
      refine sv_iload_n (pc := 128) G dX7_votes_128 2 rfl ?_
      refine sv_callV (cs := 0) (sl := 0) (st := [.int 7, .ref (b + 59)]) (As := [.int v2]) (a := 58) (pc := 129) G RR (c_X7_has hL  h) mw_X7_has lk_X7_104 (hL.sh rfl) (by decide) rfl rfl ⟨(Nat.le_of_ble_eq_true rfl), (Nat.le_of_ble_eq_true rfl)⟩ ⟨(Nat.le_of_ble_eq_true rfl), (Nat.le_of_ble_eq_true rfl)⟩ (Nat.le_of_ble_eq_true rfl) rfl dX7_votes_129 (sv_kI (fun r_22 g_21 h => ?_))
      refine sv_aload_n (pc := 132) G dX7_votes_132 0 rfl ?_
      refine sv_callV (cs := 0) (sl := 0) (st := [.int r_22, .int 7, .ref (b + 59)]) (As := []) (a := 58) (pc := 133) G RR (c_X7_wanted hL  h) mw_X7_wanted lk_X7_161 (hL.sh rfl) (by decide) rfl rfl ⟨(Nat.le_of_ble_eq_true rfl), (Nat.le_of_ble_eq_true rfl)⟩ ⟨(Nat.le_of_ble_eq_true rfl), (Nat.le_of_ble_eq_true rfl)⟩ (Nat.le_of_ble_eq_true rfl) rfl dX7_votes_133 (sv_kI (fun r_24 g_23 h => ?_))
      refine sv_ic_lt (pc := 136) G 143 (by decide) dX7_votes_136 (fun c_25 => ?_) (fun c_25 => ?_)
      · have h := h.1 c_25
        refine sv_aload_n (pc := 143) G dX7_votes_143 0 rfl ?_
        refine sv_getR (pc := 144) G fw_X7_9 (hL.sh rfl) rfl (hL.rf 60 rfl) dX7_votes_144 ?_
        refine sv_bipush (pc := 147) G dX7_votes_147 7 bp_7 ?_
        refine sv_ialdK (pc := 149) G (hL.sh rfl) vi_7_1443 7 tn_7 dX7_votes_149 ?_
        refine sv_locs [0, 1, 2] [(0, .ref (b + 58)), (1, .int v1), (2, .int v2)] rfl ?_
        exact aw_X7_votes_150 G RR T hL  ih v1 v2 (g_23 59 7) 7 g_23  h
      · have h := h.2 c_25
        refine sv_iload_n (pc := 139) G dX7_votes_139 2 rfl ?_
        refine sv_goto (pc := 140) G dX7_votes_140 150 (by decide) ?_
        refine sv_locs [0, 1, 2] [(0, .ref (b + 58)), (1, .int v1), (2, .int v2)] rfl ?_
        exact aw_X7_votes_150 G RR T hL  ih v1 v2 v2 7 g_23  h
set_option maxRecDepth 100000 in
set_option maxHeartbeats 4000000 in
theorem aw_X7_votes_90 {x : sv_X} {b : Nat} {xt : sv_Xt} {F : sv_Fr} {Q : sv_Mg → Prop} (G : sv_G x b xt RX7 cX7_votes 3) (RR : sv_R x 7 158 0 0) (T : sv_RT x none) (hL : sv_Lay F) {K48 : Int32 → Int32 → sv_Mg → Prop} (hK48 : ∀ (v1 : Int32) (v2 : Int32) (g : sv_Mg), K48 v1 v2 g → sv_AW x (sv_Q x (sv_qV F Q) 0 0) F g 0 0 48 [(0, .ref (b + 58)), (1, .int v1), (2, .int v2)] []) : ∀ (v2 : Int32) (s0 : Int32) (s1 : Int32) (g : sv_Mg), wp_X7_votes_90 F Q K48 v2 s0 s1 g → sv_AW x (sv_Q x (sv_qV F Q) 0 0) F g 0 0 90 [(0, .ref (b + 58)), (2, .int v2)] [.int s0, .int s1] := by
  intro v2 s0 s1 g h
  unfold wp_X7_votes_90 at h
  refine sv_iadd (pc := 90) G dX7_votes_90 ?_
  refine sv_topi (fun v1_26 ev1_26 => ?_)
  have h := h v1_26 ev1_26
  refine sv_istore_n (pc := 91) G dX7_votes_91 [(1, .int v1_26), (0, .ref (b + 58)), (2, .int v2)] (by decide) rfl ?_
  obtain ⟨v2_27, ev2_27⟩ : ∃ y : Int32, y = v2 + 1 := ⟨_, rfl⟩
  have h := h v2_27 ev2_27
  refine sv_iinc (pc := 92) G dX7_votes_92 2 v2_27 [(2, .int v2_27), (1, .int v1_26), (0, .ref (b + 58))] (by rw [ev2_27, ic_1]) rfl (by decide) rfl ?_
  refine sv_goto (pc := 95) G dX7_votes_95 48 (by decide) ?_
  refine sv_locs [2, 1, 0] [(0, .ref (b + 58)), (1, .int v1_26), (2, .int v2_27)] rfl ?_
  exact hK48 v1_26 v2_27 g  h
set_option maxRecDepth 100000 in
set_option maxHeartbeats 4000000 in
theorem aw_X7_votes_48 {x : sv_X} {b : Nat} {xt : sv_Xt} {F : sv_Fr} {Q : sv_Mg → Prop} (G : sv_G x b xt RX7 cX7_votes 3) (RR : sv_R x 7 158 0 0) (T : sv_RT x none) (hL : sv_Lay F) : ∀ (n : Nat) (v1 : Int32) (v2 : Int32) (g : sv_Mg), wp_X7_votes_48 F Q  n v1 v2 g → sv_AW x (sv_Q x (sv_qV F Q) 0 0) F g 0 0 48 [(0, .ref (b + 58)), (1, .int v1), (2, .int v2)] [] := by
  intro n
  induction n with
  | zero => intro v1 v2 g h; exact h.elim
  | succ n ih =>
    intro v1 v2 g h
    rw [wp_X7_votes_48] at h
    refine sv_iload_n (pc := 48) G dX7_votes_48 2 rfl ?_
    refine sv_aload_n (pc := 49) G dX7_votes_49 0 rfl ?_
    refine sv_getR (pc := 50) G fw_X7_9 (hL.sh rfl) rfl (hL.rf 60 rfl) dX7_votes_50 ?_
    refine sv_iconst (pc := 53) G dX7_votes_53 1 ic_1 ?_
    refine sv_ialdK (pc := 54) G (hL.sh rfl) vi_1_1443 1 tn_1 dX7_votes_54 ?_
    refine sv_ic_ge (pc := 55) G 98 (by decide) dX7_votes_55 (fun c_28 => ?_) (fun c_28 => ?_)
    · have h := h.1 c_28
      refine sv_aload_n (pc := 98) G dX7_votes_98 0 rfl ?_
      refine sv_getR (pc := 99) G fw_X7_9 (hL.sh rfl) rfl (hL.rf 60 rfl) dX7_votes_99 ?_
      refine sv_iconst (pc := 102) G dX7_votes_102 3 ic_3 ?_
      refine sv_dup2 (pc := 103) G dX7_votes_103 rfl rfl ?_
      refine sv_ialdK (pc := 104) G (hL.sh rfl) vi_3_1443 3 tn_3 dX7_votes_104 ?_
      refine sv_iconst (pc := 105) G dX7_votes_105 1 ic_1 ?_
      refine sv_iadd (pc := 106) G dX7_votes_106 ?_
      refine sv_iastK (pc := 107) G (hL.sh rfl) vi_3_1443 3 tn_3 dX7_votes_107 (fun g_29 eg_29 => ?_)
      have h := h g_29 eg_29
      refine sv_aload_n (pc := 108) G dX7_votes_108 0 rfl ?_
      refine sv_getR (pc := 109) G fw_X7_9 (hL.sh rfl) rfl (hL.rf 60 rfl) dX7_votes_109 ?_
      refine sv_iconst (pc := 112) G dX7_votes_112 1 ic_1 ?_
      refine sv_ialdK (pc := 113) G (hL.sh rfl) vi_1_1443 1 tn_1 dX7_votes_113 ?_
      refine sv_iconst (pc := 114) G dX7_votes_114 1 ic_1 ?_
      refine sv_isub (pc := 115) G dX7_votes_115 ?_
      refine sv_topi (fun v2_30 ev2_30 => ?_)
      have h := h v2_30 ev2_30
      refine sv_istore_n (pc := 116) G dX7_votes_116 [(2, .int v2_30), (0, .ref (b + 58)), (1, .int v1)] (by decide) rfl ?_
      refine sv_locs [1, 2, 0] [(0, .ref (b + 58)), (1, .int v1), (2, .int v2_30)] rfl ?_
      obtain ⟨n_31, h⟩ := h
      exact aw_X7_votes_117 G RR T hL   n_31 v1 v2_30 g_29  h
    · have h := h.2 c_28
      refine sv_aload_n (pc := 58) G dX7_votes_58 0 rfl ?_
      refine sv_iload_n (pc := 59) G dX7_votes_59 2 rfl ?_
      refine sv_iconst (pc := 60) G dX7_votes_60 5 ic_5 ?_
      refine sv_aload_n (pc := 61) G dX7_votes_61 0 rfl ?_
      refine sv_getR (pc := 62) G fw_X7_19 (hL.sh rfl) rfl (hL.rf 63 rfl) dX7_votes_62 ?_
      refine sv_iload_n (pc := 65) G dX7_votes_65 2 rfl ?_
      obtain ⟨s_32, h⟩ := h
      refine sv_ialdK (pc := 66) G (hL.sh rfl) s_32 v2.toNatClampNeg rfl dX7_votes_66 ?_
      refine sv_callV (cs := 0) (sl := 0) (st := []) (As := [.int v2, .int 5, .int (g 62 v2.toNatClampNeg)]) (a := 58) (pc := 67) G RR (c_X7_put hL  h) mw_X7_put lk_X7_86 (hL.sh rfl) (by decide) rfl rfl ⟨(Nat.le_of_ble_eq_true rfl), (Nat.le_of_ble_eq_true rfl)⟩ ⟨(Nat.le_of_ble_eq_true rfl), (Nat.le_of_ble_eq_true rfl)⟩ (Nat.le_of_ble_eq_true rfl) rfl dX7_votes_67 (sv_kV (fun g_33 h => ?_))
      refine sv_iload_n (pc := 70) G dX7_votes_70 1 rfl ?_
      refine sv_aload_n (pc := 71) G dX7_votes_71 0 rfl ?_
      refine sv_getR (pc := 72) G fw_X7_19 (hL.sh rfl) rfl (hL.rf 63 rfl) dX7_votes_72 ?_
      refine sv_iload_n (pc := 75) G dX7_votes_75 2 rfl ?_
      obtain ⟨s_34, h⟩ := h
      refine sv_ialdK (pc := 76) G (hL.sh rfl) s_34 v2.toNatClampNeg rfl dX7_votes_76 ?_
      refine sv_if_ge (pc := 77) G 84 (by decide) dX7_votes_77 (fun c_35 => ?_) (fun c_35 => ?_)
      · have h := h.1 c_35
        refine sv_aload_n (pc := 84) G dX7_votes_84 0 rfl ?_
        refine sv_iload_n (pc := 85) G dX7_votes_85 2 rfl ?_
        refine sv_iconst (pc := 86) G dX7_votes_86 4 ic_4 ?_
        refine sv_callV (cs := 0) (sl := 0) (st := [.int v1]) (As := [.int v2, .int 4]) (a := 58) (pc := 87) G RR (c_X7_of hL  h) mw_X7_of lk_X7_96 (hL.sh rfl) (by decide) rfl rfl ⟨(Nat.le_of_ble_eq_true rfl), (Nat.le_of_ble_eq_true rfl)⟩ ⟨(Nat.le_of_ble_eq_true rfl), (Nat.le_of_ble_eq_true rfl)⟩ (Nat.le_of_ble_eq_true rfl) rfl dX7_votes_87 (sv_kI (fun r_37 g_36 h => ?_))
        refine sv_locs [0, 2] [(0, .ref (b + 58)), (2, .int v2)] rfl ?_
        exact aw_X7_votes_90 G RR T hL  ih v2 r_37 v1 g_36  h
      · have h := h.2 c_35
        refine sv_iconst (pc := 80) G dX7_votes_80 0 ic_0 ?_
        refine sv_goto (pc := 81) G dX7_votes_81 90 (by decide) ?_
        refine sv_locs [0, 2] [(0, .ref (b + 58)), (2, .int v2)] rfl ?_
        exact aw_X7_votes_90 G RR T hL  ih v2 0 v1 g_33  h
set_option maxRecDepth 100000 in
set_option maxHeartbeats 4000000 in
theorem aw_X7_votes_2 {x : sv_X} {b : Nat} {xt : sv_Xt} {F : sv_Fr} {Q : sv_Mg → Prop} (G : sv_G x b xt RX7 cX7_votes 3) (RR : sv_R x 7 158 0 0) (T : sv_RT x none) (hL : sv_Lay F) : ∀ (n : Nat) (v1 : Int32) (g : sv_Mg), wp_X7_votes_2 F Q  n v1 g → sv_AW x (sv_Q x (sv_qV F Q) 0 0) F g 0 0 2 [(0, .ref (b + 58)), (1, .int v1)] [] := by
  intro n
  induction n with
  | zero => intro v1 g h; exact h.elim
  | succ n ih =>
    intro v1 g h
    rw [wp_X7_votes_2] at h
    refine sv_iload_n (pc := 2) G dX7_votes_2 1 rfl ?_
    refine sv_aload_n (pc := 3) G dX7_votes_3 0 rfl ?_
    refine sv_getR (pc := 4) G fw_X7_9 (hL.sh rfl) rfl (hL.rf 60 rfl) dX7_votes_4 ?_
    refine sv_iconst (pc := 7) G dX7_votes_7 1 ic_1 ?_
    refine sv_ialdK (pc := 8) G (hL.sh rfl) vi_1_1443 1 tn_1 dX7_votes_8 ?_
    refine sv_ic_ge (pc := 9) G 29 (by decide) dX7_votes_9 (fun c_38 => ?_) (fun c_38 => ?_)
    · have h := h.1 c_38
      refine sv_aload_n (pc := 29) G dX7_votes_29 0 rfl ?_
      refine sv_getR (pc := 30) G fw_X7_9 (hL.sh rfl) rfl (hL.rf 60 rfl) dX7_votes_30 ?_
      refine sv_iconst (pc := 33) G dX7_votes_33 4 ic_4 ?_
      refine sv_ialdK (pc := 34) G (hL.sh rfl) vi_4_1443 4 tn_4 dX7_votes_34 ?_
      refine sv_aload_n (pc := 35) G dX7_votes_35 0 rfl ?_
      refine sv_getR (pc := 36) G fw_X7_9 (hL.sh rfl) rfl (hL.rf 60 rfl) dX7_votes_36 ?_
      refine sv_iconst (pc := 39) G dX7_votes_39 5 ic_5 ?_
      refine sv_ialdK (pc := 40) G (hL.sh rfl) vi_5_1443 5 tn_5 dX7_votes_40 ?_
      refine sv_bipush (pc := 41) G dX7_votes_41 10 bp_10 ?_
      refine sv_idiv (pc := 43) G dX7_votes_43 (by decide) ?_
      refine sv_isub (pc := 44) G dX7_votes_44 ?_
      refine sv_topi (fun v1_39 ev1_39 => ?_)
      have h := h v1_39 ev1_39
      refine sv_istore_n (pc := 45) G dX7_votes_45 [(1, .int v1_39), (0, .ref (b + 58))] (by decide) rfl ?_
      refine sv_iconst (pc := 46) G dX7_votes_46 0 ic_0 ?_
      refine sv_istore_n (pc := 47) G dX7_votes_47 [(2, .int 0), (1, .int v1_39), (0, .ref (b + 58))] (by decide) rfl ?_
      refine sv_locs [2, 1, 0] [(0, .ref (b + 58)), (1, .int v1_39), (2, .int 0)] rfl ?_
      obtain ⟨n_40, h⟩ := h
      exact aw_X7_votes_48 G RR T hL   n_40 v1_39 0 g  h
    · have h := h.2 c_38
      refine sv_aload_n (pc := 12) G dX7_votes_12 0 rfl ?_
      refine sv_getR (pc := 13) G fw_X7_19 (hL.sh rfl) rfl (hL.rf 63 rfl) dX7_votes_13 ?_
      refine sv_iload_n (pc := 16) G dX7_votes_16 1 rfl ?_
      refine sv_aload_n (pc := 17) G dX7_votes_17 0 rfl ?_
      refine sv_iload_n (pc := 18) G dX7_votes_18 1 rfl ?_
      refine sv_callV (cs := 0) (sl := 0) (st := [.int v1, .ref (b + 62)]) (As := [.int v1]) (a := 58) (pc := 19) G RR (c_X7_votesFor hL  h) mw_X7_votesFor lk_X7_143 (hL.sh rfl) (by decide) rfl rfl ⟨(Nat.le_of_ble_eq_true rfl), (Nat.le_of_ble_eq_true rfl)⟩ ⟨(Nat.le_of_ble_eq_true rfl), (Nat.le_of_ble_eq_true rfl)⟩ (Nat.le_of_ble_eq_true rfl) rfl dX7_votes_19 (sv_kI (fun r_42 g_41 h => ?_))
      obtain ⟨s_43, h⟩ := h
      refine sv_iastK (pc := 22) G (hL.sh rfl) s_43 v1.toNatClampNeg rfl dX7_votes_22 (fun g_44 eg_44 => ?_)
      have h := h g_44 eg_44
      obtain ⟨v1_45, ev1_45⟩ : ∃ y : Int32, y = v1 + 1 := ⟨_, rfl⟩
      have h := h v1_45 ev1_45
      refine sv_iinc (pc := 23) G dX7_votes_23 1 v1_45 [(1, .int v1_45), (0, .ref (b + 58))] (by rw [ev1_45, ic_1]) rfl (by decide) rfl ?_
      refine sv_goto (pc := 26) G dX7_votes_26 2 (by decide) ?_
      refine sv_locs [1, 0] [(0, .ref (b + 58)), (1, .int v1_45)] rfl ?_
      exact ih v1_45 g_44  h
set_option maxRecDepth 100000 in
set_option maxHeartbeats 4000000 in
theorem c_X7_votes {b : Nat} {xt : sv_Xt} {F : sv_Fr} {g : sv_Mg} {Q : sv_Mg → Prop} (hL : sv_Lay F) (h : wp_X7_votes F g Q) : sv_Cal yX7_votes cX7_votes 3 none 7 158 0 0 b xt [.ref (b + 58)] F g (sv_qV F Q) := by
  refine sv_intro mw_X7_votes [(0, .ref (b + 58))] rfl (Nat.le_of_ble_eq_true rfl) (fun x G RR T NM => ?_)
  have G : sv_G x b xt RX7 cX7_votes 3 := G
  unfold wp_X7_votes at h
  refine sv_iconst (pc := 0) G dX7_votes_0 0 ic_0 ?_
  refine sv_istore_n (pc := 1) G dX7_votes_1 [(1, .int 0), (0, .ref (b + 58))] (by decide) rfl ?_
  refine sv_locs [1, 0] [(0, .ref (b + 58)), (1, .int 0)] rfl ?_
  obtain ⟨n_46, h⟩ := h
  exact aw_X7_votes_2 G RR T hL   n_46 0 g  h
def wp_X7_round_23 (F : sv_Fr) (Q : sv_Mg → Prop) (g : sv_Mg) : Prop := ∀ g_1, g_1 = sv_st g 59 2 ((g 59 2) + 1) → Q g_1
def wp_X7_round (F : sv_Fr) (g : sv_Mg) (Q : sv_Mg → Prop) : Prop := ((0 ≤ (g 59 7) → wp_X7_round_23 F  Q   g) ∧ (¬ 0 ≤ (g 59 7) → (((g 59 1) ≤ 0 → wp_X7_round_23 F  Q   g) ∧ (¬ (g 59 1) ≤ 0 → wp_X7_votes F  g (fun g_4 => wp_X7_round_23 F  Q   g_4)))))
set_option maxRecDepth 100000 in
set_option maxHeartbeats 4000000 in
theorem aw_X7_round_23 {x : sv_X} {b : Nat} {xt : sv_Xt} {F : sv_Fr} {Q : sv_Mg → Prop} (G : sv_G x b xt RX7 cX7_round 1) (RR : sv_R x 8 180 0 0) (T : sv_RT x none) (hL : sv_Lay F) : ∀  (g : sv_Mg), wp_X7_round_23 F Q   g → sv_AW x (sv_Q x (sv_qV F Q) 0 0) F g 0 0 23 [(0, .ref (b + 58))] [] := by
  intro g h
  unfold wp_X7_round_23 at h
  refine sv_aload_n (pc := 23) G dX7_round_23 0 rfl ?_
  refine sv_getR (pc := 24) G fw_X7_9 (hL.sh rfl) rfl (hL.rf 60 rfl) dX7_round_24 ?_
  refine sv_iconst (pc := 27) G dX7_round_27 2 ic_2 ?_
  refine sv_dup2 (pc := 28) G dX7_round_28 rfl rfl ?_
  refine sv_ialdK (pc := 29) G (hL.sh rfl) vi_2_1443 2 tn_2 dX7_round_29 ?_
  refine sv_iconst (pc := 30) G dX7_round_30 1 ic_1 ?_
  refine sv_iadd (pc := 31) G dX7_round_31 ?_
  refine sv_iastK (pc := 32) G (hL.sh rfl) vi_2_1443 2 tn_2 dX7_round_32 (fun g_1 eg_1 => ?_)
  have h := h g_1 eg_1
  exact sv_vreturn (pc := 33) G T ⟨(Nat.le_of_ble_eq_true rfl), (Nat.le_of_ble_eq_true rfl)⟩ dX7_round_33 ⟨rfl, rfl, h⟩
set_option maxRecDepth 100000 in
set_option maxHeartbeats 4000000 in
theorem c_X7_round {b : Nat} {xt : sv_Xt} {F : sv_Fr} {g : sv_Mg} {Q : sv_Mg → Prop} (hL : sv_Lay F) (h : wp_X7_round F g Q) : sv_Cal yX7_round cX7_round 1 none 8 180 0 0 b xt [.ref (b + 58)] F g (sv_qV F Q) := by
  refine sv_intro mw_X7_round [(0, .ref (b + 58))] rfl (Nat.le_of_ble_eq_true rfl) (fun x G RR T NM => ?_)
  have G : sv_G x b xt RX7 cX7_round 1 := G
  unfold wp_X7_round at h
  refine sv_aload_n (pc := 0) G dX7_round_0 0 rfl ?_
  refine sv_getR (pc := 1) G fw_X7_9 (hL.sh rfl) rfl (hL.rf 60 rfl) dX7_round_1 ?_
  refine sv_bipush (pc := 4) G dX7_round_4 7 bp_7 ?_
  refine sv_ialdK (pc := 6) G (hL.sh rfl) vi_7_1443 7 tn_7 dX7_round_6 ?_
  refine sv_if_ge (pc := 7) G 23 (by decide) dX7_round_7 (fun c_2 => ?_) (fun c_2 => ?_)
  · have h := h.1 c_2
    refine sv_locs [0] [(0, .ref (b + 58))] rfl ?_
    exact aw_X7_round_23 G RR T hL    g  h
  · have h := h.2 c_2
    refine sv_aload_n (pc := 10) G dX7_round_10 0 rfl ?_
    refine sv_getR (pc := 11) G fw_X7_9 (hL.sh rfl) rfl (hL.rf 60 rfl) dX7_round_11 ?_
    refine sv_iconst (pc := 14) G dX7_round_14 1 ic_1 ?_
    refine sv_ialdK (pc := 15) G (hL.sh rfl) vi_1_1443 1 tn_1 dX7_round_15 ?_
    refine sv_if_le (pc := 16) G 23 (by decide) dX7_round_16 (fun c_3 => ?_) (fun c_3 => ?_)
    · have h := h.1 c_3
      refine sv_locs [0] [(0, .ref (b + 58))] rfl ?_
      exact aw_X7_round_23 G RR T hL    g  h
    · have h := h.2 c_3
      refine sv_aload_n (pc := 19) G dX7_round_19 0 rfl ?_
      refine sv_callV (cs := 0) (sl := 0) (st := []) (As := []) (a := 58) (pc := 20) G RR (c_X7_votes hL  h) mw_X7_votes lk_X7_164 (hL.sh rfl) (by decide) rfl rfl ⟨(Nat.le_of_ble_eq_true rfl), (Nat.le_of_ble_eq_true rfl)⟩ ⟨(Nat.le_of_ble_eq_true rfl), (Nat.le_of_ble_eq_true rfl)⟩ (Nat.le_of_ble_eq_true rfl) rfl dX7_round_20 (sv_kV (fun g_4 h => ?_))
      refine sv_locs [0] [(0, .ref (b + 58))] rfl ?_
      exact aw_X7_round_23 G RR T hL    g_4  h
def wp_X7_goesOn_2 (F : sv_Fr) (Q : sv_Mg → Prop) : Nat → Int32 → Int32 → sv_Mg → Prop
  | 0, _, _, _ => False
  | n + 1, v1, v2, g => ((v1 ≤ v2 → Q g) ∧ (¬ v1 ≤ v2 → wp_X7_round F  g (fun g_2 => ∀ v2_3 : Int32, v2_3 = v2 + 1 → (wp_X7_goesOn_2 F Q  n) v1 v2_3 g_2)))
def wp_X7_goesOn (F : sv_Fr) (v1 : Int32) (g : sv_Mg) (Q : sv_Mg → Prop) : Prop := ∃ n_4, wp_X7_goesOn_2 F  Q  n_4 v1 0 g
set_option maxRecDepth 100000 in
set_option maxHeartbeats 4000000 in
theorem aw_X7_goesOn_2 {x : sv_X} {b : Nat} {xt : sv_Xt} {F : sv_Fr} {Q : sv_Mg → Prop} (G : sv_G x b xt RX7 cX7_goesOn 3) (RR : sv_R x 9 200 0 0) (T : sv_RT x none) (hL : sv_Lay F) : ∀ (n : Nat) (v1 : Int32) (v2 : Int32) (g : sv_Mg), wp_X7_goesOn_2 F Q  n v1 v2 g → sv_AW x (sv_Q x (sv_qV F Q) 0 0) F g 0 0 2 [(0, .ref (b + 58)), (1, .int v1), (2, .int v2)] [] := by
  intro n
  induction n with
  | zero => intro v1 v2 g h; exact h.elim
  | succ n ih =>
    intro v1 v2 g h
    rw [wp_X7_goesOn_2] at h
    refine sv_iload_n (pc := 2) G dX7_goesOn_2 2 rfl ?_
    refine sv_iload_n (pc := 3) G dX7_goesOn_3 1 rfl ?_
    refine sv_ic_ge (pc := 4) G 17 (by decide) dX7_goesOn_4 (fun c_1 => ?_) (fun c_1 => ?_)
    · have h := h.1 c_1
      exact sv_vreturn (pc := 17) G T ⟨(Nat.le_of_ble_eq_true rfl), (Nat.le_of_ble_eq_true rfl)⟩ dX7_goesOn_17 ⟨rfl, rfl, h⟩
    · have h := h.2 c_1
      refine sv_aload_n (pc := 7) G dX7_goesOn_7 0 rfl ?_
      refine sv_callV (cs := 0) (sl := 0) (st := []) (As := []) (a := 58) (pc := 8) G RR (c_X7_round hL  h) mw_X7_round lk_X7_167 (hL.sh rfl) (by decide) rfl rfl ⟨(Nat.le_of_ble_eq_true rfl), (Nat.le_of_ble_eq_true rfl)⟩ ⟨(Nat.le_of_ble_eq_true rfl), (Nat.le_of_ble_eq_true rfl)⟩ (Nat.le_of_ble_eq_true rfl) rfl dX7_goesOn_8 (sv_kV (fun g_2 h => ?_))
      obtain ⟨v2_3, ev2_3⟩ : ∃ y : Int32, y = v2 + 1 := ⟨_, rfl⟩
      have h := h v2_3 ev2_3
      refine sv_iinc (pc := 11) G dX7_goesOn_11 2 v2_3 [(2, .int v2_3), (0, .ref (b + 58)), (1, .int v1)] (by rw [ev2_3, ic_1]) rfl (by decide) rfl ?_
      refine sv_goto (pc := 14) G dX7_goesOn_14 2 (by decide) ?_
      refine sv_locs [1, 2, 0] [(0, .ref (b + 58)), (1, .int v1), (2, .int v2_3)] rfl ?_
      exact ih v1 v2_3 g_2  h
set_option maxRecDepth 100000 in
set_option maxHeartbeats 4000000 in
theorem c_X7_goesOn {b : Nat} {xt : sv_Xt} {F : sv_Fr} {v1 : Int32} {g : sv_Mg} {Q : sv_Mg → Prop} (hL : sv_Lay F) (h : wp_X7_goesOn F v1 g Q) : sv_Cal yX7_goesOn cX7_goesOn 3 none 9 200 0 0 b xt [.ref (b + 58), .int v1] F g (sv_qV F Q) := by
  refine sv_intro mw_X7_goesOn [(0, .ref (b + 58)), (1, .int v1)] rfl (Nat.le_of_ble_eq_true rfl) (fun x G RR T NM => ?_)
  have G : sv_G x b xt RX7 cX7_goesOn 3 := G
  unfold wp_X7_goesOn at h
  refine sv_iconst (pc := 0) G dX7_goesOn_0 0 ic_0 ?_
  refine sv_istore_n (pc := 1) G dX7_goesOn_1 [(2, .int 0), (0, .ref (b + 58)), (1, .int v1)] (by decide) rfl ?_
  refine sv_locs [1, 2, 0] [(0, .ref (b + 58)), (1, .int v1), (2, .int 0)] rfl ?_
  obtain ⟨n_4, h⟩ := h
  exact aw_X7_goesOn_2 G RR T hL   n_4 v1 0 g  h
def wp_X7_rounds (F : sv_Fr) (v1 : Int32) (g : sv_Mg) (Q : Int32 → sv_Mg → Prop) : Prop := wp_X7_in F v1 1 100 g (fun r_2 g_1 => ((r_2 = 0 → Q (-1000000001) g_1) ∧ (¬ r_2 = 0 → wp_X7_within F (9999 - (g_1 59 2)) 0 v1 g_1 (fun r_5 g_4 => wp_X7_goesOn F r_5 g_4 (fun g_6 => Q (g_6 59 7) g_6)))))
set_option maxRecDepth 100000 in
set_option maxHeartbeats 4000000 in
theorem c_X7_rounds {b : Nat} {xt : sv_Xt} {F : sv_Fr} {v1 : Int32} {g : sv_Mg} {Q : Int32 → sv_Mg → Prop} (hL : sv_Lay F) (h : wp_X7_rounds F v1 g Q) : sv_Cal yX7_rounds cX7_rounds 2 (some .int) 10 222 0 0 b xt [.ref (b + 58), .int v1] F g (sv_qI F Q) := by
  refine sv_intro mw_X7_rounds [(0, .ref (b + 58)), (1, .int v1)] rfl (Nat.le_of_ble_eq_true rfl) (fun x G RR T NM => ?_)
  have G : sv_G x b xt RX7 cX7_rounds 2 := G
  unfold wp_X7_rounds at h
  refine sv_iload_n (pc := 0) G dX7_rounds_0 1 rfl ?_
  refine sv_iconst (pc := 1) G dX7_rounds_1 1 ic_1 ?_
  refine sv_bipush (pc := 2) G dX7_rounds_2 100 bp_100 ?_
  refine sv_callS (cs := 0) (sl := 0) (st := []) (As := [.int v1, .int 1, .int 100]) (pc := 4) G RR (c_X7_in hL  h) mw_X7_in lk_X7_82 rfl ⟨(Nat.le_of_ble_eq_true rfl), (Nat.le_of_ble_eq_true rfl)⟩ ⟨(Nat.le_of_ble_eq_true rfl), (Nat.le_of_ble_eq_true rfl)⟩ (Nat.le_of_ble_eq_true rfl) rfl dX7_rounds_4 (sv_kI (fun r_2 g_1 h => ?_))
  refine sv_if_ne (pc := 7) G 13 (by decide) dX7_rounds_7 (fun c_3 => ?_) (fun c_3 => ?_)
  · have h := h.2 c_3
    refine sv_aload_n (pc := 13) G dX7_rounds_13 0 rfl ?_
    refine sv_sipush (pc := 14) G dX7_rounds_14 9999 sp_9999 ?_
    refine sv_aload_n (pc := 17) G dX7_rounds_17 0 rfl ?_
    refine sv_getR (pc := 18) G fw_X7_9 (hL.sh rfl) rfl (hL.rf 60 rfl) dX7_rounds_18 ?_
    refine sv_iconst (pc := 21) G dX7_rounds_21 2 ic_2 ?_
    refine sv_ialdK (pc := 22) G (hL.sh rfl) vi_2_1443 2 tn_2 dX7_rounds_22 ?_
    refine sv_isub (pc := 23) G dX7_rounds_23 ?_
    refine sv_iconst (pc := 24) G dX7_rounds_24 0 ic_0 ?_
    refine sv_iload_n (pc := 25) G dX7_rounds_25 1 rfl ?_
    refine sv_callS (cs := 0) (sl := 0) (st := [.ref (b + 58)]) (As := [.int (9999 - (g_1 59 2)), .int 0, .int v1]) (pc := 26) G RR (c_X7_within hL  h) mw_X7_within lk_X7_126 rfl ⟨(Nat.le_of_ble_eq_true rfl), (Nat.le_of_ble_eq_true rfl)⟩ ⟨(Nat.le_of_ble_eq_true rfl), (Nat.le_of_ble_eq_true rfl)⟩ (Nat.le_of_ble_eq_true rfl) rfl dX7_rounds_26 (sv_kI (fun r_5 g_4 h => ?_))
    refine sv_callV (cs := 0) (sl := 0) (st := []) (As := [.int r_5]) (a := 58) (pc := 29) G RR (c_X7_goesOn hL  h) mw_X7_goesOn lk_X7_170 (hL.sh rfl) (by decide) rfl rfl ⟨(Nat.le_of_ble_eq_true rfl), (Nat.le_of_ble_eq_true rfl)⟩ ⟨(Nat.le_of_ble_eq_true rfl), (Nat.le_of_ble_eq_true rfl)⟩ (Nat.le_of_ble_eq_true rfl) rfl dX7_rounds_29 (sv_kV (fun g_6 h => ?_))
    refine sv_aload_n (pc := 32) G dX7_rounds_32 0 rfl ?_
    refine sv_getR (pc := 33) G fw_X7_9 (hL.sh rfl) rfl (hL.rf 60 rfl) dX7_rounds_33 ?_
    refine sv_bipush (pc := 36) G dX7_rounds_36 7 bp_7 ?_
    refine sv_ialdK (pc := 38) G (hL.sh rfl) vi_7_1443 7 tn_7 dX7_rounds_38 ?_
    exact sv_ireturn (pc := 39) G T ⟨(Nat.le_of_ble_eq_true rfl), (Nat.le_of_ble_eq_true rfl)⟩ dX7_rounds_39 ⟨_, rfl, rfl, h⟩
  · have h := h.1 c_3
    refine sv_ldc (pc := 10) G dX7_rounds_10 cn_X7_90 ?_
    exact sv_ireturn (pc := 12) G T ⟨(Nat.le_of_ble_eq_true rfl), (Nat.le_of_ble_eq_true rfl)⟩ dX7_rounds_12 ⟨_, rfl, rfl, h⟩
def wp_X7_leader (F : sv_Fr) (g : sv_Mg) (Q : Int32 → sv_Mg → Prop) : Prop := wp_X7_all F  g (fun r_2 g_1 => wp_X7_mostOf F r_2 g_1 (fun r_4 g_3 => ((r_4 < 0 → Q (-1) g_3) ∧ (¬ r_4 < 0 → wp_X7_has F r_4 g_3 (fun r_7 g_6 => ((r_7 ≤ 0 → Q (-1) g_6) ∧ (¬ r_7 ≤ 0 → Q r_4 g_6)))))))
set_option maxRecDepth 100000 in
set_option maxHeartbeats 4000000 in
theorem c_X7_leader {b : Nat} {xt : sv_Xt} {F : sv_Fr} {g : sv_Mg} {Q : Int32 → sv_Mg → Prop} (hL : sv_Lay F) (h : wp_X7_leader F g Q) : sv_Cal yX7_leader cX7_leader 2 (some .int) 4 89 0 0 b xt [.ref (b + 58)] F g (sv_qI F Q) := by
  refine sv_intro mw_X7_leader [(0, .ref (b + 58))] rfl (Nat.le_of_ble_eq_true rfl) (fun x G RR T NM => ?_)
  have G : sv_G x b xt RX7 cX7_leader 2 := G
  unfold wp_X7_leader at h
  refine sv_aload_n (pc := 0) G dX7_leader_0 0 rfl ?_
  refine sv_aload_n (pc := 1) G dX7_leader_1 0 rfl ?_
  refine sv_callV (cs := 0) (sl := 0) (st := [.ref (b + 58)]) (As := []) (a := 58) (pc := 2) G RR (c_X7_all hL  h) mw_X7_all lk_X7_107 (hL.sh rfl) (by decide) rfl rfl ⟨(Nat.le_of_ble_eq_true rfl), (Nat.le_of_ble_eq_true rfl)⟩ ⟨(Nat.le_of_ble_eq_true rfl), (Nat.le_of_ble_eq_true rfl)⟩ (Nat.le_of_ble_eq_true rfl) rfl dX7_leader_2 (sv_kI (fun r_2 g_1 h => ?_))
  refine sv_callV (cs := 0) (sl := 0) (st := []) (As := [.int r_2]) (a := 58) (pc := 5) G RR (c_X7_mostOf hL  h) mw_X7_mostOf lk_X7_111 (hL.sh rfl) (by decide) rfl rfl ⟨(Nat.le_of_ble_eq_true rfl), (Nat.le_of_ble_eq_true rfl)⟩ ⟨(Nat.le_of_ble_eq_true rfl), (Nat.le_of_ble_eq_true rfl)⟩ (Nat.le_of_ble_eq_true rfl) rfl dX7_leader_5 (sv_kI (fun r_4 g_3 h => ?_))
  refine sv_istore_n (pc := 8) G dX7_leader_8 [(1, .int r_4), (0, .ref (b + 58))] (by decide) rfl ?_
  refine sv_iload_n (pc := 9) G dX7_leader_9 0 rfl ?_
  refine sv_if_lt (pc := 10) G 25 (by decide) dX7_leader_10 (fun c_5 => ?_) (fun c_5 => ?_)
  · have h := h.1 c_5
    refine sv_iconst (pc := 25) G dX7_leader_25 (-1) ic_m1 ?_
    exact sv_ireturn (pc := 26) G T ⟨(Nat.le_of_ble_eq_true rfl), (Nat.le_of_ble_eq_true rfl)⟩ dX7_leader_26 ⟨_, rfl, rfl, h⟩
  · have h := h.2 c_5
    refine sv_aload_n (pc := 13) G dX7_leader_13 1 rfl ?_
    refine sv_iload_n (pc := 14) G dX7_leader_14 0 rfl ?_
    refine sv_callV (cs := 0) (sl := 0) (st := []) (As := [.int r_4]) (a := 58) (pc := 15) G RR (c_X7_has hL  h) mw_X7_has lk_X7_104 (hL.sh rfl) (by decide) rfl rfl ⟨(Nat.le_of_ble_eq_true rfl), (Nat.le_of_ble_eq_true rfl)⟩ ⟨(Nat.le_of_ble_eq_true rfl), (Nat.le_of_ble_eq_true rfl)⟩ (Nat.le_of_ble_eq_true rfl) rfl dX7_leader_15 (sv_kI (fun r_7 g_6 h => ?_))
    refine sv_if_le (pc := 18) G 25 (by decide) dX7_leader_18 (fun c_8 => ?_) (fun c_8 => ?_)
    · have h := h.1 c_8
      refine sv_iconst (pc := 25) G dX7_leader_25 (-1) ic_m1 ?_
      exact sv_ireturn (pc := 26) G T ⟨(Nat.le_of_ble_eq_true rfl), (Nat.le_of_ble_eq_true rfl)⟩ dX7_leader_26 ⟨_, rfl, rfl, h⟩
    · have h := h.2 c_8
      refine sv_iload_n (pc := 21) G dX7_leader_21 0 rfl ?_
      refine sv_goto (pc := 22) G dX7_leader_22 26 (by decide) ?_
      exact sv_ireturn (pc := 26) G T ⟨(Nat.le_of_ble_eq_true rfl), (Nat.le_of_ble_eq_true rfl)⟩ dX7_leader_26 ⟨_, rfl, rfl, h⟩
def wp_X7_conclave (F : sv_Fr) (v1 : Int32) (g : sv_Mg) (Q : Int32 → sv_Mg → Prop) : Prop := ((v1 = 0 → Q (g 59 7) g) ∧ (¬ v1 = 0 → ((v1 = 1 → wp_X7_wanted F  g (fun r_4 g_3 => Q r_4 g_3)) ∧ (¬ v1 = 1 → ((v1 = 2 → Q (g 59 8) g) ∧ (¬ v1 = 2 → ((v1 = 3 → Q (g 59 9) g) ∧ (¬ v1 = 3 → ((v1 = 4 → wp_X7_runners F  g (fun r_9 g_8 => Q r_9 g_8)) ∧ (¬ v1 = 4 → ((v1 = 5 → wp_X7_leader F  g (fun r_12 g_11 => wp_X7_told0 F r_12 g_11 (fun r_14 g_13 => Q r_14 g_13))) ∧ (¬ v1 = 5 → Q (-1000000001) g))))))))))))
set_option maxRecDepth 100000 in
set_option maxHeartbeats 4000000 in
theorem c_X7_conclave {b : Nat} {xt : sv_Xt} {F : sv_Fr} {v1 : Int32} {g : sv_Mg} {Q : Int32 → sv_Mg → Prop} (hL : sv_Lay F) (h : wp_X7_conclave F v1 g Q) : sv_Cal yX7_conclave cX7_conclave 2 (some .int) 5 111 0 0 b xt [.ref (b + 58), .int v1] F g (sv_qI F Q) := by
  refine sv_intro mw_X7_conclave [(0, .ref (b + 58)), (1, .int v1)] rfl (Nat.le_of_ble_eq_true rfl) (fun x G RR T NM => ?_)
  have G : sv_G x b xt RX7 cX7_conclave 2 := G
  unfold wp_X7_conclave at h
  refine sv_iload_n (pc := 0) G dX7_conclave_0 1 rfl ?_
  by_cases c_1 : v1 = 0
  · have h := h.1 c_1
    refine sv_tsw (pc := 1) G dX7_conclave_1 0 (by rw [c_1]; decide) 40 (by decide) (by decide) rfl (by decide) ?_
    refine sv_aload_n (pc := 40) G dX7_conclave_40 0 rfl ?_
    refine sv_getR (pc := 41) G fw_X7_9 (hL.sh rfl) rfl (hL.rf 60 rfl) dX7_conclave_41 ?_
    refine sv_bipush (pc := 44) G dX7_conclave_44 7 bp_7 ?_
    refine sv_ialdK (pc := 46) G (hL.sh rfl) vi_7_1443 7 tn_7 dX7_conclave_46 ?_
    exact sv_ireturn (pc := 47) G T ⟨(Nat.le_of_ble_eq_true rfl), (Nat.le_of_ble_eq_true rfl)⟩ dX7_conclave_47 ⟨_, rfl, rfl, h⟩
  · have h := h.2 c_1
    by_cases c_2 : v1 = 1
    · have h := h.1 c_2
      refine sv_tsw (pc := 1) G dX7_conclave_1 1 (by rw [c_2]; decide) 48 (by decide) (by decide) rfl (by decide) ?_
      refine sv_aload_n (pc := 48) G dX7_conclave_48 0 rfl ?_
      refine sv_callV (cs := 0) (sl := 0) (st := []) (As := []) (a := 58) (pc := 49) G RR (c_X7_wanted hL  h) mw_X7_wanted lk_X7_161 (hL.sh rfl) (by decide) rfl rfl ⟨(Nat.le_of_ble_eq_true rfl), (Nat.le_of_ble_eq_true rfl)⟩ ⟨(Nat.le_of_ble_eq_true rfl), (Nat.le_of_ble_eq_true rfl)⟩ (Nat.le_of_ble_eq_true rfl) rfl dX7_conclave_49 (sv_kI (fun r_4 g_3 h => ?_))
      exact sv_ireturn (pc := 52) G T ⟨(Nat.le_of_ble_eq_true rfl), (Nat.le_of_ble_eq_true rfl)⟩ dX7_conclave_52 ⟨_, rfl, rfl, h⟩
    · have h := h.2 c_2
      by_cases c_5 : v1 = 2
      · have h := h.1 c_5
        refine sv_tsw (pc := 1) G dX7_conclave_1 2 (by rw [c_5]; decide) 53 (by decide) (by decide) rfl (by decide) ?_
        refine sv_aload_n (pc := 53) G dX7_conclave_53 0 rfl ?_
        refine sv_getR (pc := 54) G fw_X7_9 (hL.sh rfl) rfl (hL.rf 60 rfl) dX7_conclave_54 ?_
        refine sv_bipush (pc := 57) G dX7_conclave_57 8 bp_8 ?_
        refine sv_ialdK (pc := 59) G (hL.sh rfl) vi_8_1443 8 tn_8 dX7_conclave_59 ?_
        exact sv_ireturn (pc := 60) G T ⟨(Nat.le_of_ble_eq_true rfl), (Nat.le_of_ble_eq_true rfl)⟩ dX7_conclave_60 ⟨_, rfl, rfl, h⟩
      · have h := h.2 c_5
        by_cases c_6 : v1 = 3
        · have h := h.1 c_6
          refine sv_tsw (pc := 1) G dX7_conclave_1 3 (by rw [c_6]; decide) 61 (by decide) (by decide) rfl (by decide) ?_
          refine sv_aload_n (pc := 61) G dX7_conclave_61 0 rfl ?_
          refine sv_getR (pc := 62) G fw_X7_9 (hL.sh rfl) rfl (hL.rf 60 rfl) dX7_conclave_62 ?_
          refine sv_bipush (pc := 65) G dX7_conclave_65 9 bp_9 ?_
          refine sv_ialdK (pc := 67) G (hL.sh rfl) vi_9_1443 9 tn_9 dX7_conclave_67 ?_
          exact sv_ireturn (pc := 68) G T ⟨(Nat.le_of_ble_eq_true rfl), (Nat.le_of_ble_eq_true rfl)⟩ dX7_conclave_68 ⟨_, rfl, rfl, h⟩
        · have h := h.2 c_6
          by_cases c_7 : v1 = 4
          · have h := h.1 c_7
            refine sv_tsw (pc := 1) G dX7_conclave_1 4 (by rw [c_7]; decide) 69 (by decide) (by decide) rfl (by decide) ?_
            refine sv_aload_n (pc := 69) G dX7_conclave_69 0 rfl ?_
            refine sv_callV (cs := 0) (sl := 0) (st := []) (As := []) (a := 58) (pc := 70) G RR (c_X7_runners hL  h) mw_X7_runners lk_X7_130 (hL.sh rfl) (by decide) rfl rfl ⟨(Nat.le_of_ble_eq_true rfl), (Nat.le_of_ble_eq_true rfl)⟩ ⟨(Nat.le_of_ble_eq_true rfl), (Nat.le_of_ble_eq_true rfl)⟩ (Nat.le_of_ble_eq_true rfl) rfl dX7_conclave_70 (sv_kI (fun r_9 g_8 h => ?_))
            exact sv_ireturn (pc := 73) G T ⟨(Nat.le_of_ble_eq_true rfl), (Nat.le_of_ble_eq_true rfl)⟩ dX7_conclave_73 ⟨_, rfl, rfl, h⟩
          · have h := h.2 c_7
            by_cases c_10 : v1 = 5
            · have h := h.1 c_10
              refine sv_tsw (pc := 1) G dX7_conclave_1 5 (by rw [c_10]; decide) 74 (by decide) (by decide) rfl (by decide) ?_
              refine sv_aload_n (pc := 74) G dX7_conclave_74 0 rfl ?_
              refine sv_callV (cs := 0) (sl := 0) (st := []) (As := []) (a := 58) (pc := 75) G RR (c_X7_leader hL  h) mw_X7_leader lk_X7_174 (hL.sh rfl) (by decide) rfl rfl ⟨(Nat.le_of_ble_eq_true rfl), (Nat.le_of_ble_eq_true rfl)⟩ ⟨(Nat.le_of_ble_eq_true rfl), (Nat.le_of_ble_eq_true rfl)⟩ (Nat.le_of_ble_eq_true rfl) rfl dX7_conclave_75 (sv_kI (fun r_12 g_11 h => ?_))
              refine sv_callS (cs := 0) (sl := 0) (st := []) (As := [.int r_12]) (pc := 78) G RR (c_X7_told0 hL  h) mw_X7_told0 lk_X7_177 rfl ⟨(Nat.le_of_ble_eq_true rfl), (Nat.le_of_ble_eq_true rfl)⟩ ⟨(Nat.le_of_ble_eq_true rfl), (Nat.le_of_ble_eq_true rfl)⟩ (Nat.le_of_ble_eq_true rfl) rfl dX7_conclave_78 (sv_kI (fun r_14 g_13 h => ?_))
              exact sv_ireturn (pc := 81) G T ⟨(Nat.le_of_ble_eq_true rfl), (Nat.le_of_ble_eq_true rfl)⟩ dX7_conclave_81 ⟨_, rfl, rfl, h⟩
            · have h := h.2 c_10
              refine sv_tswD (pc := 1) G dX7_conclave_1 (by have qc_1 := lv_neT (a := 0) c_1 (by decide); have qc_2 := lv_neT (a := 1) c_2 (by decide); have qc_5 := lv_neT (a := 2) c_5 (by decide); have qc_6 := lv_neT (a := 3) c_6 (by decide); have qc_7 := lv_neT (a := 4) c_7 (by decide); have qc_10 := lv_neT (a := 5) c_10 (by decide); omega) 82 (by decide) ?_
              refine sv_ldc (pc := 82) G dX7_conclave_82 cn_X7_90 ?_
              exact sv_ireturn (pc := 84) G T ⟨(Nat.le_of_ble_eq_true rfl), (Nat.le_of_ble_eq_true rfl)⟩ dX7_conclave_84 ⟨_, rfl, rfl, h⟩
def wp_X7_butOne_36 (F : sv_Fr) (Q : Int32 → sv_Mg → Prop) (K4 : Int32 → Int32 → sv_Mg → Prop) (v2 : Int32) (s0 : Int32) (s1 : Int32) (g : sv_Mg) : Prop := ∀ v1_1 : Int32, v1_1 = (s1 ||| s0) → ∀ v2_2 : Int32, v2_2 = v2 + 1 → K4 v1_1 v2_2 g
def wp_X7_butOne_4 (F : sv_Fr) (Q : Int32 → sv_Mg → Prop) : Nat → Int32 → Int32 → sv_Mg → Prop
  | 0, _, _, _ => False
  | n + 1, v1, v2, g => (((g 59 1) ≤ v2 → Q v1 g) ∧ (¬ (g 59 1) ≤ v2 → wp_X7_has F v2 g (fun r_5 g_4 => wp_X7_wanted F  g_4 (fun r_7 g_6 => ((r_5 = (r_7 - 1) → wp_X7_butOne_36 F  Q (wp_X7_butOne_4 F Q  n) v2 (1 <<< (v2 &&& 31)) v1 g_6) ∧ (¬ r_5 = (r_7 - 1) → wp_X7_butOne_36 F  Q (wp_X7_butOne_4 F Q  n) v2 0 v1 g_6))))))
def wp_X7_butOne (F : sv_Fr) (g : sv_Mg) (Q : Int32 → sv_Mg → Prop) : Prop := ∃ n_9, wp_X7_butOne_4 F  Q  n_9 0 0 g
set_option maxRecDepth 100000 in
set_option maxHeartbeats 4000000 in
theorem aw_X7_butOne_36 {x : sv_X} {b : Nat} {xt : sv_Xt} {F : sv_Fr} {Q : Int32 → sv_Mg → Prop} (G : sv_G x b xt RX7 cX7_butOne 3) (RR : sv_R x 3 66 0 0) (T : sv_RT x (some .int)) (hL : sv_Lay F) {K4 : Int32 → Int32 → sv_Mg → Prop} (hK4 : ∀ (v1 : Int32) (v2 : Int32) (g : sv_Mg), K4 v1 v2 g → sv_AW x (sv_Q x (sv_qI F Q) 0 0) F g 0 0 4 [(0, .ref (b + 58)), (1, .int v1), (2, .int v2)] []) : ∀ (v2 : Int32) (s0 : Int32) (s1 : Int32) (g : sv_Mg), wp_X7_butOne_36 F Q K4 v2 s0 s1 g → sv_AW x (sv_Q x (sv_qI F Q) 0 0) F g 0 0 36 [(0, .ref (b + 58)), (2, .int v2)] [.int s0, .int s1] := by
  intro v2 s0 s1 g h
  unfold wp_X7_butOne_36 at h
  refine sv_ior (pc := 36) G dX7_butOne_36 ?_
  refine sv_topi (fun v1_1 ev1_1 => ?_)
  have h := h v1_1 ev1_1
  refine sv_istore_n (pc := 37) G dX7_butOne_37 [(1, .int v1_1), (0, .ref (b + 58)), (2, .int v2)] (by decide) rfl ?_
  obtain ⟨v2_2, ev2_2⟩ : ∃ y : Int32, y = v2 + 1 := ⟨_, rfl⟩
  have h := h v2_2 ev2_2
  refine sv_iinc (pc := 38) G dX7_butOne_38 2 v2_2 [(2, .int v2_2), (1, .int v1_1), (0, .ref (b + 58))] (by rw [ev2_2, ic_1]) rfl (by decide) rfl ?_
  refine sv_goto (pc := 41) G dX7_butOne_41 4 (by decide) ?_
  refine sv_locs [2, 1, 0] [(0, .ref (b + 58)), (1, .int v1_1), (2, .int v2_2)] rfl ?_
  exact hK4 v1_1 v2_2 g  h
set_option maxRecDepth 100000 in
set_option maxHeartbeats 4000000 in
theorem aw_X7_butOne_4 {x : sv_X} {b : Nat} {xt : sv_Xt} {F : sv_Fr} {Q : Int32 → sv_Mg → Prop} (G : sv_G x b xt RX7 cX7_butOne 3) (RR : sv_R x 3 66 0 0) (T : sv_RT x (some .int)) (hL : sv_Lay F) : ∀ (n : Nat) (v1 : Int32) (v2 : Int32) (g : sv_Mg), wp_X7_butOne_4 F Q  n v1 v2 g → sv_AW x (sv_Q x (sv_qI F Q) 0 0) F g 0 0 4 [(0, .ref (b + 58)), (1, .int v1), (2, .int v2)] [] := by
  intro n
  induction n with
  | zero => intro v1 v2 g h; exact h.elim
  | succ n ih =>
    intro v1 v2 g h
    rw [wp_X7_butOne_4] at h
    refine sv_iload_n (pc := 4) G dX7_butOne_4 2 rfl ?_
    refine sv_aload_n (pc := 5) G dX7_butOne_5 0 rfl ?_
    refine sv_getR (pc := 6) G fw_X7_9 (hL.sh rfl) rfl (hL.rf 60 rfl) dX7_butOne_6 ?_
    refine sv_iconst (pc := 9) G dX7_butOne_9 1 ic_1 ?_
    refine sv_ialdK (pc := 10) G (hL.sh rfl) vi_1_1443 1 tn_1 dX7_butOne_10 ?_
    refine sv_ic_ge (pc := 11) G 44 (by decide) dX7_butOne_11 (fun c_3 => ?_) (fun c_3 => ?_)
    · have h := h.1 c_3
      refine sv_iload_n (pc := 44) G dX7_butOne_44 1 rfl ?_
      exact sv_ireturn (pc := 45) G T ⟨(Nat.le_of_ble_eq_true rfl), (Nat.le_of_ble_eq_true rfl)⟩ dX7_butOne_45 ⟨_, rfl, rfl, h⟩
    · have h := h.2 c_3
      refine sv_iload_n (pc := 14) G dX7_butOne_14 1 rfl ?_
      refine sv_aload_n (pc := 15) G dX7_butOne_15 0 rfl ?_
      refine sv_iload_n (pc := 16) G dX7_butOne_16 2 rfl ?_
      refine sv_callV (cs := 0) (sl := 0) (st := [.int v1]) (As := [.int v2]) (a := 58) (pc := 17) G RR (c_X7_has hL  h) mw_X7_has lk_X7_104 (hL.sh rfl) (by decide) rfl rfl ⟨(Nat.le_of_ble_eq_true rfl), (Nat.le_of_ble_eq_true rfl)⟩ ⟨(Nat.le_of_ble_eq_true rfl), (Nat.le_of_ble_eq_true rfl)⟩ (Nat.le_of_ble_eq_true rfl) rfl dX7_butOne_17 (sv_kI (fun r_5 g_4 h => ?_))
      refine sv_aload_n (pc := 20) G dX7_butOne_20 0 rfl ?_
      refine sv_callV (cs := 0) (sl := 0) (st := [.int r_5, .int v1]) (As := []) (a := 58) (pc := 21) G RR (c_X7_wanted hL  h) mw_X7_wanted lk_X7_161 (hL.sh rfl) (by decide) rfl rfl ⟨(Nat.le_of_ble_eq_true rfl), (Nat.le_of_ble_eq_true rfl)⟩ ⟨(Nat.le_of_ble_eq_true rfl), (Nat.le_of_ble_eq_true rfl)⟩ (Nat.le_of_ble_eq_true rfl) rfl dX7_butOne_21 (sv_kI (fun r_7 g_6 h => ?_))
      refine sv_iconst (pc := 24) G dX7_butOne_24 1 ic_1 ?_
      refine sv_isub (pc := 25) G dX7_butOne_25 ?_
      refine sv_ic_ne (pc := 26) G 35 (by decide) dX7_butOne_26 (fun c_8 => ?_) (fun c_8 => ?_)
      · have h := h.2 c_8
        refine sv_iconst (pc := 35) G dX7_butOne_35 0 ic_0 ?_
        refine sv_locs [0, 2] [(0, .ref (b + 58)), (2, .int v2)] rfl ?_
        exact aw_X7_butOne_36 G RR T hL  ih v2 0 v1 g_6  h
      · have h := h.1 c_8
        refine sv_iconst (pc := 29) G dX7_butOne_29 1 ic_1 ?_
        refine sv_iload_n (pc := 30) G dX7_butOne_30 2 rfl ?_
        refine sv_ishl (pc := 31) G dX7_butOne_31 ?_
        refine sv_goto (pc := 32) G dX7_butOne_32 36 (by decide) ?_
        refine sv_locs [0, 2] [(0, .ref (b + 58)), (2, .int v2)] rfl ?_
        exact aw_X7_butOne_36 G RR T hL  ih v2 (1 <<< (v2 &&& 31)) v1 g_6  h
set_option maxRecDepth 100000 in
set_option maxHeartbeats 4000000 in
theorem c_X7_butOne {b : Nat} {xt : sv_Xt} {F : sv_Fr} {g : sv_Mg} {Q : Int32 → sv_Mg → Prop} (hL : sv_Lay F) (h : wp_X7_butOne F g Q) : sv_Cal yX7_butOne cX7_butOne 3 (some .int) 3 66 0 0 b xt [.ref (b + 58)] F g (sv_qI F Q) := by
  refine sv_intro mw_X7_butOne [(0, .ref (b + 58))] rfl (Nat.le_of_ble_eq_true rfl) (fun x G RR T NM => ?_)
  have G : sv_G x b xt RX7 cX7_butOne 3 := G
  unfold wp_X7_butOne at h
  refine sv_iconst (pc := 0) G dX7_butOne_0 0 ic_0 ?_
  refine sv_istore_n (pc := 1) G dX7_butOne_1 [(1, .int 0), (0, .ref (b + 58))] (by decide) rfl ?_
  refine sv_iconst (pc := 2) G dX7_butOne_2 0 ic_0 ?_
  refine sv_istore_n (pc := 3) G dX7_butOne_3 [(2, .int 0), (1, .int 0), (0, .ref (b + 58))] (by decide) rfl ?_
  refine sv_locs [2, 1, 0] [(0, .ref (b + 58)), (1, .int 0), (2, .int 0)] rfl ?_
  obtain ⟨n_9, h⟩ := h
  exact aw_X7_butOne_4 G RR T hL   n_9 0 0 g  h
def wp_X7_decides_75 (F : sv_Fr) (Q : Int32 → sv_Mg → Prop) (K4 : Int32 → Int32 → sv_Mg → Prop) (v2 : Int32) (s0 : Int32) (s1 : Int32) (g : sv_Mg) : Prop := ∀ v1_1 : Int32, v1_1 = (s1 ||| s0) → ∀ v2_2 : Int32, v2_2 = v2 + 1 → K4 v1_1 v2_2 g
def wp_X7_decides_60 (F : sv_Fr) (Q : Int32 → sv_Mg → Prop) (K4 : Int32 → Int32 → sv_Mg → Prop) (v1 : Int32) (v2 : Int32) (s0 : Int32) (g : sv_Mg) : Prop := ((s0 = 0 → wp_X7_decides_75 F  Q K4 v2 0 v1 g) ∧ (¬ s0 = 0 → wp_X7_decides_75 F  Q K4 v2 (1 <<< (v2 &&& 31)) v1 g))
def wp_X7_decides_59 (F : sv_Fr) (Q : Int32 → sv_Mg → Prop) (K4 : Int32 → Int32 → sv_Mg → Prop) (v1 : Int32) (v2 : Int32) (g : sv_Mg) : Prop := wp_X7_decides_60 F  Q K4 v1 v2 0 g
def wp_X7_decides_4 (F : sv_Fr) (Q : Int32 → sv_Mg → Prop) : Nat → Int32 → Int32 → sv_Mg → Prop
  | 0, _, _, _ => False
  | n + 1, v1, v2, g => (((g 59 1) ≤ v2 → Q v1 g) ∧ (¬ (g 59 1) ≤ v2 → wp_X7_of F v2 5 g (fun r_6 g_5 => ((r_6 < 0 → wp_X7_decides_59 F  Q (wp_X7_decides_4 F Q  n) v1 v2 g_5) ∧ (¬ r_6 < 0 → wp_X7_has F r_6 g_5 (fun r_9 g_8 => wp_X7_wanted F  g_8 (fun r_11 g_10 => ((r_9 < r_11 → wp_X7_decides_59 F  Q (wp_X7_decides_4 F Q  n) v1 v2 g_10) ∧ (¬ r_9 < r_11 → wp_X7_has F r_6 g_10 (fun r_14 g_13 => wp_X7_weightOf F v2 g_13 (fun r_16 g_15 => wp_X7_wanted F  g_15 (fun r_18 g_17 => ((r_18 ≤ (r_14 - r_16) → wp_X7_decides_59 F  Q (wp_X7_decides_4 F Q  n) v1 v2 g_17) ∧ (¬ r_18 ≤ (r_14 - r_16) → wp_X7_decides_60 F  Q (wp_X7_decides_4 F Q  n) v1 v2 1 g_17))))))))))))))
def wp_X7_decides (F : sv_Fr) (g : sv_Mg) (Q : Int32 → sv_Mg → Prop) : Prop := ∃ n_20, wp_X7_decides_4 F  Q  n_20 0 0 g
set_option maxRecDepth 100000 in
set_option maxHeartbeats 4000000 in
theorem aw_X7_decides_75 {x : sv_X} {b : Nat} {xt : sv_Xt} {F : sv_Fr} {Q : Int32 → sv_Mg → Prop} (G : sv_G x b xt RX7 cX7_decides 5) (RR : sv_R x 3 66 0 0) (T : sv_RT x (some .int)) (hL : sv_Lay F) {K4 : Int32 → Int32 → sv_Mg → Prop} (hK4 : ∀ (v1 : Int32) (v2 : Int32) (g : sv_Mg), K4 v1 v2 g → sv_AW x (sv_Q x (sv_qI F Q) 0 0) F g 0 0 4 [(0, .ref (b + 58)), (1, .int v1), (2, .int v2)] []) : ∀ (v2 : Int32) (s0 : Int32) (s1 : Int32) (g : sv_Mg), wp_X7_decides_75 F Q K4 v2 s0 s1 g → sv_AW x (sv_Q x (sv_qI F Q) 0 0) F g 0 0 75 [(0, .ref (b + 58)), (2, .int v2)] [.int s0, .int s1] := by
  intro v2 s0 s1 g h
  unfold wp_X7_decides_75 at h
  refine sv_ior (pc := 75) G dX7_decides_75 ?_
  refine sv_topi (fun v1_1 ev1_1 => ?_)
  have h := h v1_1 ev1_1
  refine sv_istore_n (pc := 76) G dX7_decides_76 [(1, .int v1_1), (0, .ref (b + 58)), (2, .int v2)] (by decide) rfl ?_
  obtain ⟨v2_2, ev2_2⟩ : ∃ y : Int32, y = v2 + 1 := ⟨_, rfl⟩
  have h := h v2_2 ev2_2
  refine sv_iinc (pc := 77) G dX7_decides_77 2 v2_2 [(2, .int v2_2), (1, .int v1_1), (0, .ref (b + 58))] (by rw [ev2_2, ic_1]) rfl (by decide) rfl ?_
  refine sv_goto (pc := 80) G dX7_decides_80 4 (by decide) ?_
  refine sv_locs [2, 1, 0] [(0, .ref (b + 58)), (1, .int v1_1), (2, .int v2_2)] rfl ?_
  exact hK4 v1_1 v2_2 g  h
set_option maxRecDepth 100000 in
set_option maxHeartbeats 4000000 in
theorem aw_X7_decides_60 {x : sv_X} {b : Nat} {xt : sv_Xt} {F : sv_Fr} {Q : Int32 → sv_Mg → Prop} (G : sv_G x b xt RX7 cX7_decides 5) (RR : sv_R x 3 66 0 0) (T : sv_RT x (some .int)) (hL : sv_Lay F) {K4 : Int32 → Int32 → sv_Mg → Prop} (hK4 : ∀ (v1 : Int32) (v2 : Int32) (g : sv_Mg), K4 v1 v2 g → sv_AW x (sv_Q x (sv_qI F Q) 0 0) F g 0 0 4 [(0, .ref (b + 58)), (1, .int v1), (2, .int v2)] []) : ∀ (v1 : Int32) (v2 : Int32) (s0 : Int32) (g : sv_Mg), wp_X7_decides_60 F Q K4 v1 v2 s0 g → sv_AW x (sv_Q x (sv_qI F Q) 0 0) F g 0 0 60 [(0, .ref (b + 58)), (1, .int v1), (2, .int v2)] [.int s0] := by
  intro v1 v2 s0 g h
  unfold wp_X7_decides_60 at h
  refine sv_istore (pc := 60) G dX7_decides_60 [(4, .int s0), (0, .ref (b + 58)), (1, .int v1), (2, .int v2)] (by decide) rfl ?_
  refine sv_iload_n (pc := 62) G dX7_decides_62 2 rfl ?_
  refine sv_iload (pc := 63) G dX7_decides_63 0 rfl ?_
  refine sv_if_eq (pc := 65) G 74 (by decide) dX7_decides_65 (fun c_3 => ?_) (fun c_3 => ?_)
  · have h := h.1 c_3
    refine sv_iconst (pc := 74) G dX7_decides_74 0 ic_0 ?_
    refine sv_locs [1, 3] [(0, .ref (b + 58)), (2, .int v2)] rfl ?_
    exact aw_X7_decides_75 G RR T hL  hK4 v2 0 v1 g  h
  · have h := h.2 c_3
    refine sv_iconst (pc := 68) G dX7_decides_68 1 ic_1 ?_
    refine sv_iload_n (pc := 69) G dX7_decides_69 3 rfl ?_
    refine sv_ishl (pc := 70) G dX7_decides_70 ?_
    refine sv_goto (pc := 71) G dX7_decides_71 75 (by decide) ?_
    refine sv_locs [1, 3] [(0, .ref (b + 58)), (2, .int v2)] rfl ?_
    exact aw_X7_decides_75 G RR T hL  hK4 v2 (1 <<< (v2 &&& 31)) v1 g  h
set_option maxRecDepth 100000 in
set_option maxHeartbeats 4000000 in
theorem aw_X7_decides_59 {x : sv_X} {b : Nat} {xt : sv_Xt} {F : sv_Fr} {Q : Int32 → sv_Mg → Prop} (G : sv_G x b xt RX7 cX7_decides 5) (RR : sv_R x 3 66 0 0) (T : sv_RT x (some .int)) (hL : sv_Lay F) {K4 : Int32 → Int32 → sv_Mg → Prop} (hK4 : ∀ (v1 : Int32) (v2 : Int32) (g : sv_Mg), K4 v1 v2 g → sv_AW x (sv_Q x (sv_qI F Q) 0 0) F g 0 0 4 [(0, .ref (b + 58)), (1, .int v1), (2, .int v2)] []) : ∀ (v1 : Int32) (v2 : Int32) (g : sv_Mg), wp_X7_decides_59 F Q K4 v1 v2 g → sv_AW x (sv_Q x (sv_qI F Q) 0 0) F g 0 0 59 [(0, .ref (b + 58)), (1, .int v1), (2, .int v2)] [] := by
  intro v1 v2 g h
  unfold wp_X7_decides_59 at h
  refine sv_iconst (pc := 59) G dX7_decides_59 0 ic_0 ?_
  refine sv_locs [0, 1, 2] [(0, .ref (b + 58)), (1, .int v1), (2, .int v2)] rfl ?_
  exact aw_X7_decides_60 G RR T hL  hK4 v1 v2 0 g  h
set_option maxRecDepth 100000 in
set_option maxHeartbeats 4000000 in
theorem aw_X7_decides_4 {x : sv_X} {b : Nat} {xt : sv_Xt} {F : sv_Fr} {Q : Int32 → sv_Mg → Prop} (G : sv_G x b xt RX7 cX7_decides 5) (RR : sv_R x 3 66 0 0) (T : sv_RT x (some .int)) (hL : sv_Lay F) : ∀ (n : Nat) (v1 : Int32) (v2 : Int32) (g : sv_Mg), wp_X7_decides_4 F Q  n v1 v2 g → sv_AW x (sv_Q x (sv_qI F Q) 0 0) F g 0 0 4 [(0, .ref (b + 58)), (1, .int v1), (2, .int v2)] [] := by
  intro n
  induction n with
  | zero => intro v1 v2 g h; exact h.elim
  | succ n ih =>
    intro v1 v2 g h
    rw [wp_X7_decides_4] at h
    refine sv_iload_n (pc := 4) G dX7_decides_4 2 rfl ?_
    refine sv_aload_n (pc := 5) G dX7_decides_5 0 rfl ?_
    refine sv_getR (pc := 6) G fw_X7_9 (hL.sh rfl) rfl (hL.rf 60 rfl) dX7_decides_6 ?_
    refine sv_iconst (pc := 9) G dX7_decides_9 1 ic_1 ?_
    refine sv_ialdK (pc := 10) G (hL.sh rfl) vi_1_1443 1 tn_1 dX7_decides_10 ?_
    refine sv_ic_ge (pc := 11) G 83 (by decide) dX7_decides_11 (fun c_4 => ?_) (fun c_4 => ?_)
    · have h := h.1 c_4
      refine sv_iload_n (pc := 83) G dX7_decides_83 1 rfl ?_
      exact sv_ireturn (pc := 84) G T ⟨(Nat.le_of_ble_eq_true rfl), (Nat.le_of_ble_eq_true rfl)⟩ dX7_decides_84 ⟨_, rfl, rfl, h⟩
    · have h := h.2 c_4
      refine sv_aload_n (pc := 14) G dX7_decides_14 0 rfl ?_
      refine sv_iload_n (pc := 15) G dX7_decides_15 2 rfl ?_
      refine sv_iconst (pc := 16) G dX7_decides_16 5 ic_5 ?_
      refine sv_callV (cs := 0) (sl := 0) (st := []) (As := [.int v2, .int 5]) (a := 58) (pc := 17) G RR (c_X7_of hL  h) mw_X7_of lk_X7_96 (hL.sh rfl) (by decide) rfl rfl ⟨(Nat.le_of_ble_eq_true rfl), (Nat.le_of_ble_eq_true rfl)⟩ ⟨(Nat.le_of_ble_eq_true rfl), (Nat.le_of_ble_eq_true rfl)⟩ (Nat.le_of_ble_eq_true rfl) rfl dX7_decides_17 (sv_kI (fun r_6 g_5 h => ?_))
      refine sv_istore_n (pc := 20) G dX7_decides_20 [(3, .int r_6), (0, .ref (b + 58)), (1, .int v1), (2, .int v2)] (by decide) rfl ?_
      refine sv_iload_n (pc := 21) G dX7_decides_21 0 rfl ?_
      refine sv_if_lt (pc := 22) G 59 (by decide) dX7_decides_22 (fun c_7 => ?_) (fun c_7 => ?_)
      · have h := h.1 c_7
        refine sv_locs [1, 2, 3] [(0, .ref (b + 58)), (1, .int v1), (2, .int v2)] rfl ?_
        exact aw_X7_decides_59 G RR T hL  ih v1 v2 g_5  h
      · have h := h.2 c_7
        refine sv_aload_n (pc := 25) G dX7_decides_25 1 rfl ?_
        refine sv_iload_n (pc := 26) G dX7_decides_26 0 rfl ?_
        refine sv_callV (cs := 0) (sl := 0) (st := []) (As := [.int r_6]) (a := 58) (pc := 27) G RR (c_X7_has hL  h) mw_X7_has lk_X7_104 (hL.sh rfl) (by decide) rfl rfl ⟨(Nat.le_of_ble_eq_true rfl), (Nat.le_of_ble_eq_true rfl)⟩ ⟨(Nat.le_of_ble_eq_true rfl), (Nat.le_of_ble_eq_true rfl)⟩ (Nat.le_of_ble_eq_true rfl) rfl dX7_decides_27 (sv_kI (fun r_9 g_8 h => ?_))
        refine sv_aload_n (pc := 30) G dX7_decides_30 1 rfl ?_
        refine sv_callV (cs := 0) (sl := 0) (st := [.int r_9]) (As := []) (a := 58) (pc := 31) G RR (c_X7_wanted hL  h) mw_X7_wanted lk_X7_161 (hL.sh rfl) (by decide) rfl rfl ⟨(Nat.le_of_ble_eq_true rfl), (Nat.le_of_ble_eq_true rfl)⟩ ⟨(Nat.le_of_ble_eq_true rfl), (Nat.le_of_ble_eq_true rfl)⟩ (Nat.le_of_ble_eq_true rfl) rfl dX7_decides_31 (sv_kI (fun r_11 g_10 h => ?_))
        refine sv_ic_lt (pc := 34) G 59 (by decide) dX7_decides_34 (fun c_12 => ?_) (fun c_12 => ?_)
        · have h := h.1 c_12
          refine sv_locs [1, 2, 3] [(0, .ref (b + 58)), (1, .int v1), (2, .int v2)] rfl ?_
          exact aw_X7_decides_59 G RR T hL  ih v1 v2 g_10  h
        · have h := h.2 c_12
          refine sv_aload_n (pc := 37) G dX7_decides_37 1 rfl ?_
          refine sv_iload_n (pc := 38) G dX7_decides_38 0 rfl ?_
          refine sv_callV (cs := 0) (sl := 0) (st := []) (As := [.int r_6]) (a := 58) (pc := 39) G RR (c_X7_has hL  h) mw_X7_has lk_X7_104 (hL.sh rfl) (by decide) rfl rfl ⟨(Nat.le_of_ble_eq_true rfl), (Nat.le_of_ble_eq_true rfl)⟩ ⟨(Nat.le_of_ble_eq_true rfl), (Nat.le_of_ble_eq_true rfl)⟩ (Nat.le_of_ble_eq_true rfl) rfl dX7_decides_39 (sv_kI (fun r_14 g_13 h => ?_))
          refine sv_aload_n (pc := 42) G dX7_decides_42 1 rfl ?_
          refine sv_iload_n (pc := 43) G dX7_decides_43 3 rfl ?_
          refine sv_callV (cs := 0) (sl := 0) (st := [.int r_14]) (As := [.int v2]) (a := 58) (pc := 44) G RR (c_X7_weightOf hL  h) mw_X7_weightOf lk_X7_100 (hL.sh rfl) (by decide) rfl rfl ⟨(Nat.le_of_ble_eq_true rfl), (Nat.le_of_ble_eq_true rfl)⟩ ⟨(Nat.le_of_ble_eq_true rfl), (Nat.le_of_ble_eq_true rfl)⟩ (Nat.le_of_ble_eq_true rfl) rfl dX7_decides_44 (sv_kI (fun r_16 g_15 h => ?_))
          refine sv_isub (pc := 47) G dX7_decides_47 ?_
          refine sv_aload_n (pc := 48) G dX7_decides_48 1 rfl ?_
          refine sv_callV (cs := 0) (sl := 0) (st := [.int (r_14 - r_16)]) (As := []) (a := 58) (pc := 49) G RR (c_X7_wanted hL  h) mw_X7_wanted lk_X7_161 (hL.sh rfl) (by decide) rfl rfl ⟨(Nat.le_of_ble_eq_true rfl), (Nat.le_of_ble_eq_true rfl)⟩ ⟨(Nat.le_of_ble_eq_true rfl), (Nat.le_of_ble_eq_true rfl)⟩ (Nat.le_of_ble_eq_true rfl) rfl dX7_decides_49 (sv_kI (fun r_18 g_17 h => ?_))
          refine sv_ic_ge (pc := 52) G 59 (by decide) dX7_decides_52 (fun c_19 => ?_) (fun c_19 => ?_)
          · have h := h.1 c_19
            refine sv_locs [1, 2, 3] [(0, .ref (b + 58)), (1, .int v1), (2, .int v2)] rfl ?_
            exact aw_X7_decides_59 G RR T hL  ih v1 v2 g_17  h
          · have h := h.2 c_19
            refine sv_iconst (pc := 55) G dX7_decides_55 1 ic_1 ?_
            refine sv_goto (pc := 56) G dX7_decides_56 60 (by decide) ?_
            refine sv_locs [1, 2, 3] [(0, .ref (b + 58)), (1, .int v1), (2, .int v2)] rfl ?_
            exact aw_X7_decides_60 G RR T hL  ih v1 v2 1 g_17  h
set_option maxRecDepth 100000 in
set_option maxHeartbeats 4000000 in
theorem c_X7_decides {b : Nat} {xt : sv_Xt} {F : sv_Fr} {g : sv_Mg} {Q : Int32 → sv_Mg → Prop} (hL : sv_Lay F) (h : wp_X7_decides F g Q) : sv_Cal yX7_decides cX7_decides 5 (some .int) 3 66 0 0 b xt [.ref (b + 58)] F g (sv_qI F Q) := by
  refine sv_intro mw_X7_decides [(0, .ref (b + 58))] rfl (Nat.le_of_ble_eq_true rfl) (fun x G RR T NM => ?_)
  have G : sv_G x b xt RX7 cX7_decides 5 := G
  unfold wp_X7_decides at h
  refine sv_iconst (pc := 0) G dX7_decides_0 0 ic_0 ?_
  refine sv_istore_n (pc := 1) G dX7_decides_1 [(1, .int 0), (0, .ref (b + 58))] (by decide) rfl ?_
  refine sv_iconst (pc := 2) G dX7_decides_2 0 ic_0 ?_
  refine sv_istore_n (pc := 3) G dX7_decides_3 [(2, .int 0), (1, .int 0), (0, .ref (b + 58))] (by decide) rfl ?_
  refine sv_locs [2, 1, 0] [(0, .ref (b + 58)), (1, .int 0), (2, .int 0)] rfl ?_
  obtain ⟨n_20, h⟩ := h
  exact aw_X7_decides_4 G RR T hL   n_20 0 0 g  h
def wp_X7_splits_106 (F : sv_Fr) (Q : Int32 → sv_Mg → Prop) (K54 : Int32 → Int32 → Int32 → sv_Mg → Prop) (K62 : Int32 → Int32 → Int32 → Int32 → sv_Mg → Prop) (K73 : Int32 → Int32 → Int32 → Int32 → Int32 → Int32 → sv_Mg → Prop) (v1 : Int32) (v2 : Int32) (v3 : Int32) (v4 : Int32) (v6 : Int32) (s0 : Int32) (s1 : Int32) (g : sv_Mg) : Prop := ∀ v5_1 : Int32, v5_1 = (s1 + s0) → ∀ v6_2 : Int32, v6_2 = v6 + 1 → K73 v1 v2 v3 v4 v5_1 v6_2 g
def wp_X7_splits_73 (F : sv_Fr) (Q : Int32 → sv_Mg → Prop) (K54 : Int32 → Int32 → Int32 → sv_Mg → Prop) (K62 : Int32 → Int32 → Int32 → Int32 → sv_Mg → Prop) : Nat → Int32 → Int32 → Int32 → Int32 → Int32 → Int32 → sv_Mg → Prop
  | 0, _, _, _, _, _, _, _ => False
  | n + 1, v1, v2, v3, v4, v5, v6, g => ((v4 < v6 → vp_in v4 13 ∧ ∀ g_5, g_5 = sv_st g 63 v4.toNatClampNeg v5 → ∀ v4_6 : Int32, v4_6 = v4 + (-1) → K62 v1 v2 v3 v4_6 g_5) ∧ (¬ v4 < v6 → (((2 * v1) ≤ (3 * v6) → wp_X7_splits_106 F  Q K54 K62 (wp_X7_splits_73 F Q K54 K62 n) v1 v2 v3 v4 v6 0 v5 g) ∧ (¬ (2 * v1) ≤ (3 * v6) → vp_in (v4 - v6) 13 ∧ wp_X7_splits_106 F  Q K54 K62 (wp_X7_splits_73 F Q K54 K62 n) v1 v2 v3 v4 v6 (g 63 (v4 - v6).toNatClampNeg) v5 g))))
def wp_X7_splits_62 (F : sv_Fr) (Q : Int32 → sv_Mg → Prop) (K54 : Int32 → Int32 → Int32 → sv_Mg → Prop) : Nat → Int32 → Int32 → Int32 → Int32 → sv_Mg → Prop
  | 0, _, _, _, _, _ => False
  | n + 1, v1, v2, v3, v4, g => ((v4 < 0 → ∀ v3_10 : Int32, v3_10 = v3 + 1 → K54 v1 v2 v3_10 g) ∧ (¬ v4 < 0 → ∃ n_11, wp_X7_splits_73 F  Q K54 (wp_X7_splits_62 F Q K54 n) n_11 v1 v2 v3 v4 0 0 g))
def wp_X7_splits_54 (F : sv_Fr) (Q : Int32 → sv_Mg → Prop) : Nat → Int32 → Int32 → Int32 → sv_Mg → Prop
  | 0, _, _, _, _ => False
  | n + 1, v1, v2, v3, g => ((v2 ≤ v3 → vp_in v1 13 ∧ Q (g 63 v1.toNatClampNeg) g) ∧ (¬ v2 ≤ v3 → ∃ n_14, wp_X7_splits_62 F  Q (wp_X7_splits_54 F Q  n) n_14 v1 v2 v3 v1 g))
def wp_X7_splits_45 (F : sv_Fr) (Q : Int32 → sv_Mg → Prop) (K25 : Int32 → Int32 → Int32 → sv_Mg → Prop) (v1 : Int32) (v2 : Int32) (v3 : Int32) (s0 : Int32) (s1 : Int32) (g : sv_Mg) : Prop := vp_in s1 13 ∧ ∀ g_16, g_16 = sv_st g 63 s1.toNatClampNeg s0 → ∀ v3_17 : Int32, v3_17 = v3 + 1 → K25 v1 v2 v3_17 g_16
def wp_X7_splits_25 (F : sv_Fr) (Q : Int32 → sv_Mg → Prop) : Nat → Int32 → Int32 → Int32 → sv_Mg → Prop
  | 0, _, _, _, _ => False
  | n + 1, v1, v2, v3, g => ((13 ≤ v3 → ∃ n_19, wp_X7_splits_54 F  Q  n_19 v1 v2 0 g) ∧ (¬ 13 ≤ v3 → ((v3 = 0 → wp_X7_splits_45 F  Q (wp_X7_splits_25 F Q  n) v1 v2 v3 1 v3 g) ∧ (¬ v3 = 0 → wp_X7_splits_45 F  Q (wp_X7_splits_25 F Q  n) v1 v2 v3 0 v3 g))))
def wp_X7_splits (F : sv_Fr) (v1 : Int32) (v2 : Int32) (g : sv_Mg) (Q : Int32 → sv_Mg → Prop) : Prop := wp_X7_in F v1 0 12 g (fun r_22 g_21 => ((r_22 = 0 → Q (-1000000001) g_21) ∧ (¬ r_22 = 0 → wp_X7_in F v2 1 6 g_21 (fun r_25 g_24 => ((r_25 = 0 → Q (-1000000001) g_24) ∧ (¬ r_25 = 0 → ∃ n_27, wp_X7_splits_25 F  Q  n_27 v1 v2 0 g_24))))))
set_option maxRecDepth 100000 in
set_option maxHeartbeats 4000000 in
theorem aw_X7_splits_106 {x : sv_X} {b : Nat} {xt : sv_Xt} {F : sv_Fr} {Q : Int32 → sv_Mg → Prop} (G : sv_G x b xt RX7 cX7_splits 7) (RR : sv_R x 1 22 0 0) (T : sv_RT x (some .int)) (hL : sv_Lay F) {K54 : Int32 → Int32 → Int32 → sv_Mg → Prop} (hK54 : ∀ (v1 : Int32) (v2 : Int32) (v3 : Int32) (g : sv_Mg), K54 v1 v2 v3 g → sv_AW x (sv_Q x (sv_qI F Q) 0 0) F g 0 0 54 [(0, .ref (b + 58)), (1, .int v1), (2, .int v2), (3, .int v3)] []) {K62 : Int32 → Int32 → Int32 → Int32 → sv_Mg → Prop} (hK62 : ∀ (v1 : Int32) (v2 : Int32) (v3 : Int32) (v4 : Int32) (g : sv_Mg), K62 v1 v2 v3 v4 g → sv_AW x (sv_Q x (sv_qI F Q) 0 0) F g 0 0 62 [(0, .ref (b + 58)), (1, .int v1), (2, .int v2), (3, .int v3), (4, .int v4)] []) {K73 : Int32 → Int32 → Int32 → Int32 → Int32 → Int32 → sv_Mg → Prop} (hK73 : ∀ (v1 : Int32) (v2 : Int32) (v3 : Int32) (v4 : Int32) (v5 : Int32) (v6 : Int32) (g : sv_Mg), K73 v1 v2 v3 v4 v5 v6 g → sv_AW x (sv_Q x (sv_qI F Q) 0 0) F g 0 0 73 [(0, .ref (b + 58)), (1, .int v1), (2, .int v2), (3, .int v3), (4, .int v4), (5, .int v5), (6, .int v6)] []) : ∀ (v1 : Int32) (v2 : Int32) (v3 : Int32) (v4 : Int32) (v6 : Int32) (s0 : Int32) (s1 : Int32) (g : sv_Mg), wp_X7_splits_106 F Q K54 K62 K73 v1 v2 v3 v4 v6 s0 s1 g → sv_AW x (sv_Q x (sv_qI F Q) 0 0) F g 0 0 106 [(0, .ref (b + 58)), (1, .int v1), (2, .int v2), (3, .int v3), (4, .int v4), (6, .int v6)] [.int s0, .int s1] := by
  intro v1 v2 v3 v4 v6 s0 s1 g h
  unfold wp_X7_splits_106 at h
  refine sv_iadd (pc := 106) G dX7_splits_106 ?_
  refine sv_topi (fun v5_1 ev5_1 => ?_)
  have h := h v5_1 ev5_1
  refine sv_istore (pc := 107) G dX7_splits_107 [(5, .int v5_1), (0, .ref (b + 58)), (1, .int v1), (2, .int v2), (3, .int v3), (4, .int v4), (6, .int v6)] (by decide) rfl ?_
  obtain ⟨v6_2, ev6_2⟩ : ∃ y : Int32, y = v6 + 1 := ⟨_, rfl⟩
  have h := h v6_2 ev6_2
  refine sv_iinc (pc := 109) G dX7_splits_109 6 v6_2 [(6, .int v6_2), (5, .int v5_1), (0, .ref (b + 58)), (1, .int v1), (2, .int v2), (3, .int v3), (4, .int v4)] (by rw [ev6_2, ic_1]) rfl (by decide) rfl ?_
  refine sv_goto (pc := 112) G dX7_splits_112 73 (by decide) ?_
  refine sv_locs [2, 3, 4, 5, 6, 1, 0] [(0, .ref (b + 58)), (1, .int v1), (2, .int v2), (3, .int v3), (4, .int v4), (5, .int v5_1), (6, .int v6_2)] rfl ?_
  exact hK73 v1 v2 v3 v4 v5_1 v6_2 g  h
set_option maxRecDepth 100000 in
set_option maxHeartbeats 4000000 in
theorem aw_X7_splits_73 {x : sv_X} {b : Nat} {xt : sv_Xt} {F : sv_Fr} {Q : Int32 → sv_Mg → Prop} (G : sv_G x b xt RX7 cX7_splits 7) (RR : sv_R x 1 22 0 0) (T : sv_RT x (some .int)) (hL : sv_Lay F) {K54 : Int32 → Int32 → Int32 → sv_Mg → Prop} (hK54 : ∀ (v1 : Int32) (v2 : Int32) (v3 : Int32) (g : sv_Mg), K54 v1 v2 v3 g → sv_AW x (sv_Q x (sv_qI F Q) 0 0) F g 0 0 54 [(0, .ref (b + 58)), (1, .int v1), (2, .int v2), (3, .int v3)] []) {K62 : Int32 → Int32 → Int32 → Int32 → sv_Mg → Prop} (hK62 : ∀ (v1 : Int32) (v2 : Int32) (v3 : Int32) (v4 : Int32) (g : sv_Mg), K62 v1 v2 v3 v4 g → sv_AW x (sv_Q x (sv_qI F Q) 0 0) F g 0 0 62 [(0, .ref (b + 58)), (1, .int v1), (2, .int v2), (3, .int v3), (4, .int v4)] []) : ∀ (n : Nat) (v1 : Int32) (v2 : Int32) (v3 : Int32) (v4 : Int32) (v5 : Int32) (v6 : Int32) (g : sv_Mg), wp_X7_splits_73 F Q K54 K62 n v1 v2 v3 v4 v5 v6 g → sv_AW x (sv_Q x (sv_qI F Q) 0 0) F g 0 0 73 [(0, .ref (b + 58)), (1, .int v1), (2, .int v2), (3, .int v3), (4, .int v4), (5, .int v5), (6, .int v6)] [] := by
  intro n
  induction n with
  | zero => intro v1 v2 v3 v4 v5 v6 g h; exact h.elim
  | succ n ih =>
    intro v1 v2 v3 v4 v5 v6 g h
    rw [wp_X7_splits_73] at h
    refine sv_iload (pc := 73) G dX7_splits_73 6 rfl ?_
    refine sv_iload (pc := 75) G dX7_splits_75 4 rfl ?_
    refine sv_ic_gt (pc := 77) G 115 (by decide) dX7_splits_77 (fun c_3 => ?_) (fun c_3 => ?_)
    · have h := h.1 c_3
      refine sv_aload_n (pc := 115) G dX7_splits_115 0 rfl ?_
      refine sv_getR (pc := 116) G fw_X7_22 (hL.sh rfl) rfl (hL.rf 64 rfl) dX7_splits_116 ?_
      refine sv_iload (pc := 119) G dX7_splits_119 4 rfl ?_
      refine sv_iload (pc := 121) G dX7_splits_121 5 rfl ?_
      obtain ⟨s_4, h⟩ := h
      refine sv_iastK (pc := 123) G (hL.sh rfl) s_4 v4.toNatClampNeg rfl dX7_splits_123 (fun g_5 eg_5 => ?_)
      have h := h g_5 eg_5
      obtain ⟨v4_6, ev4_6⟩ : ∃ y : Int32, y = v4 + (-1) := ⟨_, rfl⟩
      have h := h v4_6 ev4_6
      refine sv_iinc (pc := 124) G dX7_splits_124 4 v4_6 [(4, .int v4_6), (0, .ref (b + 58)), (1, .int v1), (2, .int v2), (3, .int v3), (5, .int v5), (6, .int v6)] (by rw [ev4_6, ic_m1]) rfl (by decide) rfl ?_
      refine sv_goto (pc := 127) G dX7_splits_127 62 (by decide) ?_
      refine sv_locs [1, 2, 3, 4, 0] [(0, .ref (b + 58)), (1, .int v1), (2, .int v2), (3, .int v3), (4, .int v4_6)] rfl ?_
      exact hK62 v1 v2 v3 v4_6 g_5  h
    · have h := h.2 c_3
      refine sv_iload (pc := 80) G dX7_splits_80 5 rfl ?_
      refine sv_iconst (pc := 82) G dX7_splits_82 3 ic_3 ?_
      refine sv_iload (pc := 83) G dX7_splits_83 6 rfl ?_
      refine sv_imul (pc := 85) G dX7_splits_85 ?_
      refine sv_iconst (pc := 86) G dX7_splits_86 2 ic_2 ?_
      refine sv_iload_n (pc := 87) G dX7_splits_87 1 rfl ?_
      refine sv_imul (pc := 88) G dX7_splits_88 ?_
      refine sv_ic_ge (pc := 89) G 105 (by decide) dX7_splits_89 (fun c_7 => ?_) (fun c_7 => ?_)
      · have h := h.1 c_7
        refine sv_iconst (pc := 105) G dX7_splits_105 0 ic_0 ?_
        refine sv_locs [0, 1, 2, 3, 4, 6] [(0, .ref (b + 58)), (1, .int v1), (2, .int v2), (3, .int v3), (4, .int v4), (6, .int v6)] rfl ?_
        exact aw_X7_splits_106 G RR T hL  hK54 hK62 ih v1 v2 v3 v4 v6 0 v5 g  h
      · have h := h.2 c_7
        refine sv_aload_n (pc := 92) G dX7_splits_92 0 rfl ?_
        refine sv_getR (pc := 93) G fw_X7_22 (hL.sh rfl) rfl (hL.rf 64 rfl) dX7_splits_93 ?_
        refine sv_iload (pc := 96) G dX7_splits_96 4 rfl ?_
        refine sv_iload (pc := 98) G dX7_splits_98 6 rfl ?_
        refine sv_isub (pc := 100) G dX7_splits_100 ?_
        obtain ⟨s_8, h⟩ := h
        refine sv_ialdK (pc := 101) G (hL.sh rfl) s_8 (v4 - v6).toNatClampNeg rfl dX7_splits_101 ?_
        refine sv_goto (pc := 102) G dX7_splits_102 106 (by decide) ?_
        refine sv_locs [0, 1, 2, 3, 4, 6] [(0, .ref (b + 58)), (1, .int v1), (2, .int v2), (3, .int v3), (4, .int v4), (6, .int v6)] rfl ?_
        exact aw_X7_splits_106 G RR T hL  hK54 hK62 ih v1 v2 v3 v4 v6 (g 63 (v4 - v6).toNatClampNeg) v5 g  h
set_option maxRecDepth 100000 in
set_option maxHeartbeats 4000000 in
theorem aw_X7_splits_62 {x : sv_X} {b : Nat} {xt : sv_Xt} {F : sv_Fr} {Q : Int32 → sv_Mg → Prop} (G : sv_G x b xt RX7 cX7_splits 7) (RR : sv_R x 1 22 0 0) (T : sv_RT x (some .int)) (hL : sv_Lay F) {K54 : Int32 → Int32 → Int32 → sv_Mg → Prop} (hK54 : ∀ (v1 : Int32) (v2 : Int32) (v3 : Int32) (g : sv_Mg), K54 v1 v2 v3 g → sv_AW x (sv_Q x (sv_qI F Q) 0 0) F g 0 0 54 [(0, .ref (b + 58)), (1, .int v1), (2, .int v2), (3, .int v3)] []) : ∀ (n : Nat) (v1 : Int32) (v2 : Int32) (v3 : Int32) (v4 : Int32) (g : sv_Mg), wp_X7_splits_62 F Q K54 n v1 v2 v3 v4 g → sv_AW x (sv_Q x (sv_qI F Q) 0 0) F g 0 0 62 [(0, .ref (b + 58)), (1, .int v1), (2, .int v2), (3, .int v3), (4, .int v4)] [] := by
  intro n
  induction n with
  | zero => intro v1 v2 v3 v4 g h; exact h.elim
  | succ n ih =>
    intro v1 v2 v3 v4 g h
    rw [wp_X7_splits_62] at h
    refine sv_iload (pc := 62) G dX7_splits_62 4 rfl ?_
    refine sv_if_lt (pc := 64) G 130 (by decide) dX7_splits_64 (fun c_9 => ?_) (fun c_9 => ?_)
    · have h := h.1 c_9
      obtain ⟨v3_10, ev3_10⟩ : ∃ y : Int32, y = v3 + 1 := ⟨_, rfl⟩
      have h := h v3_10 ev3_10
      refine sv_iinc (pc := 130) G dX7_splits_130 3 v3_10 [(3, .int v3_10), (0, .ref (b + 58)), (1, .int v1), (2, .int v2), (4, .int v4)] (by rw [ev3_10, ic_1]) rfl (by decide) rfl ?_
      refine sv_goto (pc := 133) G dX7_splits_133 54 (by decide) ?_
      refine sv_locs [1, 2, 3, 0] [(0, .ref (b + 58)), (1, .int v1), (2, .int v2), (3, .int v3_10)] rfl ?_
      exact hK54 v1 v2 v3_10 g  h
    · have h := h.2 c_9
      refine sv_iconst (pc := 67) G dX7_splits_67 0 ic_0 ?_
      refine sv_istore (pc := 68) G dX7_splits_68 [(5, .int 0), (0, .ref (b + 58)), (1, .int v1), (2, .int v2), (3, .int v3), (4, .int v4)] (by decide) rfl ?_
      refine sv_iconst (pc := 70) G dX7_splits_70 0 ic_0 ?_
      refine sv_istore (pc := 71) G dX7_splits_71 [(6, .int 0), (5, .int 0), (0, .ref (b + 58)), (1, .int v1), (2, .int v2), (3, .int v3), (4, .int v4)] (by decide) rfl ?_
      refine sv_locs [2, 3, 4, 5, 6, 1, 0] [(0, .ref (b + 58)), (1, .int v1), (2, .int v2), (3, .int v3), (4, .int v4), (5, .int 0), (6, .int 0)] rfl ?_
      obtain ⟨n_11, h⟩ := h
      exact aw_X7_splits_73 G RR T hL  hK54 ih n_11 v1 v2 v3 v4 0 0 g  h
set_option maxRecDepth 100000 in
set_option maxHeartbeats 4000000 in
theorem aw_X7_splits_54 {x : sv_X} {b : Nat} {xt : sv_Xt} {F : sv_Fr} {Q : Int32 → sv_Mg → Prop} (G : sv_G x b xt RX7 cX7_splits 7) (RR : sv_R x 1 22 0 0) (T : sv_RT x (some .int)) (hL : sv_Lay F) : ∀ (n : Nat) (v1 : Int32) (v2 : Int32) (v3 : Int32) (g : sv_Mg), wp_X7_splits_54 F Q  n v1 v2 v3 g → sv_AW x (sv_Q x (sv_qI F Q) 0 0) F g 0 0 54 [(0, .ref (b + 58)), (1, .int v1), (2, .int v2), (3, .int v3)] [] := by
  intro n
  induction n with
  | zero => intro v1 v2 v3 g h; exact h.elim
  | succ n ih =>
    intro v1 v2 v3 g h
    rw [wp_X7_splits_54] at h
    refine sv_iload_n (pc := 54) G dX7_splits_54 3 rfl ?_
    refine sv_iload_n (pc := 55) G dX7_splits_55 2 rfl ?_
    refine sv_ic_ge (pc := 56) G 136 (by decide) dX7_splits_56 (fun c_12 => ?_) (fun c_12 => ?_)
    · have h := h.1 c_12
      refine sv_aload_n (pc := 136) G dX7_splits_136 0 rfl ?_
      refine sv_getR (pc := 137) G fw_X7_22 (hL.sh rfl) rfl (hL.rf 64 rfl) dX7_splits_137 ?_
      refine sv_iload_n (pc := 140) G dX7_splits_140 1 rfl ?_
      obtain ⟨s_13, h⟩ := h
      refine sv_ialdK (pc := 141) G (hL.sh rfl) s_13 v1.toNatClampNeg rfl dX7_splits_141 ?_
      exact sv_ireturn (pc := 142) G T ⟨(Nat.le_of_ble_eq_true rfl), (Nat.le_of_ble_eq_true rfl)⟩ dX7_splits_142 ⟨_, rfl, rfl, h⟩
    · have h := h.2 c_12
      refine sv_iload_n (pc := 59) G dX7_splits_59 1 rfl ?_
      refine sv_istore (pc := 60) G dX7_splits_60 [(4, .int v1), (0, .ref (b + 58)), (1, .int v1), (2, .int v2), (3, .int v3)] (by decide) rfl ?_
      refine sv_locs [1, 2, 3, 4, 0] [(0, .ref (b + 58)), (1, .int v1), (2, .int v2), (3, .int v3), (4, .int v1)] rfl ?_
      obtain ⟨n_14, h⟩ := h
      exact aw_X7_splits_62 G RR T hL  ih n_14 v1 v2 v3 v1 g  h
set_option maxRecDepth 100000 in
set_option maxHeartbeats 4000000 in
theorem aw_X7_splits_45 {x : sv_X} {b : Nat} {xt : sv_Xt} {F : sv_Fr} {Q : Int32 → sv_Mg → Prop} (G : sv_G x b xt RX7 cX7_splits 7) (RR : sv_R x 1 22 0 0) (T : sv_RT x (some .int)) (hL : sv_Lay F) {K25 : Int32 → Int32 → Int32 → sv_Mg → Prop} (hK25 : ∀ (v1 : Int32) (v2 : Int32) (v3 : Int32) (g : sv_Mg), K25 v1 v2 v3 g → sv_AW x (sv_Q x (sv_qI F Q) 0 0) F g 0 0 25 [(0, .ref (b + 58)), (1, .int v1), (2, .int v2), (3, .int v3)] []) : ∀ (v1 : Int32) (v2 : Int32) (v3 : Int32) (s0 : Int32) (s1 : Int32) (g : sv_Mg), wp_X7_splits_45 F Q K25 v1 v2 v3 s0 s1 g → sv_AW x (sv_Q x (sv_qI F Q) 0 0) F g 0 0 45 [(0, .ref (b + 58)), (1, .int v1), (2, .int v2), (3, .int v3)] [.int s0, .int s1, .ref (b + 63)] := by
  intro v1 v2 v3 s0 s1 g h
  unfold wp_X7_splits_45 at h
  obtain ⟨s_15, h⟩ := h
  refine sv_iastK (pc := 45) G (hL.sh rfl) s_15 s1.toNatClampNeg rfl dX7_splits_45 (fun g_16 eg_16 => ?_)
  have h := h g_16 eg_16
  obtain ⟨v3_17, ev3_17⟩ : ∃ y : Int32, y = v3 + 1 := ⟨_, rfl⟩
  have h := h v3_17 ev3_17
  refine sv_iinc (pc := 46) G dX7_splits_46 3 v3_17 [(3, .int v3_17), (0, .ref (b + 58)), (1, .int v1), (2, .int v2)] (by rw [ev3_17, ic_1]) rfl (by decide) rfl ?_
  refine sv_goto (pc := 49) G dX7_splits_49 25 (by decide) ?_
  refine sv_locs [1, 2, 3, 0] [(0, .ref (b + 58)), (1, .int v1), (2, .int v2), (3, .int v3_17)] rfl ?_
  exact hK25 v1 v2 v3_17 g_16  h
set_option maxRecDepth 100000 in
set_option maxHeartbeats 4000000 in
theorem aw_X7_splits_25 {x : sv_X} {b : Nat} {xt : sv_Xt} {F : sv_Fr} {Q : Int32 → sv_Mg → Prop} (G : sv_G x b xt RX7 cX7_splits 7) (RR : sv_R x 1 22 0 0) (T : sv_RT x (some .int)) (hL : sv_Lay F) : ∀ (n : Nat) (v1 : Int32) (v2 : Int32) (v3 : Int32) (g : sv_Mg), wp_X7_splits_25 F Q  n v1 v2 v3 g → sv_AW x (sv_Q x (sv_qI F Q) 0 0) F g 0 0 25 [(0, .ref (b + 58)), (1, .int v1), (2, .int v2), (3, .int v3)] [] := by
  intro n
  induction n with
  | zero => intro v1 v2 v3 g h; exact h.elim
  | succ n ih =>
    intro v1 v2 v3 g h
    rw [wp_X7_splits_25] at h
    refine sv_iload_n (pc := 25) G dX7_splits_25 3 rfl ?_
    refine sv_bipush (pc := 26) G dX7_splits_26 13 bp_13 ?_
    refine sv_ic_ge (pc := 28) G 52 (by decide) dX7_splits_28 (fun c_18 => ?_) (fun c_18 => ?_)
    · have h := h.1 c_18
      refine sv_iconst (pc := 52) G dX7_splits_52 0 ic_0 ?_
      refine sv_istore_n (pc := 53) G dX7_splits_53 [(3, .int 0), (0, .ref (b + 58)), (1, .int v1), (2, .int v2)] (by decide) rfl ?_
      refine sv_locs [1, 2, 3, 0] [(0, .ref (b + 58)), (1, .int v1), (2, .int v2), (3, .int 0)] rfl ?_
      obtain ⟨n_19, h⟩ := h
      exact aw_X7_splits_54 G RR T hL   n_19 v1 v2 0 g  h
    · have h := h.2 c_18
      refine sv_aload_n (pc := 31) G dX7_splits_31 0 rfl ?_
      refine sv_getR (pc := 32) G fw_X7_22 (hL.sh rfl) rfl (hL.rf 64 rfl) dX7_splits_32 ?_
      refine sv_iload_n (pc := 35) G dX7_splits_35 3 rfl ?_
      refine sv_iload_n (pc := 36) G dX7_splits_36 3 rfl ?_
      refine sv_if_ne (pc := 37) G 44 (by decide) dX7_splits_37 (fun c_20 => ?_) (fun c_20 => ?_)
      · have h := h.2 c_20
        refine sv_iconst (pc := 44) G dX7_splits_44 0 ic_0 ?_
        refine sv_locs [0, 1, 2, 3] [(0, .ref (b + 58)), (1, .int v1), (2, .int v2), (3, .int v3)] rfl ?_
        exact aw_X7_splits_45 G RR T hL  ih v1 v2 v3 0 v3 g  h
      · have h := h.1 c_20
        refine sv_iconst (pc := 40) G dX7_splits_40 1 ic_1 ?_
        refine sv_goto (pc := 41) G dX7_splits_41 45 (by decide) ?_
        refine sv_locs [0, 1, 2, 3] [(0, .ref (b + 58)), (1, .int v1), (2, .int v2), (3, .int v3)] rfl ?_
        exact aw_X7_splits_45 G RR T hL  ih v1 v2 v3 1 v3 g  h
set_option maxRecDepth 100000 in
set_option maxHeartbeats 4000000 in
theorem c_X7_splits {b : Nat} {xt : sv_Xt} {F : sv_Fr} {v1 : Int32} {v2 : Int32} {g : sv_Mg} {Q : Int32 → sv_Mg → Prop} (hL : sv_Lay F) (h : wp_X7_splits F v1 v2 g Q) : sv_Cal yX7_splits cX7_splits 7 (some .int) 1 22 0 0 b xt [.ref (b + 58), .int v1, .int v2] F g (sv_qI F Q) := by
  refine sv_intro mw_X7_splits [(0, .ref (b + 58)), (1, .int v1), (2, .int v2)] rfl (Nat.le_of_ble_eq_true rfl) (fun x G RR T NM => ?_)
  have G : sv_G x b xt RX7 cX7_splits 7 := G
  unfold wp_X7_splits at h
  refine sv_iload_n (pc := 0) G dX7_splits_0 1 rfl ?_
  refine sv_iconst (pc := 1) G dX7_splits_1 0 ic_0 ?_
  refine sv_bipush (pc := 2) G dX7_splits_2 12 bp_12 ?_
  refine sv_callS (cs := 0) (sl := 0) (st := []) (As := [.int v1, .int 0, .int 12]) (pc := 4) G RR (c_X7_in hL  h) mw_X7_in lk_X7_82 rfl ⟨(Nat.le_of_ble_eq_true rfl), (Nat.le_of_ble_eq_true rfl)⟩ ⟨(Nat.le_of_ble_eq_true rfl), (Nat.le_of_ble_eq_true rfl)⟩ (Nat.le_of_ble_eq_true rfl) rfl dX7_splits_4 (sv_kI (fun r_22 g_21 h => ?_))
  refine sv_if_eq (pc := 7) G 20 (by decide) dX7_splits_7 (fun c_23 => ?_) (fun c_23 => ?_)
  · have h := h.1 c_23
    refine sv_ldc (pc := 20) G dX7_splits_20 cn_X7_90 ?_
    exact sv_ireturn (pc := 22) G T ⟨(Nat.le_of_ble_eq_true rfl), (Nat.le_of_ble_eq_true rfl)⟩ dX7_splits_22 ⟨_, rfl, rfl, h⟩
  · have h := h.2 c_23
    refine sv_iload_n (pc := 10) G dX7_splits_10 2 rfl ?_
    refine sv_iconst (pc := 11) G dX7_splits_11 1 ic_1 ?_
    refine sv_bipush (pc := 12) G dX7_splits_12 6 bp_6 ?_
    refine sv_callS (cs := 0) (sl := 0) (st := []) (As := [.int v2, .int 1, .int 6]) (pc := 14) G RR (c_X7_in hL  h) mw_X7_in lk_X7_82 rfl ⟨(Nat.le_of_ble_eq_true rfl), (Nat.le_of_ble_eq_true rfl)⟩ ⟨(Nat.le_of_ble_eq_true rfl), (Nat.le_of_ble_eq_true rfl)⟩ (Nat.le_of_ble_eq_true rfl) rfl dX7_splits_14 (sv_kI (fun r_25 g_24 h => ?_))
    refine sv_if_ne (pc := 17) G 23 (by decide) dX7_splits_17 (fun c_26 => ?_) (fun c_26 => ?_)
    · have h := h.2 c_26
      refine sv_iconst (pc := 23) G dX7_splits_23 0 ic_0 ?_
      refine sv_istore_n (pc := 24) G dX7_splits_24 [(3, .int 0), (0, .ref (b + 58)), (1, .int v1), (2, .int v2)] (by decide) rfl ?_
      refine sv_locs [1, 2, 3, 0] [(0, .ref (b + 58)), (1, .int v1), (2, .int v2), (3, .int 0)] rfl ?_
      obtain ⟨n_27, h⟩ := h
      exact aw_X7_splits_25 G RR T hL   n_27 v1 v2 0 g_24  h
    · have h := h.1 c_26
      refine sv_ldc (pc := 20) G dX7_splits_20 cn_X7_90 ?_
      exact sv_ireturn (pc := 22) G T ⟨(Nat.le_of_ble_eq_true rfl), (Nat.le_of_ble_eq_true rfl)⟩ dX7_splits_22 ⟨_, rfl, rfl, h⟩
def wp_X7_thinks_2 (F : sv_Fr) (Q : sv_Mg → Prop) : Nat → Int32 → sv_Mg → Prop
  | 0, _, _ => False
  | n + 1, v1, g => ((71 ≤ v1 → Q g) ∧ (¬ 71 ≤ v1 → vp_in v1 1443 ∧ vp_in v1 71 ∧ ∀ g_4, g_4 = sv_st g 64 v1.toNatClampNeg (g 59 v1.toNatClampNeg) → ∀ v1_5 : Int32, v1_5 = v1 + 1 → (wp_X7_thinks_2 F Q  n) v1_5 g_4))
def wp_X7_thinks (F : sv_Fr) (g : sv_Mg) (Q : sv_Mg → Prop) : Prop := ∃ n_6, wp_X7_thinks_2 F  Q  n_6 0 g
set_option maxRecDepth 100000 in
set_option maxHeartbeats 4000000 in
theorem aw_X7_thinks_2 {x : sv_X} {b : Nat} {xt : sv_Xt} {F : sv_Fr} {Q : sv_Mg → Prop} (G : sv_G x b xt RX7 cX7_thinks 2) (RR : sv_R x 0 0 0 0) (T : sv_RT x none) (hL : sv_Lay F) : ∀ (n : Nat) (v1 : Int32) (g : sv_Mg), wp_X7_thinks_2 F Q  n v1 g → sv_AW x (sv_Q x (sv_qV F Q) 0 0) F g 0 0 2 [(0, .ref (b + 58)), (1, .int v1)] [] := by
  intro n
  induction n with
  | zero => intro v1 g h; exact h.elim
  | succ n ih =>
    intro v1 g h
    rw [wp_X7_thinks_2] at h
    refine sv_iload_n (pc := 2) G dX7_thinks_2 1 rfl ?_
    refine sv_bipush (pc := 3) G dX7_thinks_3 71 bp_71 ?_
    refine sv_ic_ge (pc := 5) G 26 (by decide) dX7_thinks_5 (fun c_1 => ?_) (fun c_1 => ?_)
    · have h := h.1 c_1
      exact sv_vreturn (pc := 26) G T ⟨(Nat.le_of_ble_eq_true rfl), (Nat.le_of_ble_eq_true rfl)⟩ dX7_thinks_26 ⟨rfl, rfl, h⟩
    · have h := h.2 c_1
      refine sv_aload_n (pc := 8) G dX7_thinks_8 0 rfl ?_
      refine sv_getR (pc := 9) G fw_X7_25 (hL.sh rfl) rfl (hL.rf 65 rfl) dX7_thinks_9 ?_
      refine sv_iload_n (pc := 12) G dX7_thinks_12 1 rfl ?_
      refine sv_aload_n (pc := 13) G dX7_thinks_13 0 rfl ?_
      refine sv_getR (pc := 14) G fw_X7_9 (hL.sh rfl) rfl (hL.rf 60 rfl) dX7_thinks_14 ?_
      refine sv_iload_n (pc := 17) G dX7_thinks_17 1 rfl ?_
      obtain ⟨s_2, h⟩ := h
      refine sv_ialdK (pc := 18) G (hL.sh rfl) s_2 v1.toNatClampNeg rfl dX7_thinks_18 ?_
      obtain ⟨s_3, h⟩ := h
      refine sv_iastK (pc := 19) G (hL.sh rfl) s_3 v1.toNatClampNeg rfl dX7_thinks_19 (fun g_4 eg_4 => ?_)
      have h := h g_4 eg_4
      obtain ⟨v1_5, ev1_5⟩ : ∃ y : Int32, y = v1 + 1 := ⟨_, rfl⟩
      have h := h v1_5 ev1_5
      refine sv_iinc (pc := 20) G dX7_thinks_20 1 v1_5 [(1, .int v1_5), (0, .ref (b + 58))] (by rw [ev1_5, ic_1]) rfl (by decide) rfl ?_
      refine sv_goto (pc := 23) G dX7_thinks_23 2 (by decide) ?_
      refine sv_locs [1, 0] [(0, .ref (b + 58)), (1, .int v1_5)] rfl ?_
      exact ih v1_5 g_4  h
set_option maxRecDepth 100000 in
set_option maxHeartbeats 4000000 in
theorem c_X7_thinks {b : Nat} {xt : sv_Xt} {F : sv_Fr} {g : sv_Mg} {Q : sv_Mg → Prop} (hL : sv_Lay F) (h : wp_X7_thinks F g Q) : sv_Cal yX7_thinks cX7_thinks 2 none 0 0 0 0 b xt [.ref (b + 58)] F g (sv_qV F Q) := by
  refine sv_intro mw_X7_thinks [(0, .ref (b + 58))] rfl (Nat.le_of_ble_eq_true rfl) (fun x G RR T NM => ?_)
  have G : sv_G x b xt RX7 cX7_thinks 2 := G
  unfold wp_X7_thinks at h
  refine sv_iconst (pc := 0) G dX7_thinks_0 0 ic_0 ?_
  refine sv_istore_n (pc := 1) G dX7_thinks_1 [(1, .int 0), (0, .ref (b + 58))] (by decide) rfl ?_
  refine sv_locs [1, 0] [(0, .ref (b + 58)), (1, .int 0)] rfl ?_
  obtain ⟨n_6, h⟩ := h
  exact aw_X7_thinks_2 G RR T hL   n_6 0 g  h
def wp_X7_putsBack_2 (F : sv_Fr) (Q : sv_Mg → Prop) : Nat → Int32 → sv_Mg → Prop
  | 0, _, _ => False
  | n + 1, v1, g => ((71 ≤ v1 → Q g) ∧ (¬ 71 ≤ v1 → vp_in v1 71 ∧ vp_in v1 1443 ∧ ∀ g_4, g_4 = sv_st g 59 v1.toNatClampNeg (g 64 v1.toNatClampNeg) → ∀ v1_5 : Int32, v1_5 = v1 + 1 → (wp_X7_putsBack_2 F Q  n) v1_5 g_4))
def wp_X7_putsBack (F : sv_Fr) (g : sv_Mg) (Q : sv_Mg → Prop) : Prop := ∃ n_6, wp_X7_putsBack_2 F  Q  n_6 0 g
set_option maxRecDepth 100000 in
set_option maxHeartbeats 4000000 in
theorem aw_X7_putsBack_2 {x : sv_X} {b : Nat} {xt : sv_Xt} {F : sv_Fr} {Q : sv_Mg → Prop} (G : sv_G x b xt RX7 cX7_putsBack 2) (RR : sv_R x 0 0 0 0) (T : sv_RT x none) (hL : sv_Lay F) : ∀ (n : Nat) (v1 : Int32) (g : sv_Mg), wp_X7_putsBack_2 F Q  n v1 g → sv_AW x (sv_Q x (sv_qV F Q) 0 0) F g 0 0 2 [(0, .ref (b + 58)), (1, .int v1)] [] := by
  intro n
  induction n with
  | zero => intro v1 g h; exact h.elim
  | succ n ih =>
    intro v1 g h
    rw [wp_X7_putsBack_2] at h
    refine sv_iload_n (pc := 2) G dX7_putsBack_2 1 rfl ?_
    refine sv_bipush (pc := 3) G dX7_putsBack_3 71 bp_71 ?_
    refine sv_ic_ge (pc := 5) G 26 (by decide) dX7_putsBack_5 (fun c_1 => ?_) (fun c_1 => ?_)
    · have h := h.1 c_1
      exact sv_vreturn (pc := 26) G T ⟨(Nat.le_of_ble_eq_true rfl), (Nat.le_of_ble_eq_true rfl)⟩ dX7_putsBack_26 ⟨rfl, rfl, h⟩
    · have h := h.2 c_1
      refine sv_aload_n (pc := 8) G dX7_putsBack_8 0 rfl ?_
      refine sv_getR (pc := 9) G fw_X7_9 (hL.sh rfl) rfl (hL.rf 60 rfl) dX7_putsBack_9 ?_
      refine sv_iload_n (pc := 12) G dX7_putsBack_12 1 rfl ?_
      refine sv_aload_n (pc := 13) G dX7_putsBack_13 0 rfl ?_
      refine sv_getR (pc := 14) G fw_X7_25 (hL.sh rfl) rfl (hL.rf 65 rfl) dX7_putsBack_14 ?_
      refine sv_iload_n (pc := 17) G dX7_putsBack_17 1 rfl ?_
      obtain ⟨s_2, h⟩ := h
      refine sv_ialdK (pc := 18) G (hL.sh rfl) s_2 v1.toNatClampNeg rfl dX7_putsBack_18 ?_
      obtain ⟨s_3, h⟩ := h
      refine sv_iastK (pc := 19) G (hL.sh rfl) s_3 v1.toNatClampNeg rfl dX7_putsBack_19 (fun g_4 eg_4 => ?_)
      have h := h g_4 eg_4
      obtain ⟨v1_5, ev1_5⟩ : ∃ y : Int32, y = v1 + 1 := ⟨_, rfl⟩
      have h := h v1_5 ev1_5
      refine sv_iinc (pc := 20) G dX7_putsBack_20 1 v1_5 [(1, .int v1_5), (0, .ref (b + 58))] (by rw [ev1_5, ic_1]) rfl (by decide) rfl ?_
      refine sv_goto (pc := 23) G dX7_putsBack_23 2 (by decide) ?_
      refine sv_locs [1, 0] [(0, .ref (b + 58)), (1, .int v1_5)] rfl ?_
      exact ih v1_5 g_4  h
set_option maxRecDepth 100000 in
set_option maxHeartbeats 4000000 in
theorem c_X7_putsBack {b : Nat} {xt : sv_Xt} {F : sv_Fr} {g : sv_Mg} {Q : sv_Mg → Prop} (hL : sv_Lay F) (h : wp_X7_putsBack F g Q) : sv_Cal yX7_putsBack cX7_putsBack 2 none 0 0 0 0 b xt [.ref (b + 58)] F g (sv_qV F Q) := by
  refine sv_intro mw_X7_putsBack [(0, .ref (b + 58))] rfl (Nat.le_of_ble_eq_true rfl) (fun x G RR T NM => ?_)
  have G : sv_G x b xt RX7 cX7_putsBack 2 := G
  unfold wp_X7_putsBack at h
  refine sv_iconst (pc := 0) G dX7_putsBack_0 0 ic_0 ?_
  refine sv_istore_n (pc := 1) G dX7_putsBack_1 [(1, .int 0), (0, .ref (b + 58))] (by decide) rfl ?_
  refine sv_locs [1, 0] [(0, .ref (b + 58)), (1, .int 0)] rfl ?_
  obtain ⟨n_6, h⟩ := h
  exact aw_X7_putsBack_2 G RR T hL   n_6 0 g  h
def wp_X7_mostHad (F : sv_Fr) (g : sv_Mg) (Q : Int32 → sv_Mg → Prop) : Prop := wp_X7_leader F  g (fun r_2 g_1 => ((0 ≤ r_2 → wp_X7_has F r_2 g_1 (fun r_5 g_4 => Q r_5 g_4)) ∧ (¬ 0 ≤ r_2 → Q 0 g_1)))
set_option maxRecDepth 100000 in
set_option maxHeartbeats 4000000 in
theorem c_X7_mostHad {b : Nat} {xt : sv_Xt} {F : sv_Fr} {g : sv_Mg} {Q : Int32 → sv_Mg → Prop} (hL : sv_Lay F) (h : wp_X7_mostHad F g Q) : sv_Cal yX7_mostHad cX7_mostHad 2 (some .int) 5 110 0 0 b xt [.ref (b + 58)] F g (sv_qI F Q) := by
  refine sv_intro mw_X7_mostHad [(0, .ref (b + 58))] rfl (Nat.le_of_ble_eq_true rfl) (fun x G RR T NM => ?_)
  have G : sv_G x b xt RX7 cX7_mostHad 2 := G
  unfold wp_X7_mostHad at h
  refine sv_aload_n (pc := 0) G dX7_mostHad_0 0 rfl ?_
  refine sv_callV (cs := 0) (sl := 0) (st := []) (As := []) (a := 58) (pc := 1) G RR (c_X7_leader hL  h) mw_X7_leader lk_X7_174 (hL.sh rfl) (by decide) rfl rfl ⟨(Nat.le_of_ble_eq_true rfl), (Nat.le_of_ble_eq_true rfl)⟩ ⟨(Nat.le_of_ble_eq_true rfl), (Nat.le_of_ble_eq_true rfl)⟩ (Nat.le_of_ble_eq_true rfl) rfl dX7_mostHad_1 (sv_kI (fun r_2 g_1 h => ?_))
  refine sv_istore_n (pc := 4) G dX7_mostHad_4 [(1, .int r_2), (0, .ref (b + 58))] (by decide) rfl ?_
  refine sv_iload_n (pc := 5) G dX7_mostHad_5 0 rfl ?_
  refine sv_if_ge (pc := 6) G 13 (by decide) dX7_mostHad_6 (fun c_3 => ?_) (fun c_3 => ?_)
  · have h := h.1 c_3
    refine sv_aload_n (pc := 13) G dX7_mostHad_13 1 rfl ?_
    refine sv_iload_n (pc := 14) G dX7_mostHad_14 0 rfl ?_
    refine sv_callV (cs := 0) (sl := 0) (st := []) (As := [.int r_2]) (a := 58) (pc := 15) G RR (c_X7_has hL  h) mw_X7_has lk_X7_104 (hL.sh rfl) (by decide) rfl rfl ⟨(Nat.le_of_ble_eq_true rfl), (Nat.le_of_ble_eq_true rfl)⟩ ⟨(Nat.le_of_ble_eq_true rfl), (Nat.le_of_ble_eq_true rfl)⟩ (Nat.le_of_ble_eq_true rfl) rfl dX7_mostHad_15 (sv_kI (fun r_5 g_4 h => ?_))
    exact sv_ireturn (pc := 18) G T ⟨(Nat.le_of_ble_eq_true rfl), (Nat.le_of_ble_eq_true rfl)⟩ dX7_mostHad_18 ⟨_, rfl, rfl, h⟩
  · have h := h.2 c_3
    refine sv_iconst (pc := 9) G dX7_mostHad_9 0 ic_0 ?_
    refine sv_goto (pc := 10) G dX7_mostHad_10 18 (by decide) ?_
    exact sv_ireturn (pc := 18) G T ⟨(Nat.le_of_ble_eq_true rfl), (Nat.le_of_ble_eq_true rfl)⟩ dX7_mostHad_18 ⟨_, rfl, rfl, h⟩
def wp_X7_behind_32 (F : sv_Fr) (Q : Int32 → sv_Mg → Prop) (v1 : Int32) (v2 : Int32) (g : sv_Mg) : Prop := wp_X7_thinks F  g (fun g_1 => wp_X7_goesOn F v1 g_1 (fun g_2 => ((v2 = 0 → ∀ v3_14 : Int32, v3_14 = (g_2 59 7) → wp_X7_putsBack F  g_2 (fun g_15 => Q v3_14 g_15)) ∧ (¬ v2 = 0 → ((v2 = 1 → wp_X7_mostHad F  g_2 (fun r_12 g_11 => wp_X7_putsBack F  g_11 (fun g_13 => Q r_12 g_13))) ∧ (¬ v2 = 1 → ((v2 = 2 → ∀ v3_9 : Int32, v3_9 = (g_2 59 8) → wp_X7_putsBack F  g_2 (fun g_10 => Q v3_9 g_10)) ∧ (¬ v2 = 2 → wp_X7_of F (v2 - 3) 5 g_2 (fun r_7 g_6 => wp_X7_putsBack F  g_6 (fun g_8 => Q r_7 g_8))))))))))
def wp_X7_behind (F : sv_Fr) (v1 : Int32) (v2 : Int32) (g : sv_Mg) (Q : Int32 → sv_Mg → Prop) : Prop := wp_X7_in F v1 0 100 g (fun r_17 g_16 => ((r_17 = 0 → Q (-1000000001) g_16) ∧ (¬ r_17 = 0 → ((v2 < 0 → Q (-1000000001) g_16) ∧ (¬ v2 < 0 → ((v2 ≤ 2 → wp_X7_behind_32 F  Q  v1 v2 g_16) ∧ (¬ v2 ≤ 2 → wp_X7_isVoter F (v2 - 3) g_16 (fun r_22 g_21 => ((r_22 = 0 → Q (-1000000001) g_21) ∧ (¬ r_22 = 0 → wp_X7_behind_32 F  Q  v1 v2 g_21))))))))))
set_option maxRecDepth 100000 in
set_option maxHeartbeats 4000000 in
theorem aw_X7_behind_32 {x : sv_X} {b : Nat} {xt : sv_Xt} {F : sv_Fr} {Q : Int32 → sv_Mg → Prop} (G : sv_G x b xt RX7 cX7_behind 4) (RR : sv_R x 10 222 0 0) (T : sv_RT x (some .int)) (hL : sv_Lay F) : ∀ (v1 : Int32) (v2 : Int32) (g : sv_Mg), wp_X7_behind_32 F Q  v1 v2 g → sv_AW x (sv_Q x (sv_qI F Q) 0 0) F g 0 0 32 [(0, .ref (b + 58)), (1, .int v1), (2, .int v2)] [] := by
  intro v1 v2 g h
  unfold wp_X7_behind_32 at h
  refine sv_aload_n (pc := 32) G dX7_behind_32 0 rfl ?_
  refine sv_callV (cs := 0) (sl := 0) (st := []) (As := []) (a := 58) (pc := 33) G RR (c_X7_thinks hL  h) mw_X7_thinks lk_X7_180 (hL.sh rfl) (by decide) rfl rfl ⟨(Nat.le_of_ble_eq_true rfl), (Nat.le_of_ble_eq_true rfl)⟩ ⟨(Nat.le_of_ble_eq_true rfl), (Nat.le_of_ble_eq_true rfl)⟩ (Nat.le_of_ble_eq_true rfl) rfl dX7_behind_33 (sv_kV (fun g_1 h => ?_))
  refine sv_aload_n (pc := 36) G dX7_behind_36 0 rfl ?_
  refine sv_iload_n (pc := 37) G dX7_behind_37 1 rfl ?_
  refine sv_callV (cs := 0) (sl := 0) (st := []) (As := [.int v1]) (a := 58) (pc := 38) G RR (c_X7_goesOn hL  h) mw_X7_goesOn lk_X7_170 (hL.sh rfl) (by decide) rfl rfl ⟨(Nat.le_of_ble_eq_true rfl), (Nat.le_of_ble_eq_true rfl)⟩ ⟨(Nat.le_of_ble_eq_true rfl), (Nat.le_of_ble_eq_true rfl)⟩ (Nat.le_of_ble_eq_true rfl) rfl dX7_behind_38 (sv_kV (fun g_2 h => ?_))
  refine sv_iload_n (pc := 41) G dX7_behind_41 2 rfl ?_
  refine sv_if_ne (pc := 42) G 55 (by decide) dX7_behind_42 (fun c_3 => ?_) (fun c_3 => ?_)
  · have h := h.2 c_3
    refine sv_iload_n (pc := 55) G dX7_behind_55 2 rfl ?_
    refine sv_iconst (pc := 56) G dX7_behind_56 1 ic_1 ?_
    refine sv_ic_ne (pc := 57) G 67 (by decide) dX7_behind_57 (fun c_4 => ?_) (fun c_4 => ?_)
    · have h := h.2 c_4
      refine sv_iload_n (pc := 67) G dX7_behind_67 2 rfl ?_
      refine sv_iconst (pc := 68) G dX7_behind_68 2 ic_2 ?_
      refine sv_ic_ne (pc := 69) G 82 (by decide) dX7_behind_69 (fun c_5 => ?_) (fun c_5 => ?_)
      · have h := h.2 c_5
        refine sv_aload_n (pc := 82) G dX7_behind_82 0 rfl ?_
        refine sv_iload_n (pc := 83) G dX7_behind_83 2 rfl ?_
        refine sv_iconst (pc := 84) G dX7_behind_84 3 ic_3 ?_
        refine sv_isub (pc := 85) G dX7_behind_85 ?_
        refine sv_iconst (pc := 86) G dX7_behind_86 5 ic_5 ?_
        refine sv_callV (cs := 0) (sl := 0) (st := []) (As := [.int (v2 - 3), .int 5]) (a := 58) (pc := 87) G RR (c_X7_of hL  h) mw_X7_of lk_X7_96 (hL.sh rfl) (by decide) rfl rfl ⟨(Nat.le_of_ble_eq_true rfl), (Nat.le_of_ble_eq_true rfl)⟩ ⟨(Nat.le_of_ble_eq_true rfl), (Nat.le_of_ble_eq_true rfl)⟩ (Nat.le_of_ble_eq_true rfl) rfl dX7_behind_87 (sv_kI (fun r_7 g_6 h => ?_))
        refine sv_istore_n (pc := 90) G dX7_behind_90 [(3, .int r_7), (0, .ref (b + 58)), (1, .int v1), (2, .int v2)] (by decide) rfl ?_
        refine sv_aload_n (pc := 91) G dX7_behind_91 1 rfl ?_
        refine sv_callV (cs := 0) (sl := 0) (st := []) (As := []) (a := 58) (pc := 92) G RR (c_X7_putsBack hL  h) mw_X7_putsBack lk_X7_186 (hL.sh rfl) (by decide) rfl rfl ⟨(Nat.le_of_ble_eq_true rfl), (Nat.le_of_ble_eq_true rfl)⟩ ⟨(Nat.le_of_ble_eq_true rfl), (Nat.le_of_ble_eq_true rfl)⟩ (Nat.le_of_ble_eq_true rfl) rfl dX7_behind_92 (sv_kV (fun g_8 h => ?_))
        refine sv_iload_n (pc := 95) G dX7_behind_95 0 rfl ?_
        exact sv_ireturn (pc := 96) G T ⟨(Nat.le_of_ble_eq_true rfl), (Nat.le_of_ble_eq_true rfl)⟩ dX7_behind_96 ⟨_, rfl, rfl, h⟩
      · have h := h.1 c_5
        refine sv_aload_n (pc := 72) G dX7_behind_72 0 rfl ?_
        refine sv_getR (pc := 73) G fw_X7_9 (hL.sh rfl) rfl (hL.rf 60 rfl) dX7_behind_73 ?_
        refine sv_bipush (pc := 76) G dX7_behind_76 8 bp_8 ?_
        refine sv_ialdK (pc := 78) G (hL.sh rfl) vi_8_1443 8 tn_8 dX7_behind_78 ?_
        refine sv_goto (pc := 79) G dX7_behind_79 90 (by decide) ?_
        refine sv_topi (fun v3_9 ev3_9 => ?_)
        have h := h v3_9 ev3_9
        refine sv_istore_n (pc := 90) G dX7_behind_90 [(3, .int v3_9), (0, .ref (b + 58)), (1, .int v1), (2, .int v2)] (by decide) rfl ?_
        refine sv_aload_n (pc := 91) G dX7_behind_91 1 rfl ?_
        refine sv_callV (cs := 0) (sl := 0) (st := []) (As := []) (a := 58) (pc := 92) G RR (c_X7_putsBack hL  h) mw_X7_putsBack lk_X7_186 (hL.sh rfl) (by decide) rfl rfl ⟨(Nat.le_of_ble_eq_true rfl), (Nat.le_of_ble_eq_true rfl)⟩ ⟨(Nat.le_of_ble_eq_true rfl), (Nat.le_of_ble_eq_true rfl)⟩ (Nat.le_of_ble_eq_true rfl) rfl dX7_behind_92 (sv_kV (fun g_10 h => ?_))
        refine sv_iload_n (pc := 95) G dX7_behind_95 0 rfl ?_
        exact sv_ireturn (pc := 96) G T ⟨(Nat.le_of_ble_eq_true rfl), (Nat.le_of_ble_eq_true rfl)⟩ dX7_behind_96 ⟨_, rfl, rfl, h⟩
    · have h := h.1 c_4
      refine sv_aload_n (pc := 60) G dX7_behind_60 0 rfl ?_
      refine sv_callV (cs := 0) (sl := 0) (st := []) (As := []) (a := 58) (pc := 61) G RR (c_X7_mostHad hL  h) mw_X7_mostHad lk_X7_183 (hL.sh rfl) (by decide) rfl rfl ⟨(Nat.le_of_ble_eq_true rfl), (Nat.le_of_ble_eq_true rfl)⟩ ⟨(Nat.le_of_ble_eq_true rfl), (Nat.le_of_ble_eq_true rfl)⟩ (Nat.le_of_ble_eq_true rfl) rfl dX7_behind_61 (sv_kI (fun r_12 g_11 h => ?_))
      refine sv_goto (pc := 64) G dX7_behind_64 90 (by decide) ?_
      refine sv_istore_n (pc := 90) G dX7_behind_90 [(3, .int r_12), (0, .ref (b + 58)), (1, .int v1), (2, .int v2)] (by decide) rfl ?_
      refine sv_aload_n (pc := 91) G dX7_behind_91 1 rfl ?_
      refine sv_callV (cs := 0) (sl := 0) (st := []) (As := []) (a := 58) (pc := 92) G RR (c_X7_putsBack hL  h) mw_X7_putsBack lk_X7_186 (hL.sh rfl) (by decide) rfl rfl ⟨(Nat.le_of_ble_eq_true rfl), (Nat.le_of_ble_eq_true rfl)⟩ ⟨(Nat.le_of_ble_eq_true rfl), (Nat.le_of_ble_eq_true rfl)⟩ (Nat.le_of_ble_eq_true rfl) rfl dX7_behind_92 (sv_kV (fun g_13 h => ?_))
      refine sv_iload_n (pc := 95) G dX7_behind_95 0 rfl ?_
      exact sv_ireturn (pc := 96) G T ⟨(Nat.le_of_ble_eq_true rfl), (Nat.le_of_ble_eq_true rfl)⟩ dX7_behind_96 ⟨_, rfl, rfl, h⟩
  · have h := h.1 c_3
    refine sv_aload_n (pc := 45) G dX7_behind_45 0 rfl ?_
    refine sv_getR (pc := 46) G fw_X7_9 (hL.sh rfl) rfl (hL.rf 60 rfl) dX7_behind_46 ?_
    refine sv_bipush (pc := 49) G dX7_behind_49 7 bp_7 ?_
    refine sv_ialdK (pc := 51) G (hL.sh rfl) vi_7_1443 7 tn_7 dX7_behind_51 ?_
    refine sv_goto (pc := 52) G dX7_behind_52 90 (by decide) ?_
    refine sv_topi (fun v3_14 ev3_14 => ?_)
    have h := h v3_14 ev3_14
    refine sv_istore_n (pc := 90) G dX7_behind_90 [(3, .int v3_14), (0, .ref (b + 58)), (1, .int v1), (2, .int v2)] (by decide) rfl ?_
    refine sv_aload_n (pc := 91) G dX7_behind_91 1 rfl ?_
    refine sv_callV (cs := 0) (sl := 0) (st := []) (As := []) (a := 58) (pc := 92) G RR (c_X7_putsBack hL  h) mw_X7_putsBack lk_X7_186 (hL.sh rfl) (by decide) rfl rfl ⟨(Nat.le_of_ble_eq_true rfl), (Nat.le_of_ble_eq_true rfl)⟩ ⟨(Nat.le_of_ble_eq_true rfl), (Nat.le_of_ble_eq_true rfl)⟩ (Nat.le_of_ble_eq_true rfl) rfl dX7_behind_92 (sv_kV (fun g_15 h => ?_))
    refine sv_iload_n (pc := 95) G dX7_behind_95 0 rfl ?_
    exact sv_ireturn (pc := 96) G T ⟨(Nat.le_of_ble_eq_true rfl), (Nat.le_of_ble_eq_true rfl)⟩ dX7_behind_96 ⟨_, rfl, rfl, h⟩
set_option maxRecDepth 100000 in
set_option maxHeartbeats 4000000 in
theorem c_X7_behind {b : Nat} {xt : sv_Xt} {F : sv_Fr} {v1 : Int32} {v2 : Int32} {g : sv_Mg} {Q : Int32 → sv_Mg → Prop} (hL : sv_Lay F) (h : wp_X7_behind F v1 v2 g Q) : sv_Cal yX7_behind cX7_behind 4 (some .int) 10 222 0 0 b xt [.ref (b + 58), .int v1, .int v2] F g (sv_qI F Q) := by
  refine sv_intro mw_X7_behind [(0, .ref (b + 58)), (1, .int v1), (2, .int v2)] rfl (Nat.le_of_ble_eq_true rfl) (fun x G RR T NM => ?_)
  have G : sv_G x b xt RX7 cX7_behind 4 := G
  unfold wp_X7_behind at h
  refine sv_iload_n (pc := 0) G dX7_behind_0 1 rfl ?_
  refine sv_iconst (pc := 1) G dX7_behind_1 0 ic_0 ?_
  refine sv_bipush (pc := 2) G dX7_behind_2 100 bp_100 ?_
  refine sv_callS (cs := 0) (sl := 0) (st := []) (As := [.int v1, .int 0, .int 100]) (pc := 4) G RR (c_X7_in hL  h) mw_X7_in lk_X7_82 rfl ⟨(Nat.le_of_ble_eq_true rfl), (Nat.le_of_ble_eq_true rfl)⟩ ⟨(Nat.le_of_ble_eq_true rfl), (Nat.le_of_ble_eq_true rfl)⟩ (Nat.le_of_ble_eq_true rfl) rfl dX7_behind_4 (sv_kI (fun r_17 g_16 h => ?_))
  refine sv_if_eq (pc := 7) G 29 (by decide) dX7_behind_7 (fun c_18 => ?_) (fun c_18 => ?_)
  · have h := h.1 c_18
    refine sv_ldc (pc := 29) G dX7_behind_29 cn_X7_90 ?_
    exact sv_ireturn (pc := 31) G T ⟨(Nat.le_of_ble_eq_true rfl), (Nat.le_of_ble_eq_true rfl)⟩ dX7_behind_31 ⟨_, rfl, rfl, h⟩
  · have h := h.2 c_18
    refine sv_iload_n (pc := 10) G dX7_behind_10 2 rfl ?_
    refine sv_if_lt (pc := 11) G 29 (by decide) dX7_behind_11 (fun c_19 => ?_) (fun c_19 => ?_)
    · have h := h.1 c_19
      refine sv_ldc (pc := 29) G dX7_behind_29 cn_X7_90 ?_
      exact sv_ireturn (pc := 31) G T ⟨(Nat.le_of_ble_eq_true rfl), (Nat.le_of_ble_eq_true rfl)⟩ dX7_behind_31 ⟨_, rfl, rfl, h⟩
    · have h := h.2 c_19
      refine sv_iload_n (pc := 14) G dX7_behind_14 2 rfl ?_
      refine sv_iconst (pc := 15) G dX7_behind_15 2 ic_2 ?_
      refine sv_ic_le (pc := 16) G 32 (by decide) dX7_behind_16 (fun c_20 => ?_) (fun c_20 => ?_)
      · have h := h.1 c_20
        refine sv_locs [0, 1, 2] [(0, .ref (b + 58)), (1, .int v1), (2, .int v2)] rfl ?_
        exact aw_X7_behind_32 G RR T hL   v1 v2 g_16  h
      · have h := h.2 c_20
        refine sv_aload_n (pc := 19) G dX7_behind_19 0 rfl ?_
        refine sv_iload_n (pc := 20) G dX7_behind_20 2 rfl ?_
        refine sv_iconst (pc := 21) G dX7_behind_21 3 ic_3 ?_
        refine sv_isub (pc := 22) G dX7_behind_22 ?_
        refine sv_callV (cs := 0) (sl := 0) (st := []) (As := [.int (v2 - 3)]) (a := 58) (pc := 23) G RR (c_X7_isVoter hL  h) mw_X7_isVoter lk_X7_139 (hL.sh rfl) (by decide) rfl rfl ⟨(Nat.le_of_ble_eq_true rfl), (Nat.le_of_ble_eq_true rfl)⟩ ⟨(Nat.le_of_ble_eq_true rfl), (Nat.le_of_ble_eq_true rfl)⟩ (Nat.le_of_ble_eq_true rfl) rfl dX7_behind_23 (sv_kI (fun r_22 g_21 h => ?_))
        refine sv_if_ne (pc := 26) G 32 (by decide) dX7_behind_26 (fun c_23 => ?_) (fun c_23 => ?_)
        · have h := h.2 c_23
          refine sv_locs [0, 1, 2] [(0, .ref (b + 58)), (1, .int v1), (2, .int v2)] rfl ?_
          exact aw_X7_behind_32 G RR T hL   v1 v2 g_21  h
        · have h := h.1 c_23
          refine sv_ldc (pc := 29) G dX7_behind_29 cn_X7_90 ?_
          exact sv_ireturn (pc := 31) G T ⟨(Nat.le_of_ble_eq_true rfl), (Nat.le_of_ble_eq_true rfl)⟩ dX7_behind_31 ⟨_, rfl, rfl, h⟩
def wp_X7_ends_32 (F : sv_Fr) (Q : Int32 → sv_Mg → Prop) (v1 : Int32) (g : sv_Mg) : Prop := wp_X7_putsBack F  g (fun g_1 => ((v1 ≤ 100 → Q v1 g_1) ∧ (¬ v1 ≤ 100 → Q (-1000000005) g_1)))
def wp_X7_ends_6 (F : sv_Fr) (Q : Int32 → sv_Mg → Prop) : Nat → Int32 → sv_Mg → Prop
  | 0, _, _ => False
  | n + 1, v1, g => ((100 < v1 → wp_X7_ends_32 F  Q  v1 g) ∧ (¬ 100 < v1 → ((0 ≤ (g 59 7) → wp_X7_ends_32 F  Q  v1 g) ∧ (¬ 0 ≤ (g 59 7) → wp_X7_round F  g (fun g_5 => ∀ v1_6 : Int32, v1_6 = v1 + 1 → (wp_X7_ends_6 F Q  n) v1_6 g_5)))))
def wp_X7_ends (F : sv_Fr) (g : sv_Mg) (Q : Int32 → sv_Mg → Prop) : Prop := wp_X7_thinks F  g (fun g_7 => ∃ n_8, wp_X7_ends_6 F  Q  n_8 0 g_7)
set_option maxRecDepth 100000 in
set_option maxHeartbeats 4000000 in
theorem aw_X7_ends_32 {x : sv_X} {b : Nat} {xt : sv_Xt} {F : sv_Fr} {Q : Int32 → sv_Mg → Prop} (G : sv_G x b xt RX7 cX7_ends 2) (RR : sv_R x 9 200 0 0) (T : sv_RT x (some .int)) (hL : sv_Lay F) : ∀ (v1 : Int32) (g : sv_Mg), wp_X7_ends_32 F Q  v1 g → sv_AW x (sv_Q x (sv_qI F Q) 0 0) F g 0 0 32 [(0, .ref (b + 58)), (1, .int v1)] [] := by
  intro v1 g h
  unfold wp_X7_ends_32 at h
  refine sv_aload_n (pc := 32) G dX7_ends_32 0 rfl ?_
  refine sv_callV (cs := 0) (sl := 0) (st := []) (As := []) (a := 58) (pc := 33) G RR (c_X7_putsBack hL  h) mw_X7_putsBack lk_X7_186 (hL.sh rfl) (by decide) rfl rfl ⟨(Nat.le_of_ble_eq_true rfl), (Nat.le_of_ble_eq_true rfl)⟩ ⟨(Nat.le_of_ble_eq_true rfl), (Nat.le_of_ble_eq_true rfl)⟩ (Nat.le_of_ble_eq_true rfl) rfl dX7_ends_33 (sv_kV (fun g_1 h => ?_))
  refine sv_iload_n (pc := 36) G dX7_ends_36 1 rfl ?_
  refine sv_bipush (pc := 37) G dX7_ends_37 100 bp_100 ?_
  refine sv_ic_le (pc := 39) G 47 (by decide) dX7_ends_39 (fun c_2 => ?_) (fun c_2 => ?_)
  · have h := h.1 c_2
    refine sv_iload_n (pc := 47) G dX7_ends_47 1 rfl ?_
    exact sv_ireturn (pc := 48) G T ⟨(Nat.le_of_ble_eq_true rfl), (Nat.le_of_ble_eq_true rfl)⟩ dX7_ends_48 ⟨_, rfl, rfl, h⟩
  · have h := h.2 c_2
    refine sv_ldc (pc := 42) G dX7_ends_42 cn_X7_81 ?_
    refine sv_goto (pc := 44) G dX7_ends_44 48 (by decide) ?_
    exact sv_ireturn (pc := 48) G T ⟨(Nat.le_of_ble_eq_true rfl), (Nat.le_of_ble_eq_true rfl)⟩ dX7_ends_48 ⟨_, rfl, rfl, h⟩
set_option maxRecDepth 100000 in
set_option maxHeartbeats 4000000 in
theorem aw_X7_ends_6 {x : sv_X} {b : Nat} {xt : sv_Xt} {F : sv_Fr} {Q : Int32 → sv_Mg → Prop} (G : sv_G x b xt RX7 cX7_ends 2) (RR : sv_R x 9 200 0 0) (T : sv_RT x (some .int)) (hL : sv_Lay F) : ∀ (n : Nat) (v1 : Int32) (g : sv_Mg), wp_X7_ends_6 F Q  n v1 g → sv_AW x (sv_Q x (sv_qI F Q) 0 0) F g 0 0 6 [(0, .ref (b + 58)), (1, .int v1)] [] := by
  intro n
  induction n with
  | zero => intro v1 g h; exact h.elim
  | succ n ih =>
    intro v1 g h
    rw [wp_X7_ends_6] at h
    refine sv_iload_n (pc := 6) G dX7_ends_6 1 rfl ?_
    refine sv_bipush (pc := 7) G dX7_ends_7 100 bp_100 ?_
    refine sv_ic_gt (pc := 9) G 32 (by decide) dX7_ends_9 (fun c_3 => ?_) (fun c_3 => ?_)
    · have h := h.1 c_3
      refine sv_locs [0, 1] [(0, .ref (b + 58)), (1, .int v1)] rfl ?_
      exact aw_X7_ends_32 G RR T hL   v1 g  h
    · have h := h.2 c_3
      refine sv_aload_n (pc := 12) G dX7_ends_12 0 rfl ?_
      refine sv_getR (pc := 13) G fw_X7_9 (hL.sh rfl) rfl (hL.rf 60 rfl) dX7_ends_13 ?_
      refine sv_bipush (pc := 16) G dX7_ends_16 7 bp_7 ?_
      refine sv_ialdK (pc := 18) G (hL.sh rfl) vi_7_1443 7 tn_7 dX7_ends_18 ?_
      refine sv_if_ge (pc := 19) G 32 (by decide) dX7_ends_19 (fun c_4 => ?_) (fun c_4 => ?_)
      · have h := h.1 c_4
        refine sv_locs [0, 1] [(0, .ref (b + 58)), (1, .int v1)] rfl ?_
        exact aw_X7_ends_32 G RR T hL   v1 g  h
      · have h := h.2 c_4
        refine sv_aload_n (pc := 22) G dX7_ends_22 0 rfl ?_
        refine sv_callV (cs := 0) (sl := 0) (st := []) (As := []) (a := 58) (pc := 23) G RR (c_X7_round hL  h) mw_X7_round lk_X7_167 (hL.sh rfl) (by decide) rfl rfl ⟨(Nat.le_of_ble_eq_true rfl), (Nat.le_of_ble_eq_true rfl)⟩ ⟨(Nat.le_of_ble_eq_true rfl), (Nat.le_of_ble_eq_true rfl)⟩ (Nat.le_of_ble_eq_true rfl) rfl dX7_ends_23 (sv_kV (fun g_5 h => ?_))
        obtain ⟨v1_6, ev1_6⟩ : ∃ y : Int32, y = v1 + 1 := ⟨_, rfl⟩
        have h := h v1_6 ev1_6
        refine sv_iinc (pc := 26) G dX7_ends_26 1 v1_6 [(1, .int v1_6), (0, .ref (b + 58))] (by rw [ev1_6, ic_1]) rfl (by decide) rfl ?_
        refine sv_goto (pc := 29) G dX7_ends_29 6 (by decide) ?_
        refine sv_locs [1, 0] [(0, .ref (b + 58)), (1, .int v1_6)] rfl ?_
        exact ih v1_6 g_5  h
set_option maxRecDepth 100000 in
set_option maxHeartbeats 4000000 in
theorem c_X7_ends {b : Nat} {xt : sv_Xt} {F : sv_Fr} {g : sv_Mg} {Q : Int32 → sv_Mg → Prop} (hL : sv_Lay F) (h : wp_X7_ends F g Q) : sv_Cal yX7_ends cX7_ends 2 (some .int) 9 200 0 0 b xt [.ref (b + 58)] F g (sv_qI F Q) := by
  refine sv_intro mw_X7_ends [(0, .ref (b + 58))] rfl (Nat.le_of_ble_eq_true rfl) (fun x G RR T NM => ?_)
  have G : sv_G x b xt RX7 cX7_ends 2 := G
  unfold wp_X7_ends at h
  refine sv_aload_n (pc := 0) G dX7_ends_0 0 rfl ?_
  refine sv_callV (cs := 0) (sl := 0) (st := []) (As := []) (a := 58) (pc := 1) G RR (c_X7_thinks hL  h) mw_X7_thinks lk_X7_180 (hL.sh rfl) (by decide) rfl rfl ⟨(Nat.le_of_ble_eq_true rfl), (Nat.le_of_ble_eq_true rfl)⟩ ⟨(Nat.le_of_ble_eq_true rfl), (Nat.le_of_ble_eq_true rfl)⟩ (Nat.le_of_ble_eq_true rfl) rfl dX7_ends_1 (sv_kV (fun g_7 h => ?_))
  refine sv_iconst (pc := 4) G dX7_ends_4 0 ic_0 ?_
  refine sv_istore_n (pc := 5) G dX7_ends_5 [(1, .int 0), (0, .ref (b + 58))] (by decide) rfl ?_
  refine sv_locs [1, 0] [(0, .ref (b + 58)), (1, .int 0)] rfl ?_
  obtain ⟨n_8, h⟩ := h
  exact aw_X7_ends_6 G RR T hL   n_8 0 g_7  h
def wp_X7_won_108 (F : sv_Fr) (Q : Int32 → sv_Mg → Prop) (K43 : Int32 → Int32 → Int32 → Int32 → Int32 → Int32 → sv_Mg → Prop) (v1 : Int32) (v2 : Int32) (v3 : Int32) (v4 : Int32) (v6 : Int32) (s0 : Int32) (g : sv_Mg) : Prop := ∀ v6_1 : Int32, v6_1 = v6 + 1 → K43 v1 v2 v3 v4 s0 v6_1 g
def wp_X7_won_92 (F : sv_Fr) (Q : Int32 → sv_Mg → Prop) (K43 : Int32 → Int32 → Int32 → Int32 → Int32 → Int32 → sv_Mg → Prop) (v1 : Int32) (v2 : Int32) (v3 : Int32) (v5 : Int32) (v6 : Int32) (v7 : Int32) (s0 : Int32) (g : sv_Mg) : Prop := ((v7 ≤ v5 → wp_X7_won_108 F  Q K43 v1 v2 v3 s0 v6 v5 g) ∧ (¬ v7 ≤ v5 → wp_X7_won_108 F  Q K43 v1 v2 v3 s0 v6 v7 g))
def wp_X7_won_43 (F : sv_Fr) (Q : Int32 → sv_Mg → Prop) : Nat → Int32 → Int32 → Int32 → Int32 → Int32 → Int32 → sv_Mg → Prop
  | 0, _, _, _, _, _, _, _ => False
  | n + 1, v1, v2, v3, v4, v5, v6, g => (((g 59 1) ≤ v6 → ((v3 = 0 → Q v4 g) ∧ (¬ v3 = 0 → Q v5 g))) ∧ (¬ (g 59 1) ≤ v6 → wp_X7_put F v6 1 v2 g (fun g_5 => wp_X7_goesOn F v1 g_5 (fun g_6 => wp_X7_has F v2 g_6 (fun r_8 g_7 => wp_X7_putsBack F  g_7 (fun g_9 => ((r_8 ≤ v5 → wp_X7_won_92 F  Q (wp_X7_won_43 F Q  n) v1 v2 v3 v5 v6 r_8 v4 g_9) ∧ (¬ r_8 ≤ v5 → wp_X7_won_92 F  Q (wp_X7_won_43 F Q  n) v1 v2 v3 v5 v6 r_8 v6 g_9))))))))
def wp_X7_won (F : sv_Fr) (v1 : Int32) (v2 : Int32) (v3 : Int32) (g : sv_Mg) (Q : Int32 → sv_Mg → Prop) : Prop := wp_X7_in F v1 1 40 g (fun r_12 g_11 => ((r_12 = 0 → Q (-1000000001) g_11) ∧ (¬ r_12 = 0 → wp_X7_isVoter F v2 g_11 (fun r_15 g_14 => ((r_15 = 0 → Q (-1000000001) g_14) ∧ (¬ r_15 = 0 → wp_X7_in F v3 0 1 g_14 (fun r_18 g_17 => ((r_18 = 0 → Q (-1000000001) g_17) ∧ (¬ r_18 = 0 → wp_X7_thinks F  g_17 (fun g_20 => ∃ n_21, wp_X7_won_43 F  Q  n_21 v1 v2 v3 (-1) (-1) 0 g_20))))))))))
set_option maxRecDepth 100000 in
set_option maxHeartbeats 4000000 in
theorem aw_X7_won_108 {x : sv_X} {b : Nat} {xt : sv_Xt} {F : sv_Fr} {Q : Int32 → sv_Mg → Prop} (G : sv_G x b xt RX7 cX7_won 8) (RR : sv_R x 10 222 0 0) (T : sv_RT x (some .int)) (hL : sv_Lay F) {K43 : Int32 → Int32 → Int32 → Int32 → Int32 → Int32 → sv_Mg → Prop} (hK43 : ∀ (v1 : Int32) (v2 : Int32) (v3 : Int32) (v4 : Int32) (v5 : Int32) (v6 : Int32) (g : sv_Mg), K43 v1 v2 v3 v4 v5 v6 g → sv_AW x (sv_Q x (sv_qI F Q) 0 0) F g 0 0 43 [(0, .ref (b + 58)), (1, .int v1), (2, .int v2), (3, .int v3), (4, .int v4), (5, .int v5), (6, .int v6)] []) : ∀ (v1 : Int32) (v2 : Int32) (v3 : Int32) (v4 : Int32) (v6 : Int32) (s0 : Int32) (g : sv_Mg), wp_X7_won_108 F Q K43 v1 v2 v3 v4 v6 s0 g → sv_AW x (sv_Q x (sv_qI F Q) 0 0) F g 0 0 108 [(0, .ref (b + 58)), (1, .int v1), (2, .int v2), (3, .int v3), (4, .int v4), (6, .int v6)] [.int s0] := by
  intro v1 v2 v3 v4 v6 s0 g h
  unfold wp_X7_won_108 at h
  refine sv_istore (pc := 108) G dX7_won_108 [(5, .int s0), (0, .ref (b + 58)), (1, .int v1), (2, .int v2), (3, .int v3), (4, .int v4), (6, .int v6)] (by decide) rfl ?_
  obtain ⟨v6_1, ev6_1⟩ : ∃ y : Int32, y = v6 + 1 := ⟨_, rfl⟩
  have h := h v6_1 ev6_1
  refine sv_iinc (pc := 110) G dX7_won_110 6 v6_1 [(6, .int v6_1), (5, .int s0), (0, .ref (b + 58)), (1, .int v1), (2, .int v2), (3, .int v3), (4, .int v4)] (by rw [ev6_1, ic_1]) rfl (by decide) rfl ?_
  refine sv_goto (pc := 113) G dX7_won_113 43 (by decide) ?_
  refine sv_locs [2, 3, 4, 5, 6, 1, 0] [(0, .ref (b + 58)), (1, .int v1), (2, .int v2), (3, .int v3), (4, .int v4), (5, .int s0), (6, .int v6_1)] rfl ?_
  exact hK43 v1 v2 v3 v4 s0 v6_1 g  h
set_option maxRecDepth 100000 in
set_option maxHeartbeats 4000000 in
theorem aw_X7_won_92 {x : sv_X} {b : Nat} {xt : sv_Xt} {F : sv_Fr} {Q : Int32 → sv_Mg → Prop} (G : sv_G x b xt RX7 cX7_won 8) (RR : sv_R x 10 222 0 0) (T : sv_RT x (some .int)) (hL : sv_Lay F) {K43 : Int32 → Int32 → Int32 → Int32 → Int32 → Int32 → sv_Mg → Prop} (hK43 : ∀ (v1 : Int32) (v2 : Int32) (v3 : Int32) (v4 : Int32) (v5 : Int32) (v6 : Int32) (g : sv_Mg), K43 v1 v2 v3 v4 v5 v6 g → sv_AW x (sv_Q x (sv_qI F Q) 0 0) F g 0 0 43 [(0, .ref (b + 58)), (1, .int v1), (2, .int v2), (3, .int v3), (4, .int v4), (5, .int v5), (6, .int v6)] []) : ∀ (v1 : Int32) (v2 : Int32) (v3 : Int32) (v5 : Int32) (v6 : Int32) (v7 : Int32) (s0 : Int32) (g : sv_Mg), wp_X7_won_92 F Q K43 v1 v2 v3 v5 v6 v7 s0 g → sv_AW x (sv_Q x (sv_qI F Q) 0 0) F g 0 0 92 [(0, .ref (b + 58)), (1, .int v1), (2, .int v2), (3, .int v3), (5, .int v5), (6, .int v6), (7, .int v7)] [.int s0] := by
  intro v1 v2 v3 v5 v6 v7 s0 g h
  unfold wp_X7_won_92 at h
  refine sv_istore (pc := 92) G dX7_won_92 [(4, .int s0), (0, .ref (b + 58)), (1, .int v1), (2, .int v2), (3, .int v3), (5, .int v5), (6, .int v6), (7, .int v7)] (by decide) rfl ?_
  refine sv_iload (pc := 94) G dX7_won_94 7 rfl ?_
  refine sv_iload (pc := 96) G dX7_won_96 5 rfl ?_
  refine sv_ic_le (pc := 98) G 106 (by decide) dX7_won_98 (fun c_2 => ?_) (fun c_2 => ?_)
  · have h := h.1 c_2
    refine sv_iload (pc := 106) G dX7_won_106 5 rfl ?_
    refine sv_locs [1, 2, 3, 4, 0, 6] [(0, .ref (b + 58)), (1, .int v1), (2, .int v2), (3, .int v3), (4, .int s0), (6, .int v6)] rfl ?_
    exact aw_X7_won_108 G RR T hL  hK43 v1 v2 v3 s0 v6 v5 g  h
  · have h := h.2 c_2
    refine sv_iload (pc := 101) G dX7_won_101 7 rfl ?_
    refine sv_goto (pc := 103) G dX7_won_103 108 (by decide) ?_
    refine sv_locs [1, 2, 3, 4, 0, 6] [(0, .ref (b + 58)), (1, .int v1), (2, .int v2), (3, .int v3), (4, .int s0), (6, .int v6)] rfl ?_
    exact aw_X7_won_108 G RR T hL  hK43 v1 v2 v3 s0 v6 v7 g  h
set_option maxRecDepth 100000 in
set_option maxHeartbeats 4000000 in
theorem aw_X7_won_43 {x : sv_X} {b : Nat} {xt : sv_Xt} {F : sv_Fr} {Q : Int32 → sv_Mg → Prop} (G : sv_G x b xt RX7 cX7_won 8) (RR : sv_R x 10 222 0 0) (T : sv_RT x (some .int)) (hL : sv_Lay F) : ∀ (n : Nat) (v1 : Int32) (v2 : Int32) (v3 : Int32) (v4 : Int32) (v5 : Int32) (v6 : Int32) (g : sv_Mg), wp_X7_won_43 F Q  n v1 v2 v3 v4 v5 v6 g → sv_AW x (sv_Q x (sv_qI F Q) 0 0) F g 0 0 43 [(0, .ref (b + 58)), (1, .int v1), (2, .int v2), (3, .int v3), (4, .int v4), (5, .int v5), (6, .int v6)] [] := by
  intro n
  induction n with
  | zero => intro v1 v2 v3 v4 v5 v6 g h; exact h.elim
  | succ n ih =>
    intro v1 v2 v3 v4 v5 v6 g h
    rw [wp_X7_won_43] at h
    refine sv_iload (pc := 43) G dX7_won_43 6 rfl ?_
    refine sv_aload_n (pc := 45) G dX7_won_45 0 rfl ?_
    refine sv_getR (pc := 46) G fw_X7_9 (hL.sh rfl) rfl (hL.rf 60 rfl) dX7_won_46 ?_
    refine sv_iconst (pc := 49) G dX7_won_49 1 ic_1 ?_
    refine sv_ialdK (pc := 50) G (hL.sh rfl) vi_1_1443 1 tn_1 dX7_won_50 ?_
    refine sv_ic_ge (pc := 51) G 116 (by decide) dX7_won_51 (fun c_3 => ?_) (fun c_3 => ?_)
    · have h := h.1 c_3
      refine sv_iload_n (pc := 116) G dX7_won_116 3 rfl ?_
      refine sv_if_ne (pc := 117) G 125 (by decide) dX7_won_117 (fun c_4 => ?_) (fun c_4 => ?_)
      · have h := h.2 c_4
        refine sv_iload (pc := 125) G dX7_won_125 5 rfl ?_
        exact sv_ireturn (pc := 127) G T ⟨(Nat.le_of_ble_eq_true rfl), (Nat.le_of_ble_eq_true rfl)⟩ dX7_won_127 ⟨_, rfl, rfl, h⟩
      · have h := h.1 c_4
        refine sv_iload (pc := 120) G dX7_won_120 4 rfl ?_
        refine sv_goto (pc := 122) G dX7_won_122 127 (by decide) ?_
        exact sv_ireturn (pc := 127) G T ⟨(Nat.le_of_ble_eq_true rfl), (Nat.le_of_ble_eq_true rfl)⟩ dX7_won_127 ⟨_, rfl, rfl, h⟩
    · have h := h.2 c_3
      refine sv_aload_n (pc := 54) G dX7_won_54 0 rfl ?_
      refine sv_iload (pc := 55) G dX7_won_55 6 rfl ?_
      refine sv_iconst (pc := 57) G dX7_won_57 1 ic_1 ?_
      refine sv_iload_n (pc := 58) G dX7_won_58 2 rfl ?_
      refine sv_callV (cs := 0) (sl := 0) (st := []) (As := [.int v6, .int 1, .int v2]) (a := 58) (pc := 59) G RR (c_X7_put hL  h) mw_X7_put lk_X7_86 (hL.sh rfl) (by decide) rfl rfl ⟨(Nat.le_of_ble_eq_true rfl), (Nat.le_of_ble_eq_true rfl)⟩ ⟨(Nat.le_of_ble_eq_true rfl), (Nat.le_of_ble_eq_true rfl)⟩ (Nat.le_of_ble_eq_true rfl) rfl dX7_won_59 (sv_kV (fun g_5 h => ?_))
      refine sv_aload_n (pc := 62) G dX7_won_62 0 rfl ?_
      refine sv_iload_n (pc := 63) G dX7_won_63 1 rfl ?_
      refine sv_callV (cs := 0) (sl := 0) (st := []) (As := [.int v1]) (a := 58) (pc := 64) G RR (c_X7_goesOn hL  h) mw_X7_goesOn lk_X7_170 (hL.sh rfl) (by decide) rfl rfl ⟨(Nat.le_of_ble_eq_true rfl), (Nat.le_of_ble_eq_true rfl)⟩ ⟨(Nat.le_of_ble_eq_true rfl), (Nat.le_of_ble_eq_true rfl)⟩ (Nat.le_of_ble_eq_true rfl) rfl dX7_won_64 (sv_kV (fun g_6 h => ?_))
      refine sv_aload_n (pc := 67) G dX7_won_67 0 rfl ?_
      refine sv_iload_n (pc := 68) G dX7_won_68 2 rfl ?_
      refine sv_callV (cs := 0) (sl := 0) (st := []) (As := [.int v2]) (a := 58) (pc := 69) G RR (c_X7_has hL  h) mw_X7_has lk_X7_104 (hL.sh rfl) (by decide) rfl rfl ⟨(Nat.le_of_ble_eq_true rfl), (Nat.le_of_ble_eq_true rfl)⟩ ⟨(Nat.le_of_ble_eq_true rfl), (Nat.le_of_ble_eq_true rfl)⟩ (Nat.le_of_ble_eq_true rfl) rfl dX7_won_69 (sv_kI (fun r_8 g_7 h => ?_))
      refine sv_istore (pc := 72) G dX7_won_72 [(7, .int r_8), (0, .ref (b + 58)), (1, .int v1), (2, .int v2), (3, .int v3), (4, .int v4), (5, .int v5), (6, .int v6)] (by decide) rfl ?_
      refine sv_aload_n (pc := 74) G dX7_won_74 1 rfl ?_
      refine sv_callV (cs := 0) (sl := 0) (st := []) (As := []) (a := 58) (pc := 75) G RR (c_X7_putsBack hL  h) mw_X7_putsBack lk_X7_186 (hL.sh rfl) (by decide) rfl rfl ⟨(Nat.le_of_ble_eq_true rfl), (Nat.le_of_ble_eq_true rfl)⟩ ⟨(Nat.le_of_ble_eq_true rfl), (Nat.le_of_ble_eq_true rfl)⟩ (Nat.le_of_ble_eq_true rfl) rfl dX7_won_75 (sv_kV (fun g_9 h => ?_))
      refine sv_iload (pc := 78) G dX7_won_78 0 rfl ?_
      refine sv_iload (pc := 80) G dX7_won_80 6 rfl ?_
      refine sv_ic_le (pc := 82) G 90 (by decide) dX7_won_82 (fun c_10 => ?_) (fun c_10 => ?_)
      · have h := h.1 c_10
        refine sv_iload (pc := 90) G dX7_won_90 5 rfl ?_
        refine sv_locs [1, 2, 3, 4, 6, 7, 0] [(0, .ref (b + 58)), (1, .int v1), (2, .int v2), (3, .int v3), (5, .int v5), (6, .int v6), (7, .int r_8)] rfl ?_
        exact aw_X7_won_92 G RR T hL  ih v1 v2 v3 v5 v6 r_8 v4 g_9  h
      · have h := h.2 c_10
        refine sv_iload (pc := 85) G dX7_won_85 7 rfl ?_
        refine sv_goto (pc := 87) G dX7_won_87 92 (by decide) ?_
        refine sv_locs [1, 2, 3, 4, 6, 7, 0] [(0, .ref (b + 58)), (1, .int v1), (2, .int v2), (3, .int v3), (5, .int v5), (6, .int v6), (7, .int r_8)] rfl ?_
        exact aw_X7_won_92 G RR T hL  ih v1 v2 v3 v5 v6 r_8 v6 g_9  h
set_option maxRecDepth 100000 in
set_option maxHeartbeats 4000000 in
theorem c_X7_won {b : Nat} {xt : sv_Xt} {F : sv_Fr} {v1 : Int32} {v2 : Int32} {v3 : Int32} {g : sv_Mg} {Q : Int32 → sv_Mg → Prop} (hL : sv_Lay F) (h : wp_X7_won F v1 v2 v3 g Q) : sv_Cal yX7_won cX7_won 8 (some .int) 10 222 0 0 b xt [.ref (b + 58), .int v1, .int v2, .int v3] F g (sv_qI F Q) := by
  refine sv_intro mw_X7_won [(0, .ref (b + 58)), (1, .int v1), (2, .int v2), (3, .int v3)] rfl (Nat.le_of_ble_eq_true rfl) (fun x G RR T NM => ?_)
  have G : sv_G x b xt RX7 cX7_won 8 := G
  unfold wp_X7_won at h
  refine sv_iload_n (pc := 0) G dX7_won_0 1 rfl ?_
  refine sv_iconst (pc := 1) G dX7_won_1 1 ic_1 ?_
  refine sv_bipush (pc := 2) G dX7_won_2 40 bp_40 ?_
  refine sv_callS (cs := 0) (sl := 0) (st := []) (As := [.int v1, .int 1, .int 40]) (pc := 4) G RR (c_X7_in hL  h) mw_X7_in lk_X7_82 rfl ⟨(Nat.le_of_ble_eq_true rfl), (Nat.le_of_ble_eq_true rfl)⟩ ⟨(Nat.le_of_ble_eq_true rfl), (Nat.le_of_ble_eq_true rfl)⟩ (Nat.le_of_ble_eq_true rfl) rfl dX7_won_4 (sv_kI (fun r_12 g_11 h => ?_))
  refine sv_if_eq (pc := 7) G 27 (by decide) dX7_won_7 (fun c_13 => ?_) (fun c_13 => ?_)
  · have h := h.1 c_13
    refine sv_ldc (pc := 27) G dX7_won_27 cn_X7_90 ?_
    exact sv_ireturn (pc := 29) G T ⟨(Nat.le_of_ble_eq_true rfl), (Nat.le_of_ble_eq_true rfl)⟩ dX7_won_29 ⟨_, rfl, rfl, h⟩
  · have h := h.2 c_13
    refine sv_aload_n (pc := 10) G dX7_won_10 0 rfl ?_
    refine sv_iload_n (pc := 11) G dX7_won_11 2 rfl ?_
    refine sv_callV (cs := 0) (sl := 0) (st := []) (As := [.int v2]) (a := 58) (pc := 12) G RR (c_X7_isVoter hL  h) mw_X7_isVoter lk_X7_139 (hL.sh rfl) (by decide) rfl rfl ⟨(Nat.le_of_ble_eq_true rfl), (Nat.le_of_ble_eq_true rfl)⟩ ⟨(Nat.le_of_ble_eq_true rfl), (Nat.le_of_ble_eq_true rfl)⟩ (Nat.le_of_ble_eq_true rfl) rfl dX7_won_12 (sv_kI (fun r_15 g_14 h => ?_))
    refine sv_if_eq (pc := 15) G 27 (by decide) dX7_won_15 (fun c_16 => ?_) (fun c_16 => ?_)
    · have h := h.1 c_16
      refine sv_ldc (pc := 27) G dX7_won_27 cn_X7_90 ?_
      exact sv_ireturn (pc := 29) G T ⟨(Nat.le_of_ble_eq_true rfl), (Nat.le_of_ble_eq_true rfl)⟩ dX7_won_29 ⟨_, rfl, rfl, h⟩
    · have h := h.2 c_16
      refine sv_iload_n (pc := 18) G dX7_won_18 3 rfl ?_
      refine sv_iconst (pc := 19) G dX7_won_19 0 ic_0 ?_
      refine sv_iconst (pc := 20) G dX7_won_20 1 ic_1 ?_
      refine sv_callS (cs := 0) (sl := 0) (st := []) (As := [.int v3, .int 0, .int 1]) (pc := 21) G RR (c_X7_in hL  h) mw_X7_in lk_X7_82 rfl ⟨(Nat.le_of_ble_eq_true rfl), (Nat.le_of_ble_eq_true rfl)⟩ ⟨(Nat.le_of_ble_eq_true rfl), (Nat.le_of_ble_eq_true rfl)⟩ (Nat.le_of_ble_eq_true rfl) rfl dX7_won_21 (sv_kI (fun r_18 g_17 h => ?_))
      refine sv_if_ne (pc := 24) G 30 (by decide) dX7_won_24 (fun c_19 => ?_) (fun c_19 => ?_)
      · have h := h.2 c_19
        refine sv_aload_n (pc := 30) G dX7_won_30 0 rfl ?_
        refine sv_callV (cs := 0) (sl := 0) (st := []) (As := []) (a := 58) (pc := 31) G RR (c_X7_thinks hL  h) mw_X7_thinks lk_X7_180 (hL.sh rfl) (by decide) rfl rfl ⟨(Nat.le_of_ble_eq_true rfl), (Nat.le_of_ble_eq_true rfl)⟩ ⟨(Nat.le_of_ble_eq_true rfl), (Nat.le_of_ble_eq_true rfl)⟩ (Nat.le_of_ble_eq_true rfl) rfl dX7_won_31 (sv_kV (fun g_20 h => ?_))
        refine sv_iconst (pc := 34) G dX7_won_34 (-1) ic_m1 ?_
        refine sv_istore (pc := 35) G dX7_won_35 [(4, .int (-1)), (0, .ref (b + 58)), (1, .int v1), (2, .int v2), (3, .int v3)] (by decide) rfl ?_
        refine sv_iconst (pc := 37) G dX7_won_37 (-1) ic_m1 ?_
        refine sv_istore (pc := 38) G dX7_won_38 [(5, .int (-1)), (4, .int (-1)), (0, .ref (b + 58)), (1, .int v1), (2, .int v2), (3, .int v3)] (by decide) rfl ?_
        refine sv_iconst (pc := 40) G dX7_won_40 0 ic_0 ?_
        refine sv_istore (pc := 41) G dX7_won_41 [(6, .int 0), (5, .int (-1)), (4, .int (-1)), (0, .ref (b + 58)), (1, .int v1), (2, .int v2), (3, .int v3)] (by decide) rfl ?_
        refine sv_locs [3, 4, 5, 6, 2, 1, 0] [(0, .ref (b + 58)), (1, .int v1), (2, .int v2), (3, .int v3), (4, .int (-1)), (5, .int (-1)), (6, .int 0)] rfl ?_
        obtain ⟨n_21, h⟩ := h
        exact aw_X7_won_43 G RR T hL   n_21 v1 v2 v3 (-1) (-1) 0 g_20  h
      · have h := h.1 c_19
        refine sv_ldc (pc := 27) G dX7_won_27 cn_X7_90 ?_
        exact sv_ireturn (pc := 29) G T ⟨(Nat.le_of_ble_eq_true rfl), (Nat.le_of_ble_eq_true rfl)⟩ dX7_won_29 ⟨_, rfl, rfl, h⟩
def wp_X7_party_116 (F : sv_Fr) (Q : Int32 → sv_Mg → Prop) (K21 : Int32 → Int32 → Int32 → sv_Mg → Prop) (v1 : Int32) (v3 : Int32) (s0 : Int32) (g : sv_Mg) : Prop := wp_X7_putsBack F  g (fun g_1 => ∀ v3_2 : Int32, v3_2 = v3 + 1 → K21 v1 s0 v3_2 g_1)
def wp_X7_party_115 (F : sv_Fr) (Q : Int32 → sv_Mg → Prop) (K21 : Int32 → Int32 → Int32 → sv_Mg → Prop) (v1 : Int32) (v3 : Int32) (g : sv_Mg) : Prop := wp_X7_party_116 F  Q K21 v1 v3 (-1) g
def wp_X7_party_71 (F : sv_Fr) (Q : Int32 → sv_Mg → Prop) (K21 : Int32 → Int32 → Int32 → sv_Mg → Prop) (K33 : Int32 → Int32 → Int32 → sv_Mg → Prop) (v1 : Int32) (v3 : Int32) (v4 : Int32) (s0 : Int32) (s1 : Int32) (s2 : Int32) (g : sv_Mg) : Prop := wp_X7_put F s2 s1 s0 g (fun g_3 => ∀ v4_4 : Int32, v4_4 = v4 + 1 → K33 v1 v3 v4_4 g_3)
def wp_X7_party_33 (F : sv_Fr) (Q : Int32 → sv_Mg → Prop) (K21 : Int32 → Int32 → Int32 → sv_Mg → Prop) : Nat → Int32 → Int32 → Int32 → sv_Mg → Prop
  | 0, _, _, _, _ => False
  | n + 1, v1, v3, v4, g => (((g 59 1) ≤ v4 → wp_X7_goesOn F v1 g (fun g_6 => (((g_6 59 7) < 0 → wp_X7_party_115 F  Q K21 v1 v3 g_6) ∧ (¬ (g_6 59 7) < 0 → wp_X7_of F (g_6 59 7) 2 g_6 (fun r_9 g_8 => ((r_9 = v3 → wp_X7_party_116 F  Q K21 v1 v3 v3 g_8) ∧ (¬ r_9 = v3 → wp_X7_party_115 F  Q K21 v1 v3 g_8))))))) ∧ (¬ (g 59 1) ≤ v4 → wp_X7_of F v4 2 g (fun r_12 g_11 => ((r_12 = v3 → wp_X7_party_71 F  Q K21 (wp_X7_party_33 F Q K21 n) v1 v3 v4 99 3 v4 g_11) ∧ (¬ r_12 = v3 → wp_X7_of F v4 3 g_11 (fun r_15 g_14 => wp_X7_party_71 F  Q K21 (wp_X7_party_33 F Q K21 n) v1 v3 v4 r_15 3 v4 g_14))))))
def wp_X7_party_21 (F : sv_Fr) (Q : Int32 → sv_Mg → Prop) : Nat → Int32 → Int32 → Int32 → sv_Mg → Prop
  | 0, _, _, _, _ => False
  | n + 1, v1, v2, v3, g => ((4 ≤ v3 → wp_X7_told0 F v2 g (fun r_18 g_17 => Q r_18 g_17)) ∧ (¬ 4 ≤ v3 → ((0 ≤ v2 → wp_X7_told0 F v2 g (fun r_21 g_20 => Q r_21 g_20)) ∧ (¬ 0 ≤ v2 → ∃ n_22, wp_X7_party_33 F  Q (wp_X7_party_21 F Q  n) n_22 v1 v3 0 g))))
def wp_X7_party (F : sv_Fr) (v1 : Int32) (g : sv_Mg) (Q : Int32 → sv_Mg → Prop) : Prop := wp_X7_in F v1 1 40 g (fun r_24 g_23 => ((r_24 = 0 → Q (-1000000001) g_23) ∧ (¬ r_24 = 0 → wp_X7_thinks F  g_23 (fun g_26 => ∃ n_27, wp_X7_party_21 F  Q  n_27 v1 (-1) 0 g_26))))
set_option maxRecDepth 100000 in
set_option maxHeartbeats 4000000 in
theorem aw_X7_party_116 {x : sv_X} {b : Nat} {xt : sv_Xt} {F : sv_Fr} {Q : Int32 → sv_Mg → Prop} (G : sv_G x b xt RX7 cX7_party 5) (RR : sv_R x 10 222 0 0) (T : sv_RT x (some .int)) (hL : sv_Lay F) {K21 : Int32 → Int32 → Int32 → sv_Mg → Prop} (hK21 : ∀ (v1 : Int32) (v2 : Int32) (v3 : Int32) (g : sv_Mg), K21 v1 v2 v3 g → sv_AW x (sv_Q x (sv_qI F Q) 0 0) F g 0 0 21 [(0, .ref (b + 58)), (1, .int v1), (2, .int v2), (3, .int v3)] []) : ∀ (v1 : Int32) (v3 : Int32) (s0 : Int32) (g : sv_Mg), wp_X7_party_116 F Q K21 v1 v3 s0 g → sv_AW x (sv_Q x (sv_qI F Q) 0 0) F g 0 0 116 [(0, .ref (b + 58)), (1, .int v1), (3, .int v3)] [.int s0] := by
  intro v1 v3 s0 g h
  unfold wp_X7_party_116 at h
  refine sv_istore_n (pc := 116) G dX7_party_116 [(2, .int s0), (0, .ref (b + 58)), (1, .int v1), (3, .int v3)] (by decide) rfl ?_
  refine sv_aload_n (pc := 117) G dX7_party_117 1 rfl ?_
  refine sv_callV (cs := 0) (sl := 0) (st := []) (As := []) (a := 58) (pc := 118) G RR (c_X7_putsBack hL  h) mw_X7_putsBack lk_X7_186 (hL.sh rfl) (by decide) rfl rfl ⟨(Nat.le_of_ble_eq_true rfl), (Nat.le_of_ble_eq_true rfl)⟩ ⟨(Nat.le_of_ble_eq_true rfl), (Nat.le_of_ble_eq_true rfl)⟩ (Nat.le_of_ble_eq_true rfl) rfl dX7_party_118 (sv_kV (fun g_1 h => ?_))
  obtain ⟨v3_2, ev3_2⟩ : ∃ y : Int32, y = v3 + 1 := ⟨_, rfl⟩
  have h := h v3_2 ev3_2
  refine sv_iinc (pc := 121) G dX7_party_121 3 v3_2 [(3, .int v3_2), (2, .int s0), (0, .ref (b + 58)), (1, .int v1)] (by rw [ev3_2, ic_1]) rfl (by decide) rfl ?_
  refine sv_goto (pc := 124) G dX7_party_124 21 (by decide) ?_
  refine sv_locs [2, 3, 1, 0] [(0, .ref (b + 58)), (1, .int v1), (2, .int s0), (3, .int v3_2)] rfl ?_
  exact hK21 v1 s0 v3_2 g_1  h
set_option maxRecDepth 100000 in
set_option maxHeartbeats 4000000 in
theorem aw_X7_party_115 {x : sv_X} {b : Nat} {xt : sv_Xt} {F : sv_Fr} {Q : Int32 → sv_Mg → Prop} (G : sv_G x b xt RX7 cX7_party 5) (RR : sv_R x 10 222 0 0) (T : sv_RT x (some .int)) (hL : sv_Lay F) {K21 : Int32 → Int32 → Int32 → sv_Mg → Prop} (hK21 : ∀ (v1 : Int32) (v2 : Int32) (v3 : Int32) (g : sv_Mg), K21 v1 v2 v3 g → sv_AW x (sv_Q x (sv_qI F Q) 0 0) F g 0 0 21 [(0, .ref (b + 58)), (1, .int v1), (2, .int v2), (3, .int v3)] []) : ∀ (v1 : Int32) (v3 : Int32) (g : sv_Mg), wp_X7_party_115 F Q K21 v1 v3 g → sv_AW x (sv_Q x (sv_qI F Q) 0 0) F g 0 0 115 [(0, .ref (b + 58)), (1, .int v1), (3, .int v3)] [] := by
  intro v1 v3 g h
  unfold wp_X7_party_115 at h
  refine sv_iconst (pc := 115) G dX7_party_115 (-1) ic_m1 ?_
  refine sv_locs [0, 1, 2] [(0, .ref (b + 58)), (1, .int v1), (3, .int v3)] rfl ?_
  exact aw_X7_party_116 G RR T hL  hK21 v1 v3 (-1) g  h
set_option maxRecDepth 100000 in
set_option maxHeartbeats 4000000 in
theorem aw_X7_party_71 {x : sv_X} {b : Nat} {xt : sv_Xt} {F : sv_Fr} {Q : Int32 → sv_Mg → Prop} (G : sv_G x b xt RX7 cX7_party 5) (RR : sv_R x 10 222 0 0) (T : sv_RT x (some .int)) (hL : sv_Lay F) {K21 : Int32 → Int32 → Int32 → sv_Mg → Prop} (hK21 : ∀ (v1 : Int32) (v2 : Int32) (v3 : Int32) (g : sv_Mg), K21 v1 v2 v3 g → sv_AW x (sv_Q x (sv_qI F Q) 0 0) F g 0 0 21 [(0, .ref (b + 58)), (1, .int v1), (2, .int v2), (3, .int v3)] []) {K33 : Int32 → Int32 → Int32 → sv_Mg → Prop} (hK33 : ∀ (v1 : Int32) (v3 : Int32) (v4 : Int32) (g : sv_Mg), K33 v1 v3 v4 g → sv_AW x (sv_Q x (sv_qI F Q) 0 0) F g 0 0 33 [(0, .ref (b + 58)), (1, .int v1), (3, .int v3), (4, .int v4)] []) : ∀ (v1 : Int32) (v3 : Int32) (v4 : Int32) (s0 : Int32) (s1 : Int32) (s2 : Int32) (g : sv_Mg), wp_X7_party_71 F Q K21 K33 v1 v3 v4 s0 s1 s2 g → sv_AW x (sv_Q x (sv_qI F Q) 0 0) F g 0 0 71 [(0, .ref (b + 58)), (1, .int v1), (3, .int v3), (4, .int v4)] [.int s0, .int s1, .int s2, .ref (b + 58)] := by
  intro v1 v3 v4 s0 s1 s2 g h
  unfold wp_X7_party_71 at h
  refine sv_callV (cs := 0) (sl := 0) (st := []) (As := [.int s2, .int s1, .int s0]) (a := 58) (pc := 71) G RR (c_X7_put hL  h) mw_X7_put lk_X7_86 (hL.sh rfl) (by decide) rfl rfl ⟨(Nat.le_of_ble_eq_true rfl), (Nat.le_of_ble_eq_true rfl)⟩ ⟨(Nat.le_of_ble_eq_true rfl), (Nat.le_of_ble_eq_true rfl)⟩ (Nat.le_of_ble_eq_true rfl) rfl dX7_party_71 (sv_kV (fun g_3 h => ?_))
  obtain ⟨v4_4, ev4_4⟩ : ∃ y : Int32, y = v4 + 1 := ⟨_, rfl⟩
  have h := h v4_4 ev4_4
  refine sv_iinc (pc := 74) G dX7_party_74 3 v4_4 [(4, .int v4_4), (0, .ref (b + 58)), (1, .int v1), (3, .int v3)] (by rw [ev4_4, ic_1]) rfl (by decide) rfl ?_
  refine sv_goto (pc := 77) G dX7_party_77 33 (by decide) ?_
  refine sv_locs [1, 2, 3, 0] [(0, .ref (b + 58)), (1, .int v1), (3, .int v3), (4, .int v4_4)] rfl ?_
  exact hK33 v1 v3 v4_4 g_3  h
set_option maxRecDepth 100000 in
set_option maxHeartbeats 4000000 in
theorem aw_X7_party_33 {x : sv_X} {b : Nat} {xt : sv_Xt} {F : sv_Fr} {Q : Int32 → sv_Mg → Prop} (G : sv_G x b xt RX7 cX7_party 5) (RR : sv_R x 10 222 0 0) (T : sv_RT x (some .int)) (hL : sv_Lay F) {K21 : Int32 → Int32 → Int32 → sv_Mg → Prop} (hK21 : ∀ (v1 : Int32) (v2 : Int32) (v3 : Int32) (g : sv_Mg), K21 v1 v2 v3 g → sv_AW x (sv_Q x (sv_qI F Q) 0 0) F g 0 0 21 [(0, .ref (b + 58)), (1, .int v1), (2, .int v2), (3, .int v3)] []) : ∀ (n : Nat) (v1 : Int32) (v3 : Int32) (v4 : Int32) (g : sv_Mg), wp_X7_party_33 F Q K21 n v1 v3 v4 g → sv_AW x (sv_Q x (sv_qI F Q) 0 0) F g 0 0 33 [(0, .ref (b + 58)), (1, .int v1), (3, .int v3), (4, .int v4)] [] := by
  intro n
  induction n with
  | zero => intro v1 v3 v4 g h; exact h.elim
  | succ n ih =>
    intro v1 v3 v4 g h
    rw [wp_X7_party_33] at h
    refine sv_iload (pc := 33) G dX7_party_33 3 rfl ?_
    refine sv_aload_n (pc := 35) G dX7_party_35 0 rfl ?_
    refine sv_getR (pc := 36) G fw_X7_9 (hL.sh rfl) rfl (hL.rf 60 rfl) dX7_party_36 ?_
    refine sv_iconst (pc := 39) G dX7_party_39 1 ic_1 ?_
    refine sv_ialdK (pc := 40) G (hL.sh rfl) vi_1_1443 1 tn_1 dX7_party_40 ?_
    refine sv_ic_ge (pc := 41) G 80 (by decide) dX7_party_41 (fun c_5 => ?_) (fun c_5 => ?_)
    · have h := h.1 c_5
      refine sv_aload_n (pc := 80) G dX7_party_80 0 rfl ?_
      refine sv_iload_n (pc := 81) G dX7_party_81 1 rfl ?_
      refine sv_callV (cs := 0) (sl := 0) (st := []) (As := [.int v1]) (a := 58) (pc := 82) G RR (c_X7_goesOn hL  h) mw_X7_goesOn lk_X7_170 (hL.sh rfl) (by decide) rfl rfl ⟨(Nat.le_of_ble_eq_true rfl), (Nat.le_of_ble_eq_true rfl)⟩ ⟨(Nat.le_of_ble_eq_true rfl), (Nat.le_of_ble_eq_true rfl)⟩ (Nat.le_of_ble_eq_true rfl) rfl dX7_party_82 (sv_kV (fun g_6 h => ?_))
      refine sv_aload_n (pc := 85) G dX7_party_85 0 rfl ?_
      refine sv_getR (pc := 86) G fw_X7_9 (hL.sh rfl) rfl (hL.rf 60 rfl) dX7_party_86 ?_
      refine sv_bipush (pc := 89) G dX7_party_89 7 bp_7 ?_
      refine sv_ialdK (pc := 91) G (hL.sh rfl) vi_7_1443 7 tn_7 dX7_party_91 ?_
      refine sv_if_lt (pc := 92) G 115 (by decide) dX7_party_92 (fun c_7 => ?_) (fun c_7 => ?_)
      · have h := h.1 c_7
        refine sv_locs [0, 1, 2] [(0, .ref (b + 58)), (1, .int v1), (3, .int v3)] rfl ?_
        exact aw_X7_party_115 G RR T hL  hK21 v1 v3 g_6  h
      · have h := h.2 c_7
        refine sv_aload_n (pc := 95) G dX7_party_95 0 rfl ?_
        refine sv_aload_n (pc := 96) G dX7_party_96 0 rfl ?_
        refine sv_getR (pc := 97) G fw_X7_9 (hL.sh rfl) rfl (hL.rf 60 rfl) dX7_party_97 ?_
        refine sv_bipush (pc := 100) G dX7_party_100 7 bp_7 ?_
        refine sv_ialdK (pc := 102) G (hL.sh rfl) vi_7_1443 7 tn_7 dX7_party_102 ?_
        refine sv_iconst (pc := 103) G dX7_party_103 2 ic_2 ?_
        refine sv_callV (cs := 0) (sl := 0) (st := []) (As := [.int (g_6 59 7), .int 2]) (a := 58) (pc := 104) G RR (c_X7_of hL  h) mw_X7_of lk_X7_96 (hL.sh rfl) (by decide) rfl rfl ⟨(Nat.le_of_ble_eq_true rfl), (Nat.le_of_ble_eq_true rfl)⟩ ⟨(Nat.le_of_ble_eq_true rfl), (Nat.le_of_ble_eq_true rfl)⟩ (Nat.le_of_ble_eq_true rfl) rfl dX7_party_104 (sv_kI (fun r_9 g_8 h => ?_))
        refine sv_iload_n (pc := 107) G dX7_party_107 2 rfl ?_
        refine sv_ic_ne (pc := 108) G 115 (by decide) dX7_party_108 (fun c_10 => ?_) (fun c_10 => ?_)
        · have h := h.2 c_10
          refine sv_locs [0, 1, 2] [(0, .ref (b + 58)), (1, .int v1), (3, .int v3)] rfl ?_
          exact aw_X7_party_115 G RR T hL  hK21 v1 v3 g_8  h
        · have h := h.1 c_10
          refine sv_iload_n (pc := 111) G dX7_party_111 2 rfl ?_
          refine sv_goto (pc := 112) G dX7_party_112 116 (by decide) ?_
          refine sv_locs [0, 1, 2] [(0, .ref (b + 58)), (1, .int v1), (3, .int v3)] rfl ?_
          exact aw_X7_party_116 G RR T hL  hK21 v1 v3 v3 g_8  h
    · have h := h.2 c_5
      refine sv_aload_n (pc := 44) G dX7_party_44 0 rfl ?_
      refine sv_iload (pc := 45) G dX7_party_45 3 rfl ?_
      refine sv_iconst (pc := 47) G dX7_party_47 3 ic_3 ?_
      refine sv_aload_n (pc := 48) G dX7_party_48 0 rfl ?_
      refine sv_iload (pc := 49) G dX7_party_49 3 rfl ?_
      refine sv_iconst (pc := 51) G dX7_party_51 2 ic_2 ?_
      refine sv_callV (cs := 0) (sl := 0) (st := [.int 3, .int v4, .ref (b + 58)]) (As := [.int v4, .int 2]) (a := 58) (pc := 52) G RR (c_X7_of hL  h) mw_X7_of lk_X7_96 (hL.sh rfl) (by decide) rfl rfl ⟨(Nat.le_of_ble_eq_true rfl), (Nat.le_of_ble_eq_true rfl)⟩ ⟨(Nat.le_of_ble_eq_true rfl), (Nat.le_of_ble_eq_true rfl)⟩ (Nat.le_of_ble_eq_true rfl) rfl dX7_party_52 (sv_kI (fun r_12 g_11 h => ?_))
      refine sv_iload_n (pc := 55) G dX7_party_55 2 rfl ?_
      refine sv_ic_ne (pc := 56) G 64 (by decide) dX7_party_56 (fun c_13 => ?_) (fun c_13 => ?_)
      · have h := h.2 c_13
        refine sv_aload_n (pc := 64) G dX7_party_64 0 rfl ?_
        refine sv_iload (pc := 65) G dX7_party_65 3 rfl ?_
        refine sv_iconst (pc := 67) G dX7_party_67 3 ic_3 ?_
        refine sv_callV (cs := 0) (sl := 0) (st := [.int 3, .int v4, .ref (b + 58)]) (As := [.int v4, .int 3]) (a := 58) (pc := 68) G RR (c_X7_of hL  h) mw_X7_of lk_X7_96 (hL.sh rfl) (by decide) rfl rfl ⟨(Nat.le_of_ble_eq_true rfl), (Nat.le_of_ble_eq_true rfl)⟩ ⟨(Nat.le_of_ble_eq_true rfl), (Nat.le_of_ble_eq_true rfl)⟩ (Nat.le_of_ble_eq_true rfl) rfl dX7_party_68 (sv_kI (fun r_15 g_14 h => ?_))
        refine sv_locs [0, 1, 2, 3] [(0, .ref (b + 58)), (1, .int v1), (3, .int v3), (4, .int v4)] rfl ?_
        exact aw_X7_party_71 G RR T hL  hK21 ih v1 v3 v4 r_15 3 v4 g_14  h
      · have h := h.1 c_13
        refine sv_bipush (pc := 59) G dX7_party_59 99 bp_99 ?_
        refine sv_goto (pc := 61) G dX7_party_61 71 (by decide) ?_
        refine sv_locs [0, 1, 2, 3] [(0, .ref (b + 58)), (1, .int v1), (3, .int v3), (4, .int v4)] rfl ?_
        exact aw_X7_party_71 G RR T hL  hK21 ih v1 v3 v4 99 3 v4 g_11  h
set_option maxRecDepth 100000 in
set_option maxHeartbeats 4000000 in
theorem aw_X7_party_21 {x : sv_X} {b : Nat} {xt : sv_Xt} {F : sv_Fr} {Q : Int32 → sv_Mg → Prop} (G : sv_G x b xt RX7 cX7_party 5) (RR : sv_R x 10 222 0 0) (T : sv_RT x (some .int)) (hL : sv_Lay F) : ∀ (n : Nat) (v1 : Int32) (v2 : Int32) (v3 : Int32) (g : sv_Mg), wp_X7_party_21 F Q  n v1 v2 v3 g → sv_AW x (sv_Q x (sv_qI F Q) 0 0) F g 0 0 21 [(0, .ref (b + 58)), (1, .int v1), (2, .int v2), (3, .int v3)] [] := by
  intro n
  induction n with
  | zero => intro v1 v2 v3 g h; exact h.elim
  | succ n ih =>
    intro v1 v2 v3 g h
    rw [wp_X7_party_21] at h
    refine sv_iload_n (pc := 21) G dX7_party_21 3 rfl ?_
    refine sv_iconst (pc := 22) G dX7_party_22 4 ic_4 ?_
    refine sv_ic_ge (pc := 23) G 127 (by decide) dX7_party_23 (fun c_16 => ?_) (fun c_16 => ?_)
    · have h := h.1 c_16
      refine sv_iload_n (pc := 127) G dX7_party_127 2 rfl ?_
      refine sv_callS (cs := 0) (sl := 0) (st := []) (As := [.int v2]) (pc := 128) G RR (c_X7_told0 hL  h) mw_X7_told0 lk_X7_177 rfl ⟨(Nat.le_of_ble_eq_true rfl), (Nat.le_of_ble_eq_true rfl)⟩ ⟨(Nat.le_of_ble_eq_true rfl), (Nat.le_of_ble_eq_true rfl)⟩ (Nat.le_of_ble_eq_true rfl) rfl dX7_party_128 (sv_kI (fun r_18 g_17 h => ?_))
      exact sv_ireturn (pc := 131) G T ⟨(Nat.le_of_ble_eq_true rfl), (Nat.le_of_ble_eq_true rfl)⟩ dX7_party_131 ⟨_, rfl, rfl, h⟩
    · have h := h.2 c_16
      refine sv_iload_n (pc := 26) G dX7_party_26 2 rfl ?_
      refine sv_if_ge (pc := 27) G 127 (by decide) dX7_party_27 (fun c_19 => ?_) (fun c_19 => ?_)
      · have h := h.1 c_19
        refine sv_iload_n (pc := 127) G dX7_party_127 2 rfl ?_
        refine sv_callS (cs := 0) (sl := 0) (st := []) (As := [.int v2]) (pc := 128) G RR (c_X7_told0 hL  h) mw_X7_told0 lk_X7_177 rfl ⟨(Nat.le_of_ble_eq_true rfl), (Nat.le_of_ble_eq_true rfl)⟩ ⟨(Nat.le_of_ble_eq_true rfl), (Nat.le_of_ble_eq_true rfl)⟩ (Nat.le_of_ble_eq_true rfl) rfl dX7_party_128 (sv_kI (fun r_21 g_20 h => ?_))
        exact sv_ireturn (pc := 131) G T ⟨(Nat.le_of_ble_eq_true rfl), (Nat.le_of_ble_eq_true rfl)⟩ dX7_party_131 ⟨_, rfl, rfl, h⟩
      · have h := h.2 c_19
        refine sv_iconst (pc := 30) G dX7_party_30 0 ic_0 ?_
        refine sv_istore (pc := 31) G dX7_party_31 [(4, .int 0), (0, .ref (b + 58)), (1, .int v1), (2, .int v2), (3, .int v3)] (by decide) rfl ?_
        refine sv_locs [1, 2, 4, 0] [(0, .ref (b + 58)), (1, .int v1), (3, .int v3), (4, .int 0)] rfl ?_
        obtain ⟨n_22, h⟩ := h
        exact aw_X7_party_33 G RR T hL  ih n_22 v1 v3 0 g  h
set_option maxRecDepth 100000 in
set_option maxHeartbeats 4000000 in
theorem c_X7_party {b : Nat} {xt : sv_Xt} {F : sv_Fr} {v1 : Int32} {g : sv_Mg} {Q : Int32 → sv_Mg → Prop} (hL : sv_Lay F) (h : wp_X7_party F v1 g Q) : sv_Cal yX7_party cX7_party 5 (some .int) 10 222 0 0 b xt [.ref (b + 58), .int v1] F g (sv_qI F Q) := by
  refine sv_intro mw_X7_party [(0, .ref (b + 58)), (1, .int v1)] rfl (Nat.le_of_ble_eq_true rfl) (fun x G RR T NM => ?_)
  have G : sv_G x b xt RX7 cX7_party 5 := G
  unfold wp_X7_party at h
  refine sv_iload_n (pc := 0) G dX7_party_0 1 rfl ?_
  refine sv_iconst (pc := 1) G dX7_party_1 1 ic_1 ?_
  refine sv_bipush (pc := 2) G dX7_party_2 40 bp_40 ?_
  refine sv_callS (cs := 0) (sl := 0) (st := []) (As := [.int v1, .int 1, .int 40]) (pc := 4) G RR (c_X7_in hL  h) mw_X7_in lk_X7_82 rfl ⟨(Nat.le_of_ble_eq_true rfl), (Nat.le_of_ble_eq_true rfl)⟩ ⟨(Nat.le_of_ble_eq_true rfl), (Nat.le_of_ble_eq_true rfl)⟩ (Nat.le_of_ble_eq_true rfl) rfl dX7_party_4 (sv_kI (fun r_24 g_23 h => ?_))
  refine sv_if_ne (pc := 7) G 13 (by decide) dX7_party_7 (fun c_25 => ?_) (fun c_25 => ?_)
  · have h := h.2 c_25
    refine sv_aload_n (pc := 13) G dX7_party_13 0 rfl ?_
    refine sv_callV (cs := 0) (sl := 0) (st := []) (As := []) (a := 58) (pc := 14) G RR (c_X7_thinks hL  h) mw_X7_thinks lk_X7_180 (hL.sh rfl) (by decide) rfl rfl ⟨(Nat.le_of_ble_eq_true rfl), (Nat.le_of_ble_eq_true rfl)⟩ ⟨(Nat.le_of_ble_eq_true rfl), (Nat.le_of_ble_eq_true rfl)⟩ (Nat.le_of_ble_eq_true rfl) rfl dX7_party_14 (sv_kV (fun g_26 h => ?_))
    refine sv_iconst (pc := 17) G dX7_party_17 (-1) ic_m1 ?_
    refine sv_istore_n (pc := 18) G dX7_party_18 [(2, .int (-1)), (0, .ref (b + 58)), (1, .int v1)] (by decide) rfl ?_
    refine sv_iconst (pc := 19) G dX7_party_19 0 ic_0 ?_
    refine sv_istore_n (pc := 20) G dX7_party_20 [(3, .int 0), (2, .int (-1)), (0, .ref (b + 58)), (1, .int v1)] (by decide) rfl ?_
    refine sv_locs [2, 3, 1, 0] [(0, .ref (b + 58)), (1, .int v1), (2, .int (-1)), (3, .int 0)] rfl ?_
    obtain ⟨n_27, h⟩ := h
    exact aw_X7_party_21 G RR T hL   n_27 v1 (-1) 0 g_26  h
  · have h := h.1 c_25
    refine sv_ldc (pc := 10) G dX7_party_10 cn_X7_90 ?_
    exact sv_ireturn (pc := 12) G T ⟨(Nat.le_of_ble_eq_true rfl), (Nat.le_of_ble_eq_true rfl)⟩ dX7_party_12 ⟨_, rfl, rfl, h⟩
def wp_X7_smokes_21 (F : sv_Fr) (Q : Int32 → sv_Mg → Prop) : Nat → Int32 → Int32 → Int32 → sv_Mg → Prop
  | 0, _, _, _, _ => False
  | n + 1, v1, v2, v3, g => ((v1 ≤ v3 → wp_X7_putsBack F  g (fun g_2 => Q v2 g_2)) ∧ (¬ v1 ≤ v3 → wp_X7_round F  g (fun g_3 => ∀ v2_4 : Int32, v2_4 = ((4 * v2) + (g_3 59 8)) → ∀ v3_5 : Int32, v3_5 = v3 + 1 → (wp_X7_smokes_21 F Q  n) v1 v2_4 v3_5 g_3)))
def wp_X7_smokes (F : sv_Fr) (v1 : Int32) (g : sv_Mg) (Q : Int32 → sv_Mg → Prop) : Prop := wp_X7_in F v1 1 12 g (fun r_7 g_6 => ((r_7 = 0 → Q (-1000000001) g_6) ∧ (¬ r_7 = 0 → wp_X7_thinks F  g_6 (fun g_9 => ∃ n_10, wp_X7_smokes_21 F  Q  n_10 v1 0 0 g_9))))
set_option maxRecDepth 100000 in
set_option maxHeartbeats 4000000 in
theorem aw_X7_smokes_21 {x : sv_X} {b : Nat} {xt : sv_Xt} {F : sv_Fr} {Q : Int32 → sv_Mg → Prop} (G : sv_G x b xt RX7 cX7_smokes 4) (RR : sv_R x 9 200 0 0) (T : sv_RT x (some .int)) (hL : sv_Lay F) : ∀ (n : Nat) (v1 : Int32) (v2 : Int32) (v3 : Int32) (g : sv_Mg), wp_X7_smokes_21 F Q  n v1 v2 v3 g → sv_AW x (sv_Q x (sv_qI F Q) 0 0) F g 0 0 21 [(0, .ref (b + 58)), (1, .int v1), (2, .int v2), (3, .int v3)] [] := by
  intro n
  induction n with
  | zero => intro v1 v2 v3 g h; exact h.elim
  | succ n ih =>
    intro v1 v2 v3 g h
    rw [wp_X7_smokes_21] at h
    refine sv_iload_n (pc := 21) G dX7_smokes_21 3 rfl ?_
    refine sv_iload_n (pc := 22) G dX7_smokes_22 1 rfl ?_
    refine sv_ic_ge (pc := 23) G 48 (by decide) dX7_smokes_23 (fun c_1 => ?_) (fun c_1 => ?_)
    · have h := h.1 c_1
      refine sv_aload_n (pc := 48) G dX7_smokes_48 0 rfl ?_
      refine sv_callV (cs := 0) (sl := 0) (st := []) (As := []) (a := 58) (pc := 49) G RR (c_X7_putsBack hL  h) mw_X7_putsBack lk_X7_186 (hL.sh rfl) (by decide) rfl rfl ⟨(Nat.le_of_ble_eq_true rfl), (Nat.le_of_ble_eq_true rfl)⟩ ⟨(Nat.le_of_ble_eq_true rfl), (Nat.le_of_ble_eq_true rfl)⟩ (Nat.le_of_ble_eq_true rfl) rfl dX7_smokes_49 (sv_kV (fun g_2 h => ?_))
      refine sv_iload_n (pc := 52) G dX7_smokes_52 2 rfl ?_
      exact sv_ireturn (pc := 53) G T ⟨(Nat.le_of_ble_eq_true rfl), (Nat.le_of_ble_eq_true rfl)⟩ dX7_smokes_53 ⟨_, rfl, rfl, h⟩
    · have h := h.2 c_1
      refine sv_aload_n (pc := 26) G dX7_smokes_26 0 rfl ?_
      refine sv_callV (cs := 0) (sl := 0) (st := []) (As := []) (a := 58) (pc := 27) G RR (c_X7_round hL  h) mw_X7_round lk_X7_167 (hL.sh rfl) (by decide) rfl rfl ⟨(Nat.le_of_ble_eq_true rfl), (Nat.le_of_ble_eq_true rfl)⟩ ⟨(Nat.le_of_ble_eq_true rfl), (Nat.le_of_ble_eq_true rfl)⟩ (Nat.le_of_ble_eq_true rfl) rfl dX7_smokes_27 (sv_kV (fun g_3 h => ?_))
      refine sv_iconst (pc := 30) G dX7_smokes_30 4 ic_4 ?_
      refine sv_iload_n (pc := 31) G dX7_smokes_31 2 rfl ?_
      refine sv_imul (pc := 32) G dX7_smokes_32 ?_
      refine sv_aload_n (pc := 33) G dX7_smokes_33 0 rfl ?_
      refine sv_getR (pc := 34) G fw_X7_9 (hL.sh rfl) rfl (hL.rf 60 rfl) dX7_smokes_34 ?_
      refine sv_bipush (pc := 37) G dX7_smokes_37 8 bp_8 ?_
      refine sv_ialdK (pc := 39) G (hL.sh rfl) vi_8_1443 8 tn_8 dX7_smokes_39 ?_
      refine sv_iadd (pc := 40) G dX7_smokes_40 ?_
      refine sv_topi (fun v2_4 ev2_4 => ?_)
      have h := h v2_4 ev2_4
      refine sv_istore_n (pc := 41) G dX7_smokes_41 [(2, .int v2_4), (0, .ref (b + 58)), (1, .int v1), (3, .int v3)] (by decide) rfl ?_
      obtain ⟨v3_5, ev3_5⟩ : ∃ y : Int32, y = v3 + 1 := ⟨_, rfl⟩
      have h := h v3_5 ev3_5
      refine sv_iinc (pc := 42) G dX7_smokes_42 3 v3_5 [(3, .int v3_5), (2, .int v2_4), (0, .ref (b + 58)), (1, .int v1)] (by rw [ev3_5, ic_1]) rfl (by decide) rfl ?_
      refine sv_goto (pc := 45) G dX7_smokes_45 21 (by decide) ?_
      refine sv_locs [2, 3, 1, 0] [(0, .ref (b + 58)), (1, .int v1), (2, .int v2_4), (3, .int v3_5)] rfl ?_
      exact ih v1 v2_4 v3_5 g_3  h
set_option maxRecDepth 100000 in
set_option maxHeartbeats 4000000 in
theorem c_X7_smokes {b : Nat} {xt : sv_Xt} {F : sv_Fr} {v1 : Int32} {g : sv_Mg} {Q : Int32 → sv_Mg → Prop} (hL : sv_Lay F) (h : wp_X7_smokes F v1 g Q) : sv_Cal yX7_smokes cX7_smokes 4 (some .int) 9 200 0 0 b xt [.ref (b + 58), .int v1] F g (sv_qI F Q) := by
  refine sv_intro mw_X7_smokes [(0, .ref (b + 58)), (1, .int v1)] rfl (Nat.le_of_ble_eq_true rfl) (fun x G RR T NM => ?_)
  have G : sv_G x b xt RX7 cX7_smokes 4 := G
  unfold wp_X7_smokes at h
  refine sv_iload_n (pc := 0) G dX7_smokes_0 1 rfl ?_
  refine sv_iconst (pc := 1) G dX7_smokes_1 1 ic_1 ?_
  refine sv_bipush (pc := 2) G dX7_smokes_2 12 bp_12 ?_
  refine sv_callS (cs := 0) (sl := 0) (st := []) (As := [.int v1, .int 1, .int 12]) (pc := 4) G RR (c_X7_in hL  h) mw_X7_in lk_X7_82 rfl ⟨(Nat.le_of_ble_eq_true rfl), (Nat.le_of_ble_eq_true rfl)⟩ ⟨(Nat.le_of_ble_eq_true rfl), (Nat.le_of_ble_eq_true rfl)⟩ (Nat.le_of_ble_eq_true rfl) rfl dX7_smokes_4 (sv_kI (fun r_7 g_6 h => ?_))
  refine sv_if_ne (pc := 7) G 13 (by decide) dX7_smokes_7 (fun c_8 => ?_) (fun c_8 => ?_)
  · have h := h.2 c_8
    refine sv_aload_n (pc := 13) G dX7_smokes_13 0 rfl ?_
    refine sv_callV (cs := 0) (sl := 0) (st := []) (As := []) (a := 58) (pc := 14) G RR (c_X7_thinks hL  h) mw_X7_thinks lk_X7_180 (hL.sh rfl) (by decide) rfl rfl ⟨(Nat.le_of_ble_eq_true rfl), (Nat.le_of_ble_eq_true rfl)⟩ ⟨(Nat.le_of_ble_eq_true rfl), (Nat.le_of_ble_eq_true rfl)⟩ (Nat.le_of_ble_eq_true rfl) rfl dX7_smokes_14 (sv_kV (fun g_9 h => ?_))
    refine sv_iconst (pc := 17) G dX7_smokes_17 0 ic_0 ?_
    refine sv_istore_n (pc := 18) G dX7_smokes_18 [(2, .int 0), (0, .ref (b + 58)), (1, .int v1)] (by decide) rfl ?_
    refine sv_iconst (pc := 19) G dX7_smokes_19 0 ic_0 ?_
    refine sv_istore_n (pc := 20) G dX7_smokes_20 [(3, .int 0), (2, .int 0), (0, .ref (b + 58)), (1, .int v1)] (by decide) rfl ?_
    refine sv_locs [2, 3, 1, 0] [(0, .ref (b + 58)), (1, .int v1), (2, .int 0), (3, .int 0)] rfl ?_
    obtain ⟨n_10, h⟩ := h
    exact aw_X7_smokes_21 G RR T hL   n_10 v1 0 0 g_9  h
  · have h := h.1 c_8
    refine sv_ldc (pc := 10) G dX7_smokes_10 cn_X7_90 ?_
    exact sv_ireturn (pc := 12) G T ⟨(Nat.le_of_ble_eq_true rfl), (Nat.le_of_ble_eq_true rfl)⟩ dX7_smokes_12 ⟨_, rfl, rfl, h⟩
def wp_X7_offBy_83 (F : sv_Fr) (Q : Int64 → sv_Mg → Prop) (K13 : Int32 → Int64 → Int32 → sv_Mg → Prop) (v1 : Int32) (v5 : Int32) (s0 : Int64) (s1 : Int64) (g : sv_Mg) : Prop := ∀ v3_1 : Int64, v3_1 = (s1 + s0) → ∀ v5_2 : Int32, v5_2 = v5 + 1 → K13 v1 v3_1 v5_2 g
def wp_X7_offBy_13 (F : sv_Fr) (Q : Int64 → sv_Mg → Prop) : Nat → Int32 → Int64 → Int32 → sv_Mg → Prop
  | 0, _, _, _, _ => False
  | n + 1, v1, v3, v5, g => vp_in v1 4 ∧ (((g 74 v1.toNatClampNeg) ≤ v5 → wp_X7_putsBack F  g (fun g_5 => Q v3 g_5)) ∧ (¬ (g 74 v1.toNatClampNeg) ≤ v5 → wp_X7_round F  g (fun g_6 => vp_in ((24 * v1) + v5) 96 ∧ ∀ v6_8 : Int32, v6_8 = (g_6 75 ((24 * v1) + v5).toNatClampNeg) → ∀ v7_9 : Int64, v7_9 = (v6_8.toInt64 - (g_6 59 8).toInt64) → ((v6_8 = (-1000000005) → wp_X7_offBy_83 F  Q (wp_X7_offBy_13 F Q  n) v1 v5 (0 : Int64) v3 g_6) ∧ (¬ v6_8 = (-1000000005) → ((0 ≤ (lg_cmp v7_9 (0 : Int64)) → wp_X7_offBy_83 F  Q (wp_X7_offBy_13 F Q  n) v1 v5 v7_9 v3 g_6) ∧ (¬ 0 ≤ (lg_cmp v7_9 (0 : Int64)) → wp_X7_offBy_83 F  Q (wp_X7_offBy_13 F Q  n) v1 v5 (0 - v7_9) v3 g_6)))))))
def wp_X7_offBy (F : sv_Fr) (v1 : Int32) (v2 : Int32) (g : sv_Mg) (Q : Int64 → sv_Mg → Prop) : Prop := ∀ g_12, g_12 = sv_st g 59 6 v2 → ∀ v3_13 : Int64, v3_13 = (0 : Int64) → ∃ n_14, wp_X7_offBy_13 F  Q  n_14 v1 v3_13 0 g_12
set_option maxRecDepth 100000 in
set_option maxHeartbeats 4000000 in
theorem aw_X7_offBy_83 {x : sv_X} {b : Nat} {xt : sv_Xt} {F : sv_Fr} {Q : Int64 → sv_Mg → Prop} (G : sv_G x b xt RX7 cX7_offBy 9) (RR : sv_R x 9 200 0 0) (T : sv_RT x (some .long)) (hL : sv_Lay F) {K13 : Int32 → Int64 → Int32 → sv_Mg → Prop} (hK13 : ∀ (v1 : Int32) (v3 : Int64) (v5 : Int32) (g : sv_Mg), K13 v1 v3 v5 g → sv_AW x (sv_Q x (sv_qL F Q) 0 0) F g 0 0 13 [(0, .ref (b + 58)), (1, .int v1), (3, .long v3), (5, .int v5)] []) : ∀ (v1 : Int32) (v5 : Int32) (s0 : Int64) (s1 : Int64) (g : sv_Mg), wp_X7_offBy_83 F Q K13 v1 v5 s0 s1 g → sv_AW x (sv_Q x (sv_qL F Q) 0 0) F g 0 0 83 [(0, .ref (b + 58)), (1, .int v1), (5, .int v5)] [.long s0, .long s1] := by
  intro v1 v5 s0 s1 g h
  unfold wp_X7_offBy_83 at h
  refine sv_ladd (pc := 83) G dX7_offBy_83 ?_
  refine sv_topl (fun v3_1 ev3_1 => ?_)
  have h := h v3_1 ev3_1
  refine sv_lstore_n (pc := 84) G dX7_offBy_84 [(3, .long v3_1), (0, .ref (b + 58)), (1, .int v1), (5, .int v5)] (by decide) rfl ?_
  obtain ⟨v5_2, ev5_2⟩ : ∃ y : Int32, y = v5 + 1 := ⟨_, rfl⟩
  have h := h v5_2 ev5_2
  refine sv_iinc (pc := 85) G dX7_offBy_85 3 v5_2 [(5, .int v5_2), (3, .long v3_1), (0, .ref (b + 58)), (1, .int v1)] (by rw [ev5_2, ic_1]) rfl (by decide) rfl ?_
  refine sv_goto (pc := 88) G dX7_offBy_88 13 (by decide) ?_
  refine sv_locs [2, 3, 1, 0] [(0, .ref (b + 58)), (1, .int v1), (3, .long v3_1), (5, .int v5_2)] rfl ?_
  exact hK13 v1 v3_1 v5_2 g  h
set_option maxRecDepth 100000 in
set_option maxHeartbeats 4000000 in
theorem aw_X7_offBy_13 {x : sv_X} {b : Nat} {xt : sv_Xt} {F : sv_Fr} {Q : Int64 → sv_Mg → Prop} (G : sv_G x b xt RX7 cX7_offBy 9) (RR : sv_R x 9 200 0 0) (T : sv_RT x (some .long)) (hL : sv_Lay F) : ∀ (n : Nat) (v1 : Int32) (v3 : Int64) (v5 : Int32) (g : sv_Mg), wp_X7_offBy_13 F Q  n v1 v3 v5 g → sv_AW x (sv_Q x (sv_qL F Q) 0 0) F g 0 0 13 [(0, .ref (b + 58)), (1, .int v1), (3, .long v3), (5, .int v5)] [] := by
  intro n
  induction n with
  | zero => intro v1 v3 v5 g h; exact h.elim
  | succ n ih =>
    intro v1 v3 v5 g h
    rw [wp_X7_offBy_13] at h
    refine sv_iload (pc := 13) G dX7_offBy_13 3 rfl ?_
    refine sv_aload_n (pc := 15) G dX7_offBy_15 0 rfl ?_
    refine sv_getR (pc := 16) G fw_X7_57 (hL.sh rfl) rfl (hL.rf 75 rfl) dX7_offBy_16 ?_
    refine sv_iload_n (pc := 19) G dX7_offBy_19 1 rfl ?_
    obtain ⟨s_3, h⟩ := h
    refine sv_ialdK (pc := 20) G (hL.sh rfl) s_3 v1.toNatClampNeg rfl dX7_offBy_20 ?_
    refine sv_ic_ge (pc := 21) G 91 (by decide) dX7_offBy_21 (fun c_4 => ?_) (fun c_4 => ?_)
    · have h := h.1 c_4
      refine sv_aload_n (pc := 91) G dX7_offBy_91 0 rfl ?_
      refine sv_callV (cs := 0) (sl := 0) (st := []) (As := []) (a := 58) (pc := 92) G RR (c_X7_putsBack hL  h) mw_X7_putsBack lk_X7_186 (hL.sh rfl) (by decide) rfl rfl ⟨(Nat.le_of_ble_eq_true rfl), (Nat.le_of_ble_eq_true rfl)⟩ ⟨(Nat.le_of_ble_eq_true rfl), (Nat.le_of_ble_eq_true rfl)⟩ (Nat.le_of_ble_eq_true rfl) rfl dX7_offBy_92 (sv_kV (fun g_5 h => ?_))
      refine sv_lload_n (pc := 95) G dX7_offBy_95 2 rfl ?_
      exact sv_lreturn (pc := 96) G T ⟨(Nat.le_of_ble_eq_true rfl), (Nat.le_of_ble_eq_true rfl)⟩ dX7_offBy_96 ⟨_, rfl, rfl, h⟩
    · have h := h.2 c_4
      refine sv_aload_n (pc := 24) G dX7_offBy_24 0 rfl ?_
      refine sv_callV (cs := 0) (sl := 0) (st := []) (As := []) (a := 58) (pc := 25) G RR (c_X7_round hL  h) mw_X7_round lk_X7_167 (hL.sh rfl) (by decide) rfl rfl ⟨(Nat.le_of_ble_eq_true rfl), (Nat.le_of_ble_eq_true rfl)⟩ ⟨(Nat.le_of_ble_eq_true rfl), (Nat.le_of_ble_eq_true rfl)⟩ (Nat.le_of_ble_eq_true rfl) rfl dX7_offBy_25 (sv_kV (fun g_6 h => ?_))
      refine sv_aload_n (pc := 28) G dX7_offBy_28 0 rfl ?_
      refine sv_getR (pc := 29) G fw_X7_60 (hL.sh rfl) rfl (hL.rf 76 rfl) dX7_offBy_29 ?_
      refine sv_bipush (pc := 32) G dX7_offBy_32 24 bp_24 ?_
      refine sv_iload_n (pc := 34) G dX7_offBy_34 1 rfl ?_
      refine sv_imul (pc := 35) G dX7_offBy_35 ?_
      refine sv_iload (pc := 36) G dX7_offBy_36 3 rfl ?_
      refine sv_iadd (pc := 38) G dX7_offBy_38 ?_
      obtain ⟨s_7, h⟩ := h
      refine sv_ialdK (pc := 39) G (hL.sh rfl) s_7 ((24 * v1) + v5).toNatClampNeg rfl dX7_offBy_39 ?_
      refine sv_topi (fun v6_8 ev6_8 => ?_)
      have h := h v6_8 ev6_8
      refine sv_istore (pc := 40) G dX7_offBy_40 [(6, .int v6_8), (0, .ref (b + 58)), (1, .int v1), (3, .long v3), (5, .int v5)] (by decide) rfl ?_
      refine sv_iload (pc := 42) G dX7_offBy_42 0 rfl ?_
      refine sv_i2l (pc := 44) G dX7_offBy_44 ?_
      refine sv_aload_n (pc := 45) G dX7_offBy_45 1 rfl ?_
      refine sv_getR (pc := 46) G fw_X7_9 (hL.sh rfl) rfl (hL.rf 60 rfl) dX7_offBy_46 ?_
      refine sv_bipush (pc := 49) G dX7_offBy_49 8 bp_8 ?_
      refine sv_ialdK (pc := 51) G (hL.sh rfl) vi_8_1443 8 tn_8 dX7_offBy_51 ?_
      refine sv_i2l (pc := 52) G dX7_offBy_52 ?_
      refine sv_lsub (pc := 53) G dX7_offBy_53 ?_
      refine sv_topl (fun v7_9 ev7_9 => ?_)
      have h := h v7_9 ev7_9
      refine sv_lstore (pc := 54) G dX7_offBy_54 [(7, .long v7_9), (6, .int v6_8), (0, .ref (b + 58)), (1, .int v1), (3, .long v3), (5, .int v5)] (by decide) rfl ?_
      refine sv_lload_n (pc := 56) G dX7_offBy_56 4 rfl ?_
      refine sv_iload (pc := 57) G dX7_offBy_57 1 rfl ?_
      refine sv_ldc (pc := 59) G dX7_offBy_59 cn_X7_81 ?_
      refine sv_ic_ne (pc := 61) G 68 (by decide) dX7_offBy_61 (fun c_10 => ?_) (fun c_10 => ?_)
      · have h := h.2 c_10
        refine sv_lload (pc := 68) G dX7_offBy_68 0 rfl ?_
        refine sv_lconst (pc := 70) G dX7_offBy_70 0 rfl ?_
        refine sv_lcmp (pc := 71) G dX7_offBy_71 ?_
        refine sv_if_ge (pc := 72) G 81 (by decide) dX7_offBy_72 (fun c_11 => ?_) (fun c_11 => ?_)
        · have h := h.1 c_11
          refine sv_lload (pc := 81) G dX7_offBy_81 0 rfl ?_
          refine sv_locs [2, 3, 5] [(0, .ref (b + 58)), (1, .int v1), (5, .int v5)] rfl ?_
          exact aw_X7_offBy_83 G RR T hL  ih v1 v5 v7_9 v3 g_6  h
        · have h := h.2 c_11
          refine sv_lload (pc := 75) G dX7_offBy_75 0 rfl ?_
          refine sv_lneg (pc := 77) G dX7_offBy_77 ?_
          refine sv_goto (pc := 78) G dX7_offBy_78 83 (by decide) ?_
          refine sv_locs [2, 3, 5] [(0, .ref (b + 58)), (1, .int v1), (5, .int v5)] rfl ?_
          exact aw_X7_offBy_83 G RR T hL  ih v1 v5 (0 - v7_9) v3 g_6  h
      · have h := h.1 c_10
        refine sv_lconst (pc := 64) G dX7_offBy_64 0 rfl ?_
        refine sv_goto (pc := 65) G dX7_offBy_65 83 (by decide) ?_
        refine sv_locs [2, 3, 5] [(0, .ref (b + 58)), (1, .int v1), (5, .int v5)] rfl ?_
        exact aw_X7_offBy_83 G RR T hL  ih v1 v5 (0 : Int64) v3 g_6  h
set_option maxRecDepth 100000 in
set_option maxHeartbeats 4000000 in
theorem c_X7_offBy {b : Nat} {xt : sv_Xt} {F : sv_Fr} {v1 : Int32} {v2 : Int32} {g : sv_Mg} {Q : Int64 → sv_Mg → Prop} (hL : sv_Lay F) (h : wp_X7_offBy F v1 v2 g Q) : sv_Cal yX7_offBy cX7_offBy 9 (some .long) 9 200 0 0 b xt [.ref (b + 58), .int v1, .int v2] F g (sv_qL F Q) := by
  refine sv_intro mw_X7_offBy [(0, .ref (b + 58)), (1, .int v1), (2, .int v2)] rfl (Nat.le_of_ble_eq_true rfl) (fun x G RR T NM => ?_)
  have G : sv_G x b xt RX7 cX7_offBy 9 := G
  unfold wp_X7_offBy at h
  refine sv_aload_n (pc := 0) G dX7_offBy_0 0 rfl ?_
  refine sv_getR (pc := 1) G fw_X7_9 (hL.sh rfl) rfl (hL.rf 60 rfl) dX7_offBy_1 ?_
  refine sv_bipush (pc := 4) G dX7_offBy_4 6 bp_6 ?_
  refine sv_iload_n (pc := 6) G dX7_offBy_6 2 rfl ?_
  refine sv_iastK (pc := 7) G (hL.sh rfl) vi_6_1443 6 tn_6 dX7_offBy_7 (fun g_12 eg_12 => ?_)
  have h := h g_12 eg_12
  refine sv_lconst (pc := 8) G dX7_offBy_8 0 rfl ?_
  refine sv_topl (fun v3_13 ev3_13 => ?_)
  have h := h v3_13 ev3_13
  refine sv_lstore_n (pc := 9) G dX7_offBy_9 [(3, .long v3_13), (0, .ref (b + 58)), (1, .int v1), (2, .int v2)] (by decide) rfl ?_
  refine sv_iconst (pc := 10) G dX7_offBy_10 0 ic_0 ?_
  refine sv_istore (pc := 11) G dX7_offBy_11 [(5, .int 0), (3, .long v3_13), (0, .ref (b + 58)), (1, .int v1), (2, .int v2)] (by decide) rfl ?_
  refine sv_locs [2, 3, 1, 0] [(0, .ref (b + 58)), (1, .int v1), (3, .long v3_13), (5, .int 0)] rfl ?_
  obtain ⟨n_14, h⟩ := h
  exact aw_X7_offBy_13 G RR T hL   n_14 v1 v3_13 0 g_12  h
def wp_X7_isSheet (F : sv_Fr) (v0 : Int32) (g : sv_Mg) (Q : Int32 → sv_Mg → Prop) : Prop := wp_X7_in F v0 0 3 g (fun r_2 g_1 => (r_2 = 0 ∨ r_2 = 1) ∧ Q r_2 g_1)
set_option maxRecDepth 100000 in
set_option maxHeartbeats 4000000 in
theorem c_X7_isSheet {b : Nat} {xt : sv_Xt} {F : sv_Fr} {v0 : Int32} {g : sv_Mg} {Q : Int32 → sv_Mg → Prop} (hL : sv_Lay F) (h : wp_X7_isSheet F v0 g Q) : sv_Cal yX7_isSheet cX7_isSheet 1 (some .boolean) 1 22 0 0 b xt [.int v0] F g (sv_qI F Q) := by
  refine sv_intro mw_X7_isSheet [(0, .int v0)] rfl (Nat.le_of_ble_eq_true rfl) (fun x G RR T NM => ?_)
  have G : sv_G x b xt RX7 cX7_isSheet 1 := G
  unfold wp_X7_isSheet at h
  refine sv_iload_n (pc := 0) G dX7_isSheet_0 0 rfl ?_
  refine sv_iconst (pc := 1) G dX7_isSheet_1 0 ic_0 ?_
  refine sv_iconst (pc := 2) G dX7_isSheet_2 3 ic_3 ?_
  refine sv_callS (cs := 0) (sl := 0) (st := []) (As := [.int v0, .int 0, .int 3]) (pc := 3) G RR (c_X7_in hL  h) mw_X7_in lk_X7_82 rfl ⟨(Nat.le_of_ble_eq_true rfl), (Nat.le_of_ble_eq_true rfl)⟩ ⟨(Nat.le_of_ble_eq_true rfl), (Nat.le_of_ble_eq_true rfl)⟩ (Nat.le_of_ble_eq_true rfl) rfl dX7_isSheet_3 (sv_kI (fun r_2 g_1 h => ?_))
  obtain ⟨s_3, h⟩ := h
  exact sv_zreturn (pc := 6) G T s_3 ⟨(Nat.le_of_ble_eq_true rfl), (Nat.le_of_ble_eq_true rfl)⟩ dX7_isSheet_6 ⟨_, rfl, rfl, h⟩
def wp_X7_fits_94 (F : sv_Fr) (Q : Int32 → sv_Mg → Prop) (K48 : Int32 → Int32 → Int32 → Int64 → Int32 → sv_Mg → Prop) (v1 : Int32) (v2 : Int32) (v3 : Int32) (v6 : Int32) (s0 : Int64) (g : sv_Mg) : Prop := ∀ v6_1 : Int32, v6_1 = v6 + 1 → K48 v1 v2 v3 s0 v6_1 g
def wp_X7_fits_78 (F : sv_Fr) (Q : Int32 → sv_Mg → Prop) (K48 : Int32 → Int32 → Int32 → Int64 → Int32 → sv_Mg → Prop) (v1 : Int32) (v2 : Int32) (v4 : Int64) (v6 : Int32) (v7 : Int64) (s0 : Int32) (g : sv_Mg) : Prop := ((0 ≤ (lg_cmp v7 v4) → wp_X7_fits_94 F  Q K48 v1 v2 s0 v6 v4 g) ∧ (¬ 0 ≤ (lg_cmp v7 v4) → wp_X7_fits_94 F  Q K48 v1 v2 s0 v6 v7 g))
def wp_X7_fits_48 (F : sv_Fr) (Q : Int32 → sv_Mg → Prop) : Nat → Int32 → Int32 → Int32 → Int64 → Int32 → sv_Mg → Prop
  | 0, _, _, _, _, _, _ => False
  | n + 1, v1, v2, v3, v4, v6, g => ((21 ≤ v6 → ((v2 = 0 → Q v3 g) ∧ (¬ v2 = 0 → Q v4.toInt32 g))) ∧ (¬ 21 ≤ v6 → wp_X7_offBy F v1 v6 g (fun r_6 g_5 => ((0 ≤ (lg_cmp r_6 v4) → wp_X7_fits_78 F  Q (wp_X7_fits_48 F Q  n) v1 v2 v4 v6 r_6 v3 g_5) ∧ (¬ 0 ≤ (lg_cmp r_6 v4) → wp_X7_fits_78 F  Q (wp_X7_fits_48 F Q  n) v1 v2 v4 v6 r_6 v6 g_5)))))
def wp_X7_fits (F : sv_Fr) (v1 : Int32) (v2 : Int32) (g : sv_Mg) (Q : Int32 → sv_Mg → Prop) : Prop := wp_X7_isSheet F v1 g (fun r_9 g_8 => ((r_9 = 0 → Q (-1000000001) g_8) ∧ (¬ r_9 = 0 → wp_X7_in F v2 0 1 g_8 (fun r_12 g_11 => ((r_12 = 0 → Q (-1000000001) g_11) ∧ (¬ r_12 = 0 → vp_in v1 4 ∧ ((0 ≤ (g_11 73 v1.toNatClampNeg) → wp_X7_thinks F  g_11 (fun g_16 => wp_X7_offBy F v1 1 g_16 (fun r_18 g_17 => ∃ n_19, wp_X7_fits_48 F  Q  n_19 v1 v2 1 r_18 2 g_17))) ∧ (¬ 0 ≤ (g_11 73 v1.toNatClampNeg) → Q (-1000000011) g_11))))))))
set_option maxRecDepth 100000 in
set_option maxHeartbeats 4000000 in
theorem aw_X7_fits_94 {x : sv_X} {b : Nat} {xt : sv_Xt} {F : sv_Fr} {Q : Int32 → sv_Mg → Prop} (G : sv_G x b xt RX7 cX7_fits 9) (RR : sv_R x 10 228 0 0) (T : sv_RT x (some .int)) (hL : sv_Lay F) {K48 : Int32 → Int32 → Int32 → Int64 → Int32 → sv_Mg → Prop} (hK48 : ∀ (v1 : Int32) (v2 : Int32) (v3 : Int32) (v4 : Int64) (v6 : Int32) (g : sv_Mg), K48 v1 v2 v3 v4 v6 g → sv_AW x (sv_Q x (sv_qI F Q) 0 0) F g 0 0 48 [(0, .ref (b + 58)), (1, .int v1), (2, .int v2), (3, .int v3), (4, .long v4), (6, .int v6)] []) : ∀ (v1 : Int32) (v2 : Int32) (v3 : Int32) (v6 : Int32) (s0 : Int64) (g : sv_Mg), wp_X7_fits_94 F Q K48 v1 v2 v3 v6 s0 g → sv_AW x (sv_Q x (sv_qI F Q) 0 0) F g 0 0 94 [(0, .ref (b + 58)), (1, .int v1), (2, .int v2), (3, .int v3), (6, .int v6)] [.long s0] := by
  intro v1 v2 v3 v6 s0 g h
  unfold wp_X7_fits_94 at h
  refine sv_lstore (pc := 94) G dX7_fits_94 [(4, .long s0), (0, .ref (b + 58)), (1, .int v1), (2, .int v2), (3, .int v3), (6, .int v6)] (by decide) rfl ?_
  obtain ⟨v6_1, ev6_1⟩ : ∃ y : Int32, y = v6 + 1 := ⟨_, rfl⟩
  have h := h v6_1 ev6_1
  refine sv_iinc (pc := 96) G dX7_fits_96 5 v6_1 [(6, .int v6_1), (4, .long s0), (0, .ref (b + 58)), (1, .int v1), (2, .int v2), (3, .int v3)] (by rw [ev6_1, ic_1]) rfl (by decide) rfl ?_
  refine sv_goto (pc := 99) G dX7_fits_99 48 (by decide) ?_
  refine sv_locs [2, 3, 4, 5, 1, 0] [(0, .ref (b + 58)), (1, .int v1), (2, .int v2), (3, .int v3), (4, .long s0), (6, .int v6_1)] rfl ?_
  exact hK48 v1 v2 v3 s0 v6_1 g  h
set_option maxRecDepth 100000 in
set_option maxHeartbeats 4000000 in
theorem aw_X7_fits_78 {x : sv_X} {b : Nat} {xt : sv_Xt} {F : sv_Fr} {Q : Int32 → sv_Mg → Prop} (G : sv_G x b xt RX7 cX7_fits 9) (RR : sv_R x 10 228 0 0) (T : sv_RT x (some .int)) (hL : sv_Lay F) {K48 : Int32 → Int32 → Int32 → Int64 → Int32 → sv_Mg → Prop} (hK48 : ∀ (v1 : Int32) (v2 : Int32) (v3 : Int32) (v4 : Int64) (v6 : Int32) (g : sv_Mg), K48 v1 v2 v3 v4 v6 g → sv_AW x (sv_Q x (sv_qI F Q) 0 0) F g 0 0 48 [(0, .ref (b + 58)), (1, .int v1), (2, .int v2), (3, .int v3), (4, .long v4), (6, .int v6)] []) : ∀ (v1 : Int32) (v2 : Int32) (v4 : Int64) (v6 : Int32) (v7 : Int64) (s0 : Int32) (g : sv_Mg), wp_X7_fits_78 F Q K48 v1 v2 v4 v6 v7 s0 g → sv_AW x (sv_Q x (sv_qI F Q) 0 0) F g 0 0 78 [(0, .ref (b + 58)), (1, .int v1), (2, .int v2), (4, .long v4), (6, .int v6), (7, .long v7)] [.int s0] := by
  intro v1 v2 v4 v6 v7 s0 g h
  unfold wp_X7_fits_78 at h
  refine sv_istore_n (pc := 78) G dX7_fits_78 [(3, .int s0), (0, .ref (b + 58)), (1, .int v1), (2, .int v2), (4, .long v4), (6, .int v6), (7, .long v7)] (by decide) rfl ?_
  refine sv_lload (pc := 79) G dX7_fits_79 6 rfl ?_
  refine sv_lload (pc := 81) G dX7_fits_81 4 rfl ?_
  refine sv_lcmp (pc := 83) G dX7_fits_83 ?_
  refine sv_if_ge (pc := 84) G 92 (by decide) dX7_fits_84 (fun c_2 => ?_) (fun c_2 => ?_)
  · have h := h.1 c_2
    refine sv_lload (pc := 92) G dX7_fits_92 4 rfl ?_
    refine sv_locs [1, 2, 3, 0, 5] [(0, .ref (b + 58)), (1, .int v1), (2, .int v2), (3, .int s0), (6, .int v6)] rfl ?_
    exact aw_X7_fits_94 G RR T hL  hK48 v1 v2 s0 v6 v4 g  h
  · have h := h.2 c_2
    refine sv_lload (pc := 87) G dX7_fits_87 6 rfl ?_
    refine sv_goto (pc := 89) G dX7_fits_89 94 (by decide) ?_
    refine sv_locs [1, 2, 3, 0, 5] [(0, .ref (b + 58)), (1, .int v1), (2, .int v2), (3, .int s0), (6, .int v6)] rfl ?_
    exact aw_X7_fits_94 G RR T hL  hK48 v1 v2 s0 v6 v7 g  h
set_option maxRecDepth 100000 in
set_option maxHeartbeats 4000000 in
theorem aw_X7_fits_48 {x : sv_X} {b : Nat} {xt : sv_Xt} {F : sv_Fr} {Q : Int32 → sv_Mg → Prop} (G : sv_G x b xt RX7 cX7_fits 9) (RR : sv_R x 10 228 0 0) (T : sv_RT x (some .int)) (hL : sv_Lay F) : ∀ (n : Nat) (v1 : Int32) (v2 : Int32) (v3 : Int32) (v4 : Int64) (v6 : Int32) (g : sv_Mg), wp_X7_fits_48 F Q  n v1 v2 v3 v4 v6 g → sv_AW x (sv_Q x (sv_qI F Q) 0 0) F g 0 0 48 [(0, .ref (b + 58)), (1, .int v1), (2, .int v2), (3, .int v3), (4, .long v4), (6, .int v6)] [] := by
  intro n
  induction n with
  | zero => intro v1 v2 v3 v4 v6 g h; exact h.elim
  | succ n ih =>
    intro v1 v2 v3 v4 v6 g h
    rw [wp_X7_fits_48] at h
    refine sv_iload (pc := 48) G dX7_fits_48 5 rfl ?_
    refine sv_bipush (pc := 50) G dX7_fits_50 21 bp_21 ?_
    refine sv_ic_ge (pc := 52) G 102 (by decide) dX7_fits_52 (fun c_3 => ?_) (fun c_3 => ?_)
    · have h := h.1 c_3
      refine sv_iload_n (pc := 102) G dX7_fits_102 2 rfl ?_
      refine sv_if_ne (pc := 103) G 110 (by decide) dX7_fits_103 (fun c_4 => ?_) (fun c_4 => ?_)
      · have h := h.2 c_4
        refine sv_lload (pc := 110) G dX7_fits_110 4 rfl ?_
        refine sv_l2i (pc := 112) G dX7_fits_112 ?_
        exact sv_ireturn (pc := 113) G T ⟨(Nat.le_of_ble_eq_true rfl), (Nat.le_of_ble_eq_true rfl)⟩ dX7_fits_113 ⟨_, rfl, rfl, h⟩
      · have h := h.1 c_4
        refine sv_iload_n (pc := 106) G dX7_fits_106 3 rfl ?_
        refine sv_goto (pc := 107) G dX7_fits_107 113 (by decide) ?_
        exact sv_ireturn (pc := 113) G T ⟨(Nat.le_of_ble_eq_true rfl), (Nat.le_of_ble_eq_true rfl)⟩ dX7_fits_113 ⟨_, rfl, rfl, h⟩
    · have h := h.2 c_3
      refine sv_aload_n (pc := 55) G dX7_fits_55 0 rfl ?_
      refine sv_iload_n (pc := 56) G dX7_fits_56 1 rfl ?_
      refine sv_iload (pc := 57) G dX7_fits_57 5 rfl ?_
      refine sv_callV (cs := 0) (sl := 0) (st := []) (As := [.int v1, .int v6]) (a := 58) (pc := 59) G RR (c_X7_offBy hL  h) mw_X7_offBy lk_X7_193 (hL.sh rfl) (by decide) rfl rfl ⟨(Nat.le_of_ble_eq_true rfl), (Nat.le_of_ble_eq_true rfl)⟩ ⟨(Nat.le_of_ble_eq_true rfl), (Nat.le_of_ble_eq_true rfl)⟩ (Nat.le_of_ble_eq_true rfl) rfl dX7_fits_59 (sv_kL (fun r_6 g_5 h => ?_))
      refine sv_lstore (pc := 62) G dX7_fits_62 [(7, .long r_6), (0, .ref (b + 58)), (1, .int v1), (2, .int v2), (3, .int v3), (4, .long v4), (6, .int v6)] (by decide) rfl ?_
      refine sv_lload (pc := 64) G dX7_fits_64 0 rfl ?_
      refine sv_lload (pc := 66) G dX7_fits_66 5 rfl ?_
      refine sv_lcmp (pc := 68) G dX7_fits_68 ?_
      refine sv_if_ge (pc := 69) G 77 (by decide) dX7_fits_69 (fun c_7 => ?_) (fun c_7 => ?_)
      · have h := h.1 c_7
        refine sv_iload_n (pc := 77) G dX7_fits_77 4 rfl ?_
        refine sv_locs [1, 2, 3, 5, 6, 0] [(0, .ref (b + 58)), (1, .int v1), (2, .int v2), (4, .long v4), (6, .int v6), (7, .long r_6)] rfl ?_
        exact aw_X7_fits_78 G RR T hL  ih v1 v2 v4 v6 r_6 v3 g_5  h
      · have h := h.2 c_7
        refine sv_iload (pc := 72) G dX7_fits_72 6 rfl ?_
        refine sv_goto (pc := 74) G dX7_fits_74 78 (by decide) ?_
        refine sv_locs [1, 2, 3, 5, 6, 0] [(0, .ref (b + 58)), (1, .int v1), (2, .int v2), (4, .long v4), (6, .int v6), (7, .long r_6)] rfl ?_
        exact aw_X7_fits_78 G RR T hL  ih v1 v2 v4 v6 r_6 v6 g_5  h
set_option maxRecDepth 100000 in
set_option maxHeartbeats 4000000 in
theorem c_X7_fits {b : Nat} {xt : sv_Xt} {F : sv_Fr} {v1 : Int32} {v2 : Int32} {g : sv_Mg} {Q : Int32 → sv_Mg → Prop} (hL : sv_Lay F) (h : wp_X7_fits F v1 v2 g Q) : sv_Cal yX7_fits cX7_fits 9 (some .int) 10 228 0 0 b xt [.ref (b + 58), .int v1, .int v2] F g (sv_qI F Q) := by
  refine sv_intro mw_X7_fits [(0, .ref (b + 58)), (1, .int v1), (2, .int v2)] rfl (Nat.le_of_ble_eq_true rfl) (fun x G RR T NM => ?_)
  have G : sv_G x b xt RX7 cX7_fits 9 := G
  unfold wp_X7_fits at h
  refine sv_iload_n (pc := 0) G dX7_fits_0 1 rfl ?_
  refine sv_callS (cs := 0) (sl := 0) (st := []) (As := [.int v1]) (pc := 1) G RR (c_X7_isSheet hL  h) mw_X7_isSheet lk_X7_189 rfl ⟨(Nat.le_of_ble_eq_true rfl), (Nat.le_of_ble_eq_true rfl)⟩ ⟨(Nat.le_of_ble_eq_true rfl), (Nat.le_of_ble_eq_true rfl)⟩ (Nat.le_of_ble_eq_true rfl) rfl dX7_fits_1 (sv_kI (fun r_9 g_8 h => ?_))
  refine sv_if_eq (pc := 4) G 16 (by decide) dX7_fits_4 (fun c_10 => ?_) (fun c_10 => ?_)
  · have h := h.1 c_10
    refine sv_ldc (pc := 16) G dX7_fits_16 cn_X7_90 ?_
    exact sv_ireturn (pc := 18) G T ⟨(Nat.le_of_ble_eq_true rfl), (Nat.le_of_ble_eq_true rfl)⟩ dX7_fits_18 ⟨_, rfl, rfl, h⟩
  · have h := h.2 c_10
    refine sv_iload_n (pc := 7) G dX7_fits_7 2 rfl ?_
    refine sv_iconst (pc := 8) G dX7_fits_8 0 ic_0 ?_
    refine sv_iconst (pc := 9) G dX7_fits_9 1 ic_1 ?_
    refine sv_callS (cs := 0) (sl := 0) (st := []) (As := [.int v2, .int 0, .int 1]) (pc := 10) G RR (c_X7_in hL  h) mw_X7_in lk_X7_82 rfl ⟨(Nat.le_of_ble_eq_true rfl), (Nat.le_of_ble_eq_true rfl)⟩ ⟨(Nat.le_of_ble_eq_true rfl), (Nat.le_of_ble_eq_true rfl)⟩ (Nat.le_of_ble_eq_true rfl) rfl dX7_fits_10 (sv_kI (fun r_12 g_11 h => ?_))
    refine sv_if_ne (pc := 13) G 19 (by decide) dX7_fits_13 (fun c_13 => ?_) (fun c_13 => ?_)
    · have h := h.2 c_13
      refine sv_aload_n (pc := 19) G dX7_fits_19 0 rfl ?_
      refine sv_getR (pc := 20) G fw_X7_54 (hL.sh rfl) rfl (hL.rf 74 rfl) dX7_fits_20 ?_
      refine sv_iload_n (pc := 23) G dX7_fits_23 1 rfl ?_
      obtain ⟨s_14, h⟩ := h
      refine sv_ialdK (pc := 24) G (hL.sh rfl) s_14 v1.toNatClampNeg rfl dX7_fits_24 ?_
      refine sv_if_ge (pc := 25) G 31 (by decide) dX7_fits_25 (fun c_15 => ?_) (fun c_15 => ?_)
      · have h := h.1 c_15
        refine sv_aload_n (pc := 31) G dX7_fits_31 0 rfl ?_
        refine sv_callV (cs := 0) (sl := 0) (st := []) (As := []) (a := 58) (pc := 32) G RR (c_X7_thinks hL  h) mw_X7_thinks lk_X7_180 (hL.sh rfl) (by decide) rfl rfl ⟨(Nat.le_of_ble_eq_true rfl), (Nat.le_of_ble_eq_true rfl)⟩ ⟨(Nat.le_of_ble_eq_true rfl), (Nat.le_of_ble_eq_true rfl)⟩ (Nat.le_of_ble_eq_true rfl) rfl dX7_fits_32 (sv_kV (fun g_16 h => ?_))
        refine sv_iconst (pc := 35) G dX7_fits_35 1 ic_1 ?_
        refine sv_istore_n (pc := 36) G dX7_fits_36 [(3, .int 1), (0, .ref (b + 58)), (1, .int v1), (2, .int v2)] (by decide) rfl ?_
        refine sv_aload_n (pc := 37) G dX7_fits_37 1 rfl ?_
        refine sv_iload_n (pc := 38) G dX7_fits_38 2 rfl ?_
        refine sv_iconst (pc := 39) G dX7_fits_39 1 ic_1 ?_
        refine sv_callV (cs := 0) (sl := 0) (st := []) (As := [.int v1, .int 1]) (a := 58) (pc := 40) G RR (c_X7_offBy hL  h) mw_X7_offBy lk_X7_193 (hL.sh rfl) (by decide) rfl rfl ⟨(Nat.le_of_ble_eq_true rfl), (Nat.le_of_ble_eq_true rfl)⟩ ⟨(Nat.le_of_ble_eq_true rfl), (Nat.le_of_ble_eq_true rfl)⟩ (Nat.le_of_ble_eq_true rfl) rfl dX7_fits_40 (sv_kL (fun r_18 g_17 h => ?_))
        refine sv_lstore (pc := 43) G dX7_fits_43 [(4, .long r_18), (3, .int 1), (0, .ref (b + 58)), (1, .int v1), (2, .int v2)] (by decide) rfl ?_
        refine sv_iconst (pc := 45) G dX7_fits_45 2 ic_2 ?_
        refine sv_istore (pc := 46) G dX7_fits_46 [(6, .int 2), (4, .long r_18), (3, .int 1), (0, .ref (b + 58)), (1, .int v1), (2, .int v2)] (by decide) rfl ?_
        refine sv_locs [3, 4, 5, 2, 1, 0] [(0, .ref (b + 58)), (1, .int v1), (2, .int v2), (3, .int 1), (4, .long r_18), (6, .int 2)] rfl ?_
        obtain ⟨n_19, h⟩ := h
        exact aw_X7_fits_48 G RR T hL   n_19 v1 v2 1 r_18 2 g_17  h
      · have h := h.2 c_15
        refine sv_ldc (pc := 28) G dX7_fits_28 cn_X7_192 ?_
        exact sv_ireturn (pc := 30) G T ⟨(Nat.le_of_ble_eq_true rfl), (Nat.le_of_ble_eq_true rfl)⟩ dX7_fits_30 ⟨_, rfl, rfl, h⟩
    · have h := h.1 c_13
      refine sv_ldc (pc := 16) G dX7_fits_16 cn_X7_90 ?_
      exact sv_ireturn (pc := 18) G T ⟨(Nat.le_of_ble_eq_true rfl), (Nat.le_of_ble_eq_true rfl)⟩ dX7_fits_18 ⟨_, rfl, rfl, h⟩
def wp_X7_fee (F : sv_Fr) (g : sv_Mg) (Q : Int32 → sv_Mg → Prop) : Prop := wp_X7_counts F 1 g (fun r_2 g_1 => ∀ g_3, g_3 = sv_st g_1 72 0 (g_1 59 3) → ∀ g_4, g_4 = sv_st g_3 72 1 (g_3 59 9) → ((0 ≤ r_2 → wp_X7_worksOut F r_2 g_4 (fun r_7 g_6 => Q r_7 g_6)) ∧ (¬ 0 ≤ r_2 → Q (g_4 59 3) g_4)))
set_option maxRecDepth 100000 in
set_option maxHeartbeats 4000000 in
theorem c_X7_fee {b : Nat} {xt : sv_Xt} {F : sv_Fr} {g : sv_Mg} {Q : Int32 → sv_Mg → Prop} (hL : sv_Lay F) (h : wp_X7_fee F g Q) : sv_Cal yX7_fee cX7_fee 2 (some .int) 2 47 0 0 b xt [.ref (b + 58)] F g (sv_qI F Q) := by
  refine sv_intro mw_X7_fee [(0, .ref (b + 58))] rfl (Nat.le_of_ble_eq_true rfl) (fun x G RR T NM => ?_)
  have G : sv_G x b xt RX7 cX7_fee 2 := G
  unfold wp_X7_fee at h
  refine sv_aload_n (pc := 0) G dX7_fee_0 0 rfl ?_
  refine sv_iconst (pc := 1) G dX7_fee_1 1 ic_1 ?_
  refine sv_callV (cs := 0) (sl := 0) (st := []) (As := [.int 1]) (a := 58) (pc := 2) G RR (c_X7_counts hL  h) mw_X7_counts lk_X7_120 (hL.sh rfl) (by decide) rfl rfl ⟨(Nat.le_of_ble_eq_true rfl), (Nat.le_of_ble_eq_true rfl)⟩ ⟨(Nat.le_of_ble_eq_true rfl), (Nat.le_of_ble_eq_true rfl)⟩ (Nat.le_of_ble_eq_true rfl) rfl dX7_fee_2 (sv_kI (fun r_2 g_1 h => ?_))
  refine sv_istore_n (pc := 5) G dX7_fee_5 [(1, .int r_2), (0, .ref (b + 58))] (by decide) rfl ?_
  refine sv_aload_n (pc := 6) G dX7_fee_6 1 rfl ?_
  refine sv_getR (pc := 7) G fw_X7_51 (hL.sh rfl) rfl (hL.rf 73 rfl) dX7_fee_7 ?_
  refine sv_iconst (pc := 10) G dX7_fee_10 0 ic_0 ?_
  refine sv_aload_n (pc := 11) G dX7_fee_11 1 rfl ?_
  refine sv_getR (pc := 12) G fw_X7_9 (hL.sh rfl) rfl (hL.rf 60 rfl) dX7_fee_12 ?_
  refine sv_iconst (pc := 15) G dX7_fee_15 3 ic_3 ?_
  refine sv_ialdK (pc := 16) G (hL.sh rfl) vi_3_1443 3 tn_3 dX7_fee_16 ?_
  refine sv_iastK (pc := 17) G (hL.sh rfl) vi_0_4 0 tn_0 dX7_fee_17 (fun g_3 eg_3 => ?_)
  have h := h g_3 eg_3
  refine sv_aload_n (pc := 18) G dX7_fee_18 1 rfl ?_
  refine sv_getR (pc := 19) G fw_X7_51 (hL.sh rfl) rfl (hL.rf 73 rfl) dX7_fee_19 ?_
  refine sv_iconst (pc := 22) G dX7_fee_22 1 ic_1 ?_
  refine sv_aload_n (pc := 23) G dX7_fee_23 1 rfl ?_
  refine sv_getR (pc := 24) G fw_X7_9 (hL.sh rfl) rfl (hL.rf 60 rfl) dX7_fee_24 ?_
  refine sv_bipush (pc := 27) G dX7_fee_27 9 bp_9 ?_
  refine sv_ialdK (pc := 29) G (hL.sh rfl) vi_9_1443 9 tn_9 dX7_fee_29 ?_
  refine sv_iastK (pc := 30) G (hL.sh rfl) vi_1_4 1 tn_1 dX7_fee_30 (fun g_4 eg_4 => ?_)
  have h := h g_4 eg_4
  refine sv_iload_n (pc := 31) G dX7_fee_31 0 rfl ?_
  refine sv_if_ge (pc := 32) G 44 (by decide) dX7_fee_32 (fun c_5 => ?_) (fun c_5 => ?_)
  · have h := h.1 c_5
    refine sv_aload_n (pc := 44) G dX7_fee_44 1 rfl ?_
    refine sv_iload_n (pc := 45) G dX7_fee_45 0 rfl ?_
    refine sv_callV (cs := 0) (sl := 0) (st := []) (As := [.int r_2]) (a := 58) (pc := 46) G RR (c_X7_worksOut hL  h) mw_X7_worksOut lk_X7_123 (hL.sh rfl) (by decide) rfl rfl ⟨(Nat.le_of_ble_eq_true rfl), (Nat.le_of_ble_eq_true rfl)⟩ ⟨(Nat.le_of_ble_eq_true rfl), (Nat.le_of_ble_eq_true rfl)⟩ (Nat.le_of_ble_eq_true rfl) rfl dX7_fee_46 (sv_kI (fun r_7 g_6 h => ?_))
    exact sv_ireturn (pc := 49) G T ⟨(Nat.le_of_ble_eq_true rfl), (Nat.le_of_ble_eq_true rfl)⟩ dX7_fee_49 ⟨_, rfl, rfl, h⟩
  · have h := h.2 c_5
    refine sv_aload_n (pc := 35) G dX7_fee_35 1 rfl ?_
    refine sv_getR (pc := 36) G fw_X7_9 (hL.sh rfl) rfl (hL.rf 60 rfl) dX7_fee_36 ?_
    refine sv_iconst (pc := 39) G dX7_fee_39 3 ic_3 ?_
    refine sv_ialdK (pc := 40) G (hL.sh rfl) vi_3_1443 3 tn_3 dX7_fee_40 ?_
    refine sv_goto (pc := 41) G dX7_fee_41 49 (by decide) ?_
    exact sv_ireturn (pc := 49) G T ⟨(Nat.le_of_ble_eq_true rfl), (Nat.le_of_ble_eq_true rfl)⟩ dX7_fee_49 ⟨_, rfl, rfl, h⟩
def wp_X7_fine (F : sv_Fr) (v1 : Int32) (g : sv_Mg) (Q : Int32 → sv_Mg → Prop) : Prop := wp_X7_isVoter F v1 g (fun r_2 g_1 => ((r_2 = 0 → Q (-1000000001) g_1) ∧ (¬ r_2 = 0 → wp_X7_counts F 2 g_1 (fun r_5 g_4 => wp_X7_of F v1 3 g_4 (fun r_7 g_6 => ∀ g_8, g_8 = sv_st g_6 72 0 r_7 → wp_X7_of F v1 4 g_8 (fun r_10 g_9 => ∀ g_11, g_11 = sv_st g_9 72 1 r_10 → ((0 ≤ r_5 → wp_X7_worksOut F r_5 g_11 (fun r_14 g_13 => Q r_14 g_13)) ∧ (¬ 0 ≤ r_5 → wp_X7_of F v1 4 g_11 (fun r_16 g_15 => Q r_16 g_15)))))))))
set_option maxRecDepth 100000 in
set_option maxHeartbeats 4000000 in
theorem c_X7_fine {b : Nat} {xt : sv_Xt} {F : sv_Fr} {v1 : Int32} {g : sv_Mg} {Q : Int32 → sv_Mg → Prop} (hL : sv_Lay F) (h : wp_X7_fine F v1 g Q) : sv_Cal yX7_fine cX7_fine 3 (some .int) 2 47 0 0 b xt [.ref (b + 58), .int v1] F g (sv_qI F Q) := by
  refine sv_intro mw_X7_fine [(0, .ref (b + 58)), (1, .int v1)] rfl (Nat.le_of_ble_eq_true rfl) (fun x G RR T NM => ?_)
  have G : sv_G x b xt RX7 cX7_fine 3 := G
  unfold wp_X7_fine at h
  refine sv_aload_n (pc := 0) G dX7_fine_0 0 rfl ?_
  refine sv_iload_n (pc := 1) G dX7_fine_1 1 rfl ?_
  refine sv_callV (cs := 0) (sl := 0) (st := []) (As := [.int v1]) (a := 58) (pc := 2) G RR (c_X7_isVoter hL  h) mw_X7_isVoter lk_X7_139 (hL.sh rfl) (by decide) rfl rfl ⟨(Nat.le_of_ble_eq_true rfl), (Nat.le_of_ble_eq_true rfl)⟩ ⟨(Nat.le_of_ble_eq_true rfl), (Nat.le_of_ble_eq_true rfl)⟩ (Nat.le_of_ble_eq_true rfl) rfl dX7_fine_2 (sv_kI (fun r_2 g_1 h => ?_))
  refine sv_if_ne (pc := 5) G 11 (by decide) dX7_fine_5 (fun c_3 => ?_) (fun c_3 => ?_)
  · have h := h.2 c_3
    refine sv_aload_n (pc := 11) G dX7_fine_11 0 rfl ?_
    refine sv_iconst (pc := 12) G dX7_fine_12 2 ic_2 ?_
    refine sv_callV (cs := 0) (sl := 0) (st := []) (As := [.int 2]) (a := 58) (pc := 13) G RR (c_X7_counts hL  h) mw_X7_counts lk_X7_120 (hL.sh rfl) (by decide) rfl rfl ⟨(Nat.le_of_ble_eq_true rfl), (Nat.le_of_ble_eq_true rfl)⟩ ⟨(Nat.le_of_ble_eq_true rfl), (Nat.le_of_ble_eq_true rfl)⟩ (Nat.le_of_ble_eq_true rfl) rfl dX7_fine_13 (sv_kI (fun r_5 g_4 h => ?_))
    refine sv_istore_n (pc := 16) G dX7_fine_16 [(2, .int r_5), (0, .ref (b + 58)), (1, .int v1)] (by decide) rfl ?_
    refine sv_aload_n (pc := 17) G dX7_fine_17 1 rfl ?_
    refine sv_getR (pc := 18) G fw_X7_51 (hL.sh rfl) rfl (hL.rf 73 rfl) dX7_fine_18 ?_
    refine sv_iconst (pc := 21) G dX7_fine_21 0 ic_0 ?_
    refine sv_aload_n (pc := 22) G dX7_fine_22 1 rfl ?_
    refine sv_iload_n (pc := 23) G dX7_fine_23 2 rfl ?_
    refine sv_iconst (pc := 24) G dX7_fine_24 3 ic_3 ?_
    refine sv_callV (cs := 0) (sl := 0) (st := [.int 0, .ref (b + 72)]) (As := [.int v1, .int 3]) (a := 58) (pc := 25) G RR (c_X7_of hL  h) mw_X7_of lk_X7_96 (hL.sh rfl) (by decide) rfl rfl ⟨(Nat.le_of_ble_eq_true rfl), (Nat.le_of_ble_eq_true rfl)⟩ ⟨(Nat.le_of_ble_eq_true rfl), (Nat.le_of_ble_eq_true rfl)⟩ (Nat.le_of_ble_eq_true rfl) rfl dX7_fine_25 (sv_kI (fun r_7 g_6 h => ?_))
    refine sv_iastK (pc := 28) G (hL.sh rfl) vi_0_4 0 tn_0 dX7_fine_28 (fun g_8 eg_8 => ?_)
    have h := h g_8 eg_8
    refine sv_aload_n (pc := 29) G dX7_fine_29 1 rfl ?_
    refine sv_getR (pc := 30) G fw_X7_51 (hL.sh rfl) rfl (hL.rf 73 rfl) dX7_fine_30 ?_
    refine sv_iconst (pc := 33) G dX7_fine_33 1 ic_1 ?_
    refine sv_aload_n (pc := 34) G dX7_fine_34 1 rfl ?_
    refine sv_iload_n (pc := 35) G dX7_fine_35 2 rfl ?_
    refine sv_iconst (pc := 36) G dX7_fine_36 4 ic_4 ?_
    refine sv_callV (cs := 0) (sl := 0) (st := [.int 1, .ref (b + 72)]) (As := [.int v1, .int 4]) (a := 58) (pc := 37) G RR (c_X7_of hL  h) mw_X7_of lk_X7_96 (hL.sh rfl) (by decide) rfl rfl ⟨(Nat.le_of_ble_eq_true rfl), (Nat.le_of_ble_eq_true rfl)⟩ ⟨(Nat.le_of_ble_eq_true rfl), (Nat.le_of_ble_eq_true rfl)⟩ (Nat.le_of_ble_eq_true rfl) rfl dX7_fine_37 (sv_kI (fun r_10 g_9 h => ?_))
    refine sv_iastK (pc := 40) G (hL.sh rfl) vi_1_4 1 tn_1 dX7_fine_40 (fun g_11 eg_11 => ?_)
    have h := h g_11 eg_11
    refine sv_iload_n (pc := 41) G dX7_fine_41 0 rfl ?_
    refine sv_if_ge (pc := 42) G 54 (by decide) dX7_fine_42 (fun c_12 => ?_) (fun c_12 => ?_)
    · have h := h.1 c_12
      refine sv_aload_n (pc := 54) G dX7_fine_54 1 rfl ?_
      refine sv_iload_n (pc := 55) G dX7_fine_55 0 rfl ?_
      refine sv_callV (cs := 0) (sl := 0) (st := []) (As := [.int r_5]) (a := 58) (pc := 56) G RR (c_X7_worksOut hL  h) mw_X7_worksOut lk_X7_123 (hL.sh rfl) (by decide) rfl rfl ⟨(Nat.le_of_ble_eq_true rfl), (Nat.le_of_ble_eq_true rfl)⟩ ⟨(Nat.le_of_ble_eq_true rfl), (Nat.le_of_ble_eq_true rfl)⟩ (Nat.le_of_ble_eq_true rfl) rfl dX7_fine_56 (sv_kI (fun r_14 g_13 h => ?_))
      exact sv_ireturn (pc := 59) G T ⟨(Nat.le_of_ble_eq_true rfl), (Nat.le_of_ble_eq_true rfl)⟩ dX7_fine_59 ⟨_, rfl, rfl, h⟩
    · have h := h.2 c_12
      refine sv_aload_n (pc := 45) G dX7_fine_45 1 rfl ?_
      refine sv_iload_n (pc := 46) G dX7_fine_46 2 rfl ?_
      refine sv_iconst (pc := 47) G dX7_fine_47 4 ic_4 ?_
      refine sv_callV (cs := 0) (sl := 0) (st := []) (As := [.int v1, .int 4]) (a := 58) (pc := 48) G RR (c_X7_of hL  h) mw_X7_of lk_X7_96 (hL.sh rfl) (by decide) rfl rfl ⟨(Nat.le_of_ble_eq_true rfl), (Nat.le_of_ble_eq_true rfl)⟩ ⟨(Nat.le_of_ble_eq_true rfl), (Nat.le_of_ble_eq_true rfl)⟩ (Nat.le_of_ble_eq_true rfl) rfl dX7_fine_48 (sv_kI (fun r_16 g_15 h => ?_))
      refine sv_goto (pc := 51) G dX7_fine_51 59 (by decide) ?_
      exact sv_ireturn (pc := 59) G T ⟨(Nat.le_of_ble_eq_true rfl), (Nat.le_of_ble_eq_true rfl)⟩ dX7_fine_59 ⟨_, rfl, rfl, h⟩
  · have h := h.1 c_3
    refine sv_ldc (pc := 8) G dX7_fine_8 cn_X7_90 ?_
    exact sv_ireturn (pc := 10) G T ⟨(Nat.le_of_ble_eq_true rfl), (Nat.le_of_ble_eq_true rfl)⟩ dX7_fine_10 ⟨_, rfl, rfl, h⟩
def wp_X7_feed_47 (F : sv_Fr) (Q : Int32 → sv_Mg → Prop) (K18 : Int32 → Int32 → Int32 → Int32 → sv_Mg → Prop) (v1 : Int32) (v2 : Int32) (v3 : Int32) (v4 : Int32) (s0 : Int32) (g : sv_Mg) : Prop := vp_in ((g 58 8) + v4) 96 ∧ ∀ g_2, g_2 = sv_st g 65 ((g 58 8) + v4).toNatClampNeg ((s0 >>> ((24 - (8 * (v4 - v4 / 4 * 4))) &&& 31)) &&& 255) → ∀ v4_3 : Int32, v4_3 = v4 + 1 → K18 v1 v2 v3 v4_3 g_2
def wp_X7_feed_18 (F : sv_Fr) (Q : Int32 → sv_Mg → Prop) : Nat → Int32 → Int32 → Int32 → Int32 → sv_Mg → Prop
  | 0, _, _, _, _, _ => False
  | n + 1, v1, v2, v3, v4, g => ((12 ≤ v4 → ∀ g_5, g_5 = sv_st g 58 8 ((g 58 8) + 12) → Q (g_5 58 8) g_5) ∧ (¬ 12 ≤ v4 → ((4 ≤ v4 → ((8 ≤ v4 → wp_X7_feed_47 F  Q (wp_X7_feed_18 F Q  n) v1 v2 v3 v4 v3 g) ∧ (¬ 8 ≤ v4 → wp_X7_feed_47 F  Q (wp_X7_feed_18 F Q  n) v1 v2 v3 v4 v2 g))) ∧ (¬ 4 ≤ v4 → wp_X7_feed_47 F  Q (wp_X7_feed_18 F Q  n) v1 v2 v3 v4 v1 g))))
def wp_X7_feed (F : sv_Fr) (v1 : Int32) (v2 : Int32) (v3 : Int32) (g : sv_Mg) (Q : Int32 → sv_Mg → Prop) : Prop := ((((g 58 8) + 12) ≤ 96 → ∃ n_9, wp_X7_feed_18 F  Q  n_9 v1 v2 v3 0 g) ∧ (¬ ((g 58 8) + 12) ≤ 96 → Q (-1000000003) g))
set_option maxRecDepth 100000 in
set_option maxHeartbeats 4000000 in
theorem aw_X7_feed_47 {x : sv_X} {b : Nat} {xt : sv_Xt} {F : sv_Fr} {Q : Int32 → sv_Mg → Prop} (G : sv_G x b xt RX7 cX7_feed 6) (RR : sv_R x 0 0 0 0) (T : sv_RT x (some .int)) (hL : sv_Lay F) {K18 : Int32 → Int32 → Int32 → Int32 → sv_Mg → Prop} (hK18 : ∀ (v1 : Int32) (v2 : Int32) (v3 : Int32) (v4 : Int32) (g : sv_Mg), K18 v1 v2 v3 v4 g → sv_AW x (sv_Q x (sv_qI F Q) 0 0) F g 0 0 18 [(0, .ref (b + 58)), (1, .int v1), (2, .int v2), (3, .int v3), (4, .int v4)] []) : ∀ (v1 : Int32) (v2 : Int32) (v3 : Int32) (v4 : Int32) (s0 : Int32) (g : sv_Mg), wp_X7_feed_47 F Q K18 v1 v2 v3 v4 s0 g → sv_AW x (sv_Q x (sv_qI F Q) 0 0) F g 0 0 47 [(0, .ref (b + 58)), (1, .int v1), (2, .int v2), (3, .int v3), (4, .int v4)] [.int s0] := by
  intro v1 v2 v3 v4 s0 g h
  unfold wp_X7_feed_47 at h
  refine sv_istore (pc := 47) G dX7_feed_47 [(5, .int s0), (0, .ref (b + 58)), (1, .int v1), (2, .int v2), (3, .int v3), (4, .int v4)] (by decide) rfl ?_
  refine sv_aload_n (pc := 49) G dX7_feed_49 1 rfl ?_
  refine sv_getR (pc := 50) G fw_X7_28 (hL.sh rfl) rfl (hL.rf 66 rfl) dX7_feed_50 ?_
  refine sv_aload_n (pc := 53) G dX7_feed_53 1 rfl ?_
  refine sv_getI (pc := 54) G fw_X7_197 (hL.sh rfl) rfl dX7_feed_54 ?_
  refine sv_iload (pc := 57) G dX7_feed_57 5 rfl ?_
  refine sv_iadd (pc := 59) G dX7_feed_59 ?_
  refine sv_iload (pc := 60) G dX7_feed_60 0 rfl ?_
  refine sv_bipush (pc := 62) G dX7_feed_62 24 bp_24 ?_
  refine sv_bipush (pc := 64) G dX7_feed_64 8 bp_8 ?_
  refine sv_iload (pc := 66) G dX7_feed_66 5 rfl ?_
  refine sv_iconst (pc := 68) G dX7_feed_68 4 ic_4 ?_
  refine sv_irem (pc := 69) G dX7_feed_69 (by decide) ?_
  refine sv_imul (pc := 70) G dX7_feed_70 ?_
  refine sv_isub (pc := 71) G dX7_feed_71 ?_
  refine sv_ishr (pc := 72) G dX7_feed_72 ?_
  refine sv_sipush (pc := 73) G dX7_feed_73 255 sp_255 ?_
  refine sv_iand (pc := 76) G dX7_feed_76 ?_
  obtain ⟨s_1, h⟩ := h
  refine sv_iastK (pc := 77) G (hL.sh rfl) s_1 ((g 58 8) + v4).toNatClampNeg rfl dX7_feed_77 (fun g_2 eg_2 => ?_)
  have h := h g_2 eg_2
  obtain ⟨v4_3, ev4_3⟩ : ∃ y : Int32, y = v4 + 1 := ⟨_, rfl⟩
  have h := h v4_3 ev4_3
  refine sv_iinc (pc := 78) G dX7_feed_78 5 v4_3 [(4, .int v4_3), (5, .int s0), (0, .ref (b + 58)), (1, .int v1), (2, .int v2), (3, .int v3)] (by rw [ev4_3, ic_1]) rfl (by decide) rfl ?_
  refine sv_goto (pc := 81) G dX7_feed_81 18 (by decide) ?_
  refine sv_locs [2, 3, 4, 5, 0] [(0, .ref (b + 58)), (1, .int v1), (2, .int v2), (3, .int v3), (4, .int v4_3)] rfl ?_
  exact hK18 v1 v2 v3 v4_3 g_2  h
set_option maxRecDepth 100000 in
set_option maxHeartbeats 4000000 in
theorem aw_X7_feed_18 {x : sv_X} {b : Nat} {xt : sv_Xt} {F : sv_Fr} {Q : Int32 → sv_Mg → Prop} (G : sv_G x b xt RX7 cX7_feed 6) (RR : sv_R x 0 0 0 0) (T : sv_RT x (some .int)) (hL : sv_Lay F) : ∀ (n : Nat) (v1 : Int32) (v2 : Int32) (v3 : Int32) (v4 : Int32) (g : sv_Mg), wp_X7_feed_18 F Q  n v1 v2 v3 v4 g → sv_AW x (sv_Q x (sv_qI F Q) 0 0) F g 0 0 18 [(0, .ref (b + 58)), (1, .int v1), (2, .int v2), (3, .int v3), (4, .int v4)] [] := by
  intro n
  induction n with
  | zero => intro v1 v2 v3 v4 g h; exact h.elim
  | succ n ih =>
    intro v1 v2 v3 v4 g h
    rw [wp_X7_feed_18] at h
    refine sv_iload (pc := 18) G dX7_feed_18 4 rfl ?_
    refine sv_bipush (pc := 20) G dX7_feed_20 12 bp_12 ?_
    refine sv_ic_ge (pc := 22) G 84 (by decide) dX7_feed_22 (fun c_4 => ?_) (fun c_4 => ?_)
    · have h := h.1 c_4
      refine sv_aload_n (pc := 84) G dX7_feed_84 0 rfl ?_
      refine sv_dup (pc := 85) G dX7_feed_85 rfl ?_
      refine sv_getI (pc := 86) G fw_X7_197 (hL.sh rfl) rfl dX7_feed_86 ?_
      refine sv_bipush (pc := 89) G dX7_feed_89 12 bp_12 ?_
      refine sv_iadd (pc := 91) G dX7_feed_91 ?_
      refine sv_putI (pc := 92) G fw_X7_197 (hL.sh rfl) rfl dX7_feed_92 (fun g_5 eg_5 => ?_)
      have h := h g_5 eg_5
      refine sv_aload_n (pc := 95) G dX7_feed_95 0 rfl ?_
      refine sv_getI (pc := 96) G fw_X7_197 (hL.sh rfl) rfl dX7_feed_96 ?_
      exact sv_ireturn (pc := 99) G T ⟨(Nat.le_of_ble_eq_true rfl), (Nat.le_of_ble_eq_true rfl)⟩ dX7_feed_99 ⟨_, rfl, rfl, h⟩
    · have h := h.2 c_4
      refine sv_iload (pc := 25) G dX7_feed_25 4 rfl ?_
      refine sv_iconst (pc := 27) G dX7_feed_27 4 ic_4 ?_
      refine sv_ic_ge (pc := 28) G 35 (by decide) dX7_feed_28 (fun c_6 => ?_) (fun c_6 => ?_)
      · have h := h.1 c_6
        refine sv_iload (pc := 35) G dX7_feed_35 4 rfl ?_
        refine sv_bipush (pc := 37) G dX7_feed_37 8 bp_8 ?_
        refine sv_ic_ge (pc := 39) G 46 (by decide) dX7_feed_39 (fun c_7 => ?_) (fun c_7 => ?_)
        · have h := h.1 c_7
          refine sv_iload_n (pc := 46) G dX7_feed_46 3 rfl ?_
          refine sv_locs [0, 1, 2, 3, 4] [(0, .ref (b + 58)), (1, .int v1), (2, .int v2), (3, .int v3), (4, .int v4)] rfl ?_
          exact aw_X7_feed_47 G RR T hL  ih v1 v2 v3 v4 v3 g  h
        · have h := h.2 c_7
          refine sv_iload_n (pc := 42) G dX7_feed_42 2 rfl ?_
          refine sv_goto (pc := 43) G dX7_feed_43 47 (by decide) ?_
          refine sv_locs [0, 1, 2, 3, 4] [(0, .ref (b + 58)), (1, .int v1), (2, .int v2), (3, .int v3), (4, .int v4)] rfl ?_
          exact aw_X7_feed_47 G RR T hL  ih v1 v2 v3 v4 v2 g  h
      · have h := h.2 c_6
        refine sv_iload_n (pc := 31) G dX7_feed_31 1 rfl ?_
        refine sv_goto (pc := 32) G dX7_feed_32 47 (by decide) ?_
        refine sv_locs [0, 1, 2, 3, 4] [(0, .ref (b + 58)), (1, .int v1), (2, .int v2), (3, .int v3), (4, .int v4)] rfl ?_
        exact aw_X7_feed_47 G RR T hL  ih v1 v2 v3 v4 v1 g  h
set_option maxRecDepth 100000 in
set_option maxHeartbeats 4000000 in
theorem c_X7_feed {b : Nat} {xt : sv_Xt} {F : sv_Fr} {v1 : Int32} {v2 : Int32} {v3 : Int32} {g : sv_Mg} {Q : Int32 → sv_Mg → Prop} (hL : sv_Lay F) (h : wp_X7_feed F v1 v2 v3 g Q) : sv_Cal yX7_feed cX7_feed 6 (some .int) 0 0 0 0 b xt [.ref (b + 58), .int v1, .int v2, .int v3] F g (sv_qI F Q) := by
  refine sv_intro mw_X7_feed [(0, .ref (b + 58)), (1, .int v1), (2, .int v2), (3, .int v3)] rfl (Nat.le_of_ble_eq_true rfl) (fun x G RR T NM => ?_)
  have G : sv_G x b xt RX7 cX7_feed 6 := G
  unfold wp_X7_feed at h
  refine sv_aload_n (pc := 0) G dX7_feed_0 0 rfl ?_
  refine sv_getI (pc := 1) G fw_X7_197 (hL.sh rfl) rfl dX7_feed_1 ?_
  refine sv_bipush (pc := 4) G dX7_feed_4 12 bp_12 ?_
  refine sv_iadd (pc := 6) G dX7_feed_6 ?_
  refine sv_bipush (pc := 7) G dX7_feed_7 96 bp_96 ?_
  refine sv_ic_le (pc := 9) G 15 (by decide) dX7_feed_9 (fun c_8 => ?_) (fun c_8 => ?_)
  · have h := h.1 c_8
    refine sv_iconst (pc := 15) G dX7_feed_15 0 ic_0 ?_
    refine sv_istore (pc := 16) G dX7_feed_16 [(4, .int 0), (0, .ref (b + 58)), (1, .int v1), (2, .int v2), (3, .int v3)] (by decide) rfl ?_
    refine sv_locs [1, 2, 3, 4, 0] [(0, .ref (b + 58)), (1, .int v1), (2, .int v2), (3, .int v3), (4, .int 0)] rfl ?_
    obtain ⟨n_9, h⟩ := h
    exact aw_X7_feed_18 G RR T hL   n_9 v1 v2 v3 0 g  h
  · have h := h.2 c_8
    refine sv_ldc (pc := 12) G dX7_feed_12 cn_X7_91 ?_
    exact sv_ireturn (pc := 14) G T ⟨(Nat.le_of_ble_eq_true rfl), (Nat.le_of_ble_eq_true rfl)⟩ dX7_feed_14 ⟨_, rfl, rfl, h⟩
def wp_X7_trim (F : sv_Fr) (v1 : Int32) (g : sv_Mg) (Q : Int32 → sv_Mg → Prop) : Prop := wp_X7_in F v1 0 (g 58 8) g (fun r_2 g_1 => ((r_2 = 0 → Q (-1000000001) g_1) ∧ (¬ r_2 = 0 → ∀ g_4, g_4 = sv_st g_1 58 8 v1 → Q v1 g_4)))
set_option maxRecDepth 100000 in
set_option maxHeartbeats 4000000 in
theorem c_X7_trim {b : Nat} {xt : sv_Xt} {F : sv_Fr} {v1 : Int32} {g : sv_Mg} {Q : Int32 → sv_Mg → Prop} (hL : sv_Lay F) (h : wp_X7_trim F v1 g Q) : sv_Cal yX7_trim cX7_trim 2 (some .int) 1 22 0 0 b xt [.ref (b + 58), .int v1] F g (sv_qI F Q) := by
  refine sv_intro mw_X7_trim [(0, .ref (b + 58)), (1, .int v1)] rfl (Nat.le_of_ble_eq_true rfl) (fun x G RR T NM => ?_)
  have G : sv_G x b xt RX7 cX7_trim 2 := G
  unfold wp_X7_trim at h
  refine sv_iload_n (pc := 0) G dX7_trim_0 1 rfl ?_
  refine sv_iconst (pc := 1) G dX7_trim_1 0 ic_0 ?_
  refine sv_aload_n (pc := 2) G dX7_trim_2 0 rfl ?_
  refine sv_getI (pc := 3) G fw_X7_197 (hL.sh rfl) rfl dX7_trim_3 ?_
  refine sv_callS (cs := 0) (sl := 0) (st := []) (As := [.int v1, .int 0, .int (g 58 8)]) (pc := 6) G RR (c_X7_in hL  h) mw_X7_in lk_X7_82 rfl ⟨(Nat.le_of_ble_eq_true rfl), (Nat.le_of_ble_eq_true rfl)⟩ ⟨(Nat.le_of_ble_eq_true rfl), (Nat.le_of_ble_eq_true rfl)⟩ (Nat.le_of_ble_eq_true rfl) rfl dX7_trim_6 (sv_kI (fun r_2 g_1 h => ?_))
  refine sv_if_ne (pc := 9) G 15 (by decide) dX7_trim_9 (fun c_3 => ?_) (fun c_3 => ?_)
  · have h := h.2 c_3
    refine sv_aload_n (pc := 15) G dX7_trim_15 0 rfl ?_
    refine sv_iload_n (pc := 16) G dX7_trim_16 1 rfl ?_
    refine sv_putI (pc := 17) G fw_X7_197 (hL.sh rfl) rfl dX7_trim_17 (fun g_4 eg_4 => ?_)
    have h := h g_4 eg_4
    refine sv_iload_n (pc := 20) G dX7_trim_20 1 rfl ?_
    exact sv_ireturn (pc := 21) G T ⟨(Nat.le_of_ble_eq_true rfl), (Nat.le_of_ble_eq_true rfl)⟩ dX7_trim_21 ⟨_, rfl, rfl, h⟩
  · have h := h.1 c_3
    refine sv_ldc (pc := 12) G dX7_trim_12 cn_X7_90 ?_
    exact sv_ireturn (pc := 14) G T ⟨(Nat.le_of_ble_eq_true rfl), (Nat.le_of_ble_eq_true rfl)⟩ dX7_trim_14 ⟨_, rfl, rfl, h⟩
def wp_X7_isLetter (F : sv_Fr) (v1 : Int32) (g : sv_Mg) (Q : Int32 → sv_Mg → Prop) : Prop := (((g 58 8) ≤ v1 → Q 0 g) ∧ (¬ (g 58 8) ≤ v1 → vp_in v1 96 ∧ (((g 65 v1.toNatClampNeg) < 97 → Q 0 g) ∧ (¬ (g 65 v1.toNatClampNeg) < 97 → vp_in v1 96 ∧ ((122 < (g 65 v1.toNatClampNeg) → Q 0 g) ∧ (¬ 122 < (g 65 v1.toNatClampNeg) → Q 1 g))))))
set_option maxRecDepth 100000 in
set_option maxHeartbeats 4000000 in
theorem c_X7_isLetter {b : Nat} {xt : sv_Xt} {F : sv_Fr} {v1 : Int32} {g : sv_Mg} {Q : Int32 → sv_Mg → Prop} (hL : sv_Lay F) (h : wp_X7_isLetter F v1 g Q) : sv_Cal yX7_isLetter cX7_isLetter 2 (some .boolean) 0 0 0 0 b xt [.ref (b + 58), .int v1] F g (sv_qI F Q) := by
  refine sv_intro mw_X7_isLetter [(0, .ref (b + 58)), (1, .int v1)] rfl (Nat.le_of_ble_eq_true rfl) (fun x G RR T NM => ?_)
  have G : sv_G x b xt RX7 cX7_isLetter 2 := G
  unfold wp_X7_isLetter at h
  refine sv_iload_n (pc := 0) G dX7_isLetter_0 1 rfl ?_
  refine sv_aload_n (pc := 1) G dX7_isLetter_1 0 rfl ?_
  refine sv_getI (pc := 2) G fw_X7_197 (hL.sh rfl) rfl dX7_isLetter_2 ?_
  refine sv_ic_ge (pc := 5) G 34 (by decide) dX7_isLetter_5 (fun c_1 => ?_) (fun c_1 => ?_)
  · have h := h.1 c_1
    refine sv_iconst (pc := 34) G dX7_isLetter_34 0 ic_0 ?_
    exact sv_zreturn (pc := 35) G T (Or.inl rfl) ⟨(Nat.le_of_ble_eq_true rfl), (Nat.le_of_ble_eq_true rfl)⟩ dX7_isLetter_35 ⟨_, rfl, rfl, h⟩
  · have h := h.2 c_1
    refine sv_aload_n (pc := 8) G dX7_isLetter_8 0 rfl ?_
    refine sv_getR (pc := 9) G fw_X7_28 (hL.sh rfl) rfl (hL.rf 66 rfl) dX7_isLetter_9 ?_
    refine sv_iload_n (pc := 12) G dX7_isLetter_12 1 rfl ?_
    obtain ⟨s_2, h⟩ := h
    refine sv_ialdK (pc := 13) G (hL.sh rfl) s_2 v1.toNatClampNeg rfl dX7_isLetter_13 ?_
    refine sv_bipush (pc := 14) G dX7_isLetter_14 97 bp_97 ?_
    refine sv_ic_lt (pc := 16) G 34 (by decide) dX7_isLetter_16 (fun c_3 => ?_) (fun c_3 => ?_)
    · have h := h.1 c_3
      refine sv_iconst (pc := 34) G dX7_isLetter_34 0 ic_0 ?_
      exact sv_zreturn (pc := 35) G T (Or.inl rfl) ⟨(Nat.le_of_ble_eq_true rfl), (Nat.le_of_ble_eq_true rfl)⟩ dX7_isLetter_35 ⟨_, rfl, rfl, h⟩
    · have h := h.2 c_3
      refine sv_aload_n (pc := 19) G dX7_isLetter_19 0 rfl ?_
      refine sv_getR (pc := 20) G fw_X7_28 (hL.sh rfl) rfl (hL.rf 66 rfl) dX7_isLetter_20 ?_
      refine sv_iload_n (pc := 23) G dX7_isLetter_23 1 rfl ?_
      obtain ⟨s_4, h⟩ := h
      refine sv_ialdK (pc := 24) G (hL.sh rfl) s_4 v1.toNatClampNeg rfl dX7_isLetter_24 ?_
      refine sv_bipush (pc := 25) G dX7_isLetter_25 122 bp_122 ?_
      refine sv_ic_gt (pc := 27) G 34 (by decide) dX7_isLetter_27 (fun c_5 => ?_) (fun c_5 => ?_)
      · have h := h.1 c_5
        refine sv_iconst (pc := 34) G dX7_isLetter_34 0 ic_0 ?_
        exact sv_zreturn (pc := 35) G T (Or.inl rfl) ⟨(Nat.le_of_ble_eq_true rfl), (Nat.le_of_ble_eq_true rfl)⟩ dX7_isLetter_35 ⟨_, rfl, rfl, h⟩
      · have h := h.2 c_5
        refine sv_iconst (pc := 30) G dX7_isLetter_30 1 ic_1 ?_
        refine sv_goto (pc := 31) G dX7_isLetter_31 35 (by decide) ?_
        exact sv_zreturn (pc := 35) G T (Or.inr rfl) ⟨(Nat.le_of_ble_eq_true rfl), (Nat.le_of_ble_eq_true rfl)⟩ dX7_isLetter_35 ⟨_, rfl, rfl, h⟩
def wp_X7_isFigure (F : sv_Fr) (v1 : Int32) (g : sv_Mg) (Q : Int32 → sv_Mg → Prop) : Prop := (((g 58 8) ≤ v1 → Q 0 g) ∧ (¬ (g 58 8) ≤ v1 → vp_in v1 96 ∧ (((g 65 v1.toNatClampNeg) < 48 → Q 0 g) ∧ (¬ (g 65 v1.toNatClampNeg) < 48 → vp_in v1 96 ∧ ((57 < (g 65 v1.toNatClampNeg) → Q 0 g) ∧ (¬ 57 < (g 65 v1.toNatClampNeg) → Q 1 g))))))
set_option maxRecDepth 100000 in
set_option maxHeartbeats 4000000 in
theorem c_X7_isFigure {b : Nat} {xt : sv_Xt} {F : sv_Fr} {v1 : Int32} {g : sv_Mg} {Q : Int32 → sv_Mg → Prop} (hL : sv_Lay F) (h : wp_X7_isFigure F v1 g Q) : sv_Cal yX7_isFigure cX7_isFigure 2 (some .boolean) 0 0 0 0 b xt [.ref (b + 58), .int v1] F g (sv_qI F Q) := by
  refine sv_intro mw_X7_isFigure [(0, .ref (b + 58)), (1, .int v1)] rfl (Nat.le_of_ble_eq_true rfl) (fun x G RR T NM => ?_)
  have G : sv_G x b xt RX7 cX7_isFigure 2 := G
  unfold wp_X7_isFigure at h
  refine sv_iload_n (pc := 0) G dX7_isFigure_0 1 rfl ?_
  refine sv_aload_n (pc := 1) G dX7_isFigure_1 0 rfl ?_
  refine sv_getI (pc := 2) G fw_X7_197 (hL.sh rfl) rfl dX7_isFigure_2 ?_
  refine sv_ic_ge (pc := 5) G 34 (by decide) dX7_isFigure_5 (fun c_1 => ?_) (fun c_1 => ?_)
  · have h := h.1 c_1
    refine sv_iconst (pc := 34) G dX7_isFigure_34 0 ic_0 ?_
    exact sv_zreturn (pc := 35) G T (Or.inl rfl) ⟨(Nat.le_of_ble_eq_true rfl), (Nat.le_of_ble_eq_true rfl)⟩ dX7_isFigure_35 ⟨_, rfl, rfl, h⟩
  · have h := h.2 c_1
    refine sv_aload_n (pc := 8) G dX7_isFigure_8 0 rfl ?_
    refine sv_getR (pc := 9) G fw_X7_28 (hL.sh rfl) rfl (hL.rf 66 rfl) dX7_isFigure_9 ?_
    refine sv_iload_n (pc := 12) G dX7_isFigure_12 1 rfl ?_
    obtain ⟨s_2, h⟩ := h
    refine sv_ialdK (pc := 13) G (hL.sh rfl) s_2 v1.toNatClampNeg rfl dX7_isFigure_13 ?_
    refine sv_bipush (pc := 14) G dX7_isFigure_14 48 bp_48 ?_
    refine sv_ic_lt (pc := 16) G 34 (by decide) dX7_isFigure_16 (fun c_3 => ?_) (fun c_3 => ?_)
    · have h := h.1 c_3
      refine sv_iconst (pc := 34) G dX7_isFigure_34 0 ic_0 ?_
      exact sv_zreturn (pc := 35) G T (Or.inl rfl) ⟨(Nat.le_of_ble_eq_true rfl), (Nat.le_of_ble_eq_true rfl)⟩ dX7_isFigure_35 ⟨_, rfl, rfl, h⟩
    · have h := h.2 c_3
      refine sv_aload_n (pc := 19) G dX7_isFigure_19 0 rfl ?_
      refine sv_getR (pc := 20) G fw_X7_28 (hL.sh rfl) rfl (hL.rf 66 rfl) dX7_isFigure_20 ?_
      refine sv_iload_n (pc := 23) G dX7_isFigure_23 1 rfl ?_
      obtain ⟨s_4, h⟩ := h
      refine sv_ialdK (pc := 24) G (hL.sh rfl) s_4 v1.toNatClampNeg rfl dX7_isFigure_24 ?_
      refine sv_bipush (pc := 25) G dX7_isFigure_25 57 bp_57 ?_
      refine sv_ic_gt (pc := 27) G 34 (by decide) dX7_isFigure_27 (fun c_5 => ?_) (fun c_5 => ?_)
      · have h := h.1 c_5
        refine sv_iconst (pc := 34) G dX7_isFigure_34 0 ic_0 ?_
        exact sv_zreturn (pc := 35) G T (Or.inl rfl) ⟨(Nat.le_of_ble_eq_true rfl), (Nat.le_of_ble_eq_true rfl)⟩ dX7_isFigure_35 ⟨_, rfl, rfl, h⟩
      · have h := h.2 c_5
        refine sv_iconst (pc := 30) G dX7_isFigure_30 1 ic_1 ?_
        refine sv_goto (pc := 31) G dX7_isFigure_31 35 (by decide) ?_
        exact sv_zreturn (pc := 35) G T (Or.inr rfl) ⟨(Nat.le_of_ble_eq_true rfl), (Nat.le_of_ble_eq_true rfl)⟩ dX7_isFigure_35 ⟨_, rfl, rfl, h⟩
def wp_X7_go_261 (F : sv_Fr) (Q : sv_Mg → Prop) (s0 : Int32) (g : sv_Mg) : Prop := ∀ g_1, g_1 = sv_st g 58 11 s0 → ∀ g_2, g_2 = sv_st g_1 58 13 (g_1 58 9) → Q g_2
def wp_X7_go_256 (F : sv_Fr) (Q : sv_Mg → Prop) (g : sv_Mg) : Prop := wp_X7_go_261 F  Q  4 g
def wp_X7_go_222 (F : sv_Fr) (Q : sv_Mg → Prop) (K170 : Int32 → sv_Mg → Prop) (v1 : Int32) (s0 : Int32) (g : sv_Mg) : Prop := ∀ g_3, g_3 = sv_st g 58 12 s0 → ∀ g_4, g_4 = sv_st g_3 58 9 ((g_3 58 9) + 1) → K170 v1 g_4
def wp_X7_go_170 (F : sv_Fr) (Q : sv_Mg → Prop) : Nat → Int32 → sv_Mg → Prop
  | 0, _, _ => False
  | n + 1, v1, g => wp_X7_isFigure F (g 58 9) g (fun r_6 g_5 => ((r_6 = 0 → ((v1 = 0 → ((((g_5 58 9) - (g_5 58 10)) ≤ 4 → wp_X7_go_261 F  Q  2 g_5) ∧ (¬ ((g_5 58 9) - (g_5 58 10)) ≤ 4 → wp_X7_go_256 F  Q   g_5))) ∧ (¬ v1 = 0 → wp_X7_go_256 F  Q   g_5))) ∧ (¬ r_6 = 0 → ((4 ≤ ((g_5 58 9) - (g_5 58 10)) → wp_X7_go_222 F  Q (wp_X7_go_170 F Q  n) v1 (g_5 58 12) g_5) ∧ (¬ 4 ≤ ((g_5 58 9) - (g_5 58 10)) → vp_in (g_5 58 9) 96 ∧ wp_X7_go_222 F  Q (wp_X7_go_170 F Q  n) v1 (((10 * (g_5 58 12)) + (g_5 65 (g_5 58 9).toNatClampNeg)) - 48) g_5)))))
def wp_X7_go_127 (F : sv_Fr) (Q : sv_Mg → Prop) (s0 : Int32) (g : sv_Mg) : Prop := ∀ g_12, g_12 = sv_st g 58 11 s0 → vp_in (g_12 58 10) 96 ∧ ∀ g_14, g_14 = sv_st g_12 58 12 (g_12 65 (g_12 58 10).toNatClampNeg) → ∀ g_15, g_15 = sv_st g_14 58 13 (g_14 58 9) → Q g_15
def wp_X7_go_93 (F : sv_Fr) (Q : sv_Mg → Prop) : Nat → Int32 → sv_Mg → Prop
  | 0, _, _ => False
  | n + 1, v1, g => wp_X7_isLetter F (g 58 9) g (fun r_17 g_16 => ((r_17 = 0 → ((v1 = 0 → wp_X7_go_127 F  Q  1 g_16) ∧ (¬ v1 = 0 → wp_X7_go_127 F  Q  4 g_16))) ∧ (¬ r_17 = 0 → ∀ g_20, g_20 = sv_st g_16 58 9 ((g_16 58 9) + 1) → (wp_X7_go_93 F Q  n) v1 g_20)))
def wp_X7_go_62 (F : sv_Fr) (Q : sv_Mg → Prop) (s0 : Int32) (g : sv_Mg) : Prop := (((g 58 10) = (g 58 8) → ∀ g_35, g_35 = sv_st g 58 11 0 → Q g_35) ∧ (¬ (g 58 10) = (g 58 8) → wp_X7_isLetter F (g 58 10) g (fun r_23 g_22 => ((r_23 = 0 → wp_X7_isFigure F (g_22 58 10) g_22 (fun r_26 g_25 => ((r_26 = 0 → ∀ g_28, g_28 = sv_st g_25 58 11 3 → vp_in (g_28 58 10) 96 ∧ ∀ g_30, g_30 = sv_st g_28 58 12 (g_28 65 (g_28 58 10).toNatClampNeg) → ∀ g_31, g_31 = sv_st g_30 58 9 ((g_30 58 9) + 1) → Q g_31) ∧ (¬ r_26 = 0 → ∀ g_32, g_32 = sv_st g_25 58 12 0 → ∃ n_33, wp_X7_go_170 F  Q  n_33 s0 g_32)))) ∧ (¬ r_23 = 0 → ∃ n_34, wp_X7_go_93 F  Q  n_34 s0 g_22)))))
def wp_X7_go_38 (F : sv_Fr) (Q : sv_Mg → Prop) (g : sv_Mg) : Prop := ∀ g_36, g_36 = sv_st g 58 10 (g 58 9) → (((g_36 58 10) = (g_36 58 13) → wp_X7_go_62 F  Q  1 g_36) ∧ (¬ (g_36 58 10) = (g_36 58 13) → wp_X7_go_62 F  Q  0 g_36))
def wp_X7_go_0 (F : sv_Fr) (Q : sv_Mg → Prop) : Nat → sv_Mg → Prop
  | 0, _ => False
  | n + 1, g => (((g 58 8) ≤ (g 58 9) → wp_X7_go_38 F  Q   g) ∧ (¬ (g 58 8) ≤ (g 58 9) → vp_in (g 58 9) 96 ∧ (((g 65 (g 58 9).toNatClampNeg) = 32 → ∀ g_41, g_41 = sv_st g 58 9 ((g 58 9) + 1) → (wp_X7_go_0 F Q  n)  g_41) ∧ (¬ (g 65 (g 58 9).toNatClampNeg) = 32 → wp_X7_go_38 F  Q   g))))
def wp_X7_go (F : sv_Fr) (g : sv_Mg) (Q : sv_Mg → Prop) : Prop := ∃ n_42, wp_X7_go_0 F  Q  n_42  g
set_option maxRecDepth 100000 in
set_option maxHeartbeats 4000000 in
theorem aw_X7_go_261 {x : sv_X} {b : Nat} {xt : sv_Xt} {F : sv_Fr} {Q : sv_Mg → Prop} (G : sv_G x b xt RX7 cX7_go 2) (RR : sv_R x 1 21 0 0) (T : sv_RT x none) (hL : sv_Lay F) : ∀ (s0 : Int32) (g : sv_Mg), wp_X7_go_261 F Q  s0 g → sv_AW x (sv_Q x (sv_qV F Q) 0 0) F g 0 0 261 [(0, .ref (b + 58))] [.int s0, .ref (b + 58)] := by
  intro s0 g h
  unfold wp_X7_go_261 at h
  refine sv_putI (pc := 261) G fw_X7_210 (hL.sh rfl) rfl dX7_go_261 (fun g_1 eg_1 => ?_)
  have h := h g_1 eg_1
  refine sv_aload_n (pc := 264) G dX7_go_264 0 rfl ?_
  refine sv_aload_n (pc := 265) G dX7_go_265 0 rfl ?_
  refine sv_getI (pc := 266) G fw_X7_201 (hL.sh rfl) rfl dX7_go_266 ?_
  refine sv_putI (pc := 269) G fw_X7_207 (hL.sh rfl) rfl dX7_go_269 (fun g_2 eg_2 => ?_)
  have h := h g_2 eg_2
  refine sv_goto (pc := 272) G dX7_go_272 303 (by decide) ?_
  exact sv_vreturn (pc := 303) G T ⟨(Nat.le_of_ble_eq_true rfl), (Nat.le_of_ble_eq_true rfl)⟩ dX7_go_303 ⟨rfl, rfl, h⟩
set_option maxRecDepth 100000 in
set_option maxHeartbeats 4000000 in
theorem aw_X7_go_256 {x : sv_X} {b : Nat} {xt : sv_Xt} {F : sv_Fr} {Q : sv_Mg → Prop} (G : sv_G x b xt RX7 cX7_go 2) (RR : sv_R x 1 21 0 0) (T : sv_RT x none) (hL : sv_Lay F) : ∀  (g : sv_Mg), wp_X7_go_256 F Q   g → sv_AW x (sv_Q x (sv_qV F Q) 0 0) F g 0 0 256 [(0, .ref (b + 58))] [.ref (b + 58)] := by
  intro g h
  unfold wp_X7_go_256 at h
  refine sv_iconst (pc := 256) G dX7_go_256 4 ic_4 ?_
  refine sv_goto (pc := 257) G dX7_go_257 261 (by decide) ?_
  refine sv_locs [0] [(0, .ref (b + 58))] rfl ?_
  exact aw_X7_go_261 G RR T hL   4 g  h
set_option maxRecDepth 100000 in
set_option maxHeartbeats 4000000 in
theorem aw_X7_go_222 {x : sv_X} {b : Nat} {xt : sv_Xt} {F : sv_Fr} {Q : sv_Mg → Prop} (G : sv_G x b xt RX7 cX7_go 2) (RR : sv_R x 1 21 0 0) (T : sv_RT x none) (hL : sv_Lay F) {K170 : Int32 → sv_Mg → Prop} (hK170 : ∀ (v1 : Int32) (g : sv_Mg), K170 v1 g → sv_AW x (sv_Q x (sv_qV F Q) 0 0) F g 0 0 170 [(0, .ref (b + 58)), (1, .int v1)] []) : ∀ (v1 : Int32) (s0 : Int32) (g : sv_Mg), wp_X7_go_222 F Q K170 v1 s0 g → sv_AW x (sv_Q x (sv_qV F Q) 0 0) F g 0 0 222 [(0, .ref (b + 58)), (1, .int v1)] [.int s0, .ref (b + 58)] := by
  intro v1 s0 g h
  unfold wp_X7_go_222 at h
  refine sv_putI (pc := 222) G fw_X7_216 (hL.sh rfl) rfl dX7_go_222 (fun g_3 eg_3 => ?_)
  have h := h g_3 eg_3
  refine sv_aload_n (pc := 225) G dX7_go_225 0 rfl ?_
  refine sv_dup (pc := 226) G dX7_go_226 rfl ?_
  refine sv_getI (pc := 227) G fw_X7_201 (hL.sh rfl) rfl dX7_go_227 ?_
  refine sv_iconst (pc := 230) G dX7_go_230 1 ic_1 ?_
  refine sv_iadd (pc := 231) G dX7_go_231 ?_
  refine sv_putI (pc := 232) G fw_X7_201 (hL.sh rfl) rfl dX7_go_232 (fun g_4 eg_4 => ?_)
  have h := h g_4 eg_4
  refine sv_goto (pc := 235) G dX7_go_235 170 (by decide) ?_
  refine sv_locs [0, 1] [(0, .ref (b + 58)), (1, .int v1)] rfl ?_
  exact hK170 v1 g_4  h
set_option maxRecDepth 100000 in
set_option maxHeartbeats 4000000 in
theorem aw_X7_go_170 {x : sv_X} {b : Nat} {xt : sv_Xt} {F : sv_Fr} {Q : sv_Mg → Prop} (G : sv_G x b xt RX7 cX7_go 2) (RR : sv_R x 1 21 0 0) (T : sv_RT x none) (hL : sv_Lay F) : ∀ (n : Nat) (v1 : Int32) (g : sv_Mg), wp_X7_go_170 F Q  n v1 g → sv_AW x (sv_Q x (sv_qV F Q) 0 0) F g 0 0 170 [(0, .ref (b + 58)), (1, .int v1)] [] := by
  intro n
  induction n with
  | zero => intro v1 g h; exact h.elim
  | succ n ih =>
    intro v1 g h
    rw [wp_X7_go_170] at h
    refine sv_aload_n (pc := 170) G dX7_go_170 0 rfl ?_
    refine sv_aload_n (pc := 171) G dX7_go_171 0 rfl ?_
    refine sv_getI (pc := 172) G fw_X7_201 (hL.sh rfl) rfl dX7_go_172 ?_
    refine sv_callV (cs := 0) (sl := 0) (st := []) (As := [.int (g 58 9)]) (a := 58) (pc := 175) G RR (c_X7_isFigure hL  h) mw_X7_isFigure lk_X7_219 (hL.sh rfl) (by decide) rfl rfl ⟨(Nat.le_of_ble_eq_true rfl), (Nat.le_of_ble_eq_true rfl)⟩ ⟨(Nat.le_of_ble_eq_true rfl), (Nat.le_of_ble_eq_true rfl)⟩ (Nat.le_of_ble_eq_true rfl) rfl dX7_go_175 (sv_kI (fun r_6 g_5 h => ?_))
    refine sv_if_eq (pc := 178) G 238 (by decide) dX7_go_178 (fun c_7 => ?_) (fun c_7 => ?_)
    · have h := h.1 c_7
      refine sv_aload_n (pc := 238) G dX7_go_238 0 rfl ?_
      refine sv_iload_n (pc := 239) G dX7_go_239 1 rfl ?_
      refine sv_if_ne (pc := 240) G 256 (by decide) dX7_go_240 (fun c_8 => ?_) (fun c_8 => ?_)
      · have h := h.2 c_8
        refine sv_locs [0] [(0, .ref (b + 58))] rfl ?_
        exact aw_X7_go_256 G RR T hL    g_5  h
      · have h := h.1 c_8
        refine sv_aload_n (pc := 243) G dX7_go_243 0 rfl ?_
        refine sv_getI (pc := 244) G fw_X7_201 (hL.sh rfl) rfl dX7_go_244 ?_
        refine sv_aload_n (pc := 247) G dX7_go_247 0 rfl ?_
        refine sv_getI (pc := 248) G fw_X7_204 (hL.sh rfl) rfl dX7_go_248 ?_
        refine sv_isub (pc := 251) G dX7_go_251 ?_
        refine sv_iconst (pc := 252) G dX7_go_252 4 ic_4 ?_
        refine sv_ic_le (pc := 253) G 260 (by decide) dX7_go_253 (fun c_9 => ?_) (fun c_9 => ?_)
        · have h := h.1 c_9
          refine sv_iconst (pc := 260) G dX7_go_260 2 ic_2 ?_
          refine sv_locs [0] [(0, .ref (b + 58))] rfl ?_
          exact aw_X7_go_261 G RR T hL   2 g_5  h
        · have h := h.2 c_9
          refine sv_locs [0] [(0, .ref (b + 58))] rfl ?_
          exact aw_X7_go_256 G RR T hL    g_5  h
    · have h := h.2 c_7
      refine sv_aload_n (pc := 181) G dX7_go_181 0 rfl ?_
      refine sv_aload_n (pc := 182) G dX7_go_182 0 rfl ?_
      refine sv_getI (pc := 183) G fw_X7_201 (hL.sh rfl) rfl dX7_go_183 ?_
      refine sv_aload_n (pc := 186) G dX7_go_186 0 rfl ?_
      refine sv_getI (pc := 187) G fw_X7_204 (hL.sh rfl) rfl dX7_go_187 ?_
      refine sv_isub (pc := 190) G dX7_go_190 ?_
      refine sv_iconst (pc := 191) G dX7_go_191 4 ic_4 ?_
      refine sv_ic_ge (pc := 192) G 218 (by decide) dX7_go_192 (fun c_10 => ?_) (fun c_10 => ?_)
      · have h := h.1 c_10
        refine sv_aload_n (pc := 218) G dX7_go_218 0 rfl ?_
        refine sv_getI (pc := 219) G fw_X7_216 (hL.sh rfl) rfl dX7_go_219 ?_
        refine sv_locs [0, 1] [(0, .ref (b + 58)), (1, .int v1)] rfl ?_
        exact aw_X7_go_222 G RR T hL  ih v1 (g_5 58 12) g_5  h
      · have h := h.2 c_10
        refine sv_bipush (pc := 195) G dX7_go_195 10 bp_10 ?_
        refine sv_aload_n (pc := 197) G dX7_go_197 0 rfl ?_
        refine sv_getI (pc := 198) G fw_X7_216 (hL.sh rfl) rfl dX7_go_198 ?_
        refine sv_imul (pc := 201) G dX7_go_201 ?_
        refine sv_aload_n (pc := 202) G dX7_go_202 0 rfl ?_
        refine sv_getR (pc := 203) G fw_X7_28 (hL.sh rfl) rfl (hL.rf 66 rfl) dX7_go_203 ?_
        refine sv_aload_n (pc := 206) G dX7_go_206 0 rfl ?_
        refine sv_getI (pc := 207) G fw_X7_201 (hL.sh rfl) rfl dX7_go_207 ?_
        obtain ⟨s_11, h⟩ := h
        refine sv_ialdK (pc := 210) G (hL.sh rfl) s_11 (g_5 58 9).toNatClampNeg rfl dX7_go_210 ?_
        refine sv_iadd (pc := 211) G dX7_go_211 ?_
        refine sv_bipush (pc := 212) G dX7_go_212 48 bp_48 ?_
        refine sv_isub (pc := 214) G dX7_go_214 ?_
        refine sv_goto (pc := 215) G dX7_go_215 222 (by decide) ?_
        refine sv_locs [0, 1] [(0, .ref (b + 58)), (1, .int v1)] rfl ?_
        exact aw_X7_go_222 G RR T hL  ih v1 (((10 * (g_5 58 12)) + (g_5 65 (g_5 58 9).toNatClampNeg)) - 48) g_5  h
set_option maxRecDepth 100000 in
set_option maxHeartbeats 4000000 in
theorem aw_X7_go_127 {x : sv_X} {b : Nat} {xt : sv_Xt} {F : sv_Fr} {Q : sv_Mg → Prop} (G : sv_G x b xt RX7 cX7_go 2) (RR : sv_R x 1 21 0 0) (T : sv_RT x none) (hL : sv_Lay F) : ∀ (s0 : Int32) (g : sv_Mg), wp_X7_go_127 F Q  s0 g → sv_AW x (sv_Q x (sv_qV F Q) 0 0) F g 0 0 127 [(0, .ref (b + 58))] [.int s0, .ref (b + 58)] := by
  intro s0 g h
  unfold wp_X7_go_127 at h
  refine sv_putI (pc := 127) G fw_X7_210 (hL.sh rfl) rfl dX7_go_127 (fun g_12 eg_12 => ?_)
  have h := h g_12 eg_12
  refine sv_aload_n (pc := 130) G dX7_go_130 0 rfl ?_
  refine sv_aload_n (pc := 131) G dX7_go_131 0 rfl ?_
  refine sv_getR (pc := 132) G fw_X7_28 (hL.sh rfl) rfl (hL.rf 66 rfl) dX7_go_132 ?_
  refine sv_aload_n (pc := 135) G dX7_go_135 0 rfl ?_
  refine sv_getI (pc := 136) G fw_X7_204 (hL.sh rfl) rfl dX7_go_136 ?_
  obtain ⟨s_13, h⟩ := h
  refine sv_ialdK (pc := 139) G (hL.sh rfl) s_13 (g_12 58 10).toNatClampNeg rfl dX7_go_139 ?_
  refine sv_putI (pc := 140) G fw_X7_216 (hL.sh rfl) rfl dX7_go_140 (fun g_14 eg_14 => ?_)
  have h := h g_14 eg_14
  refine sv_aload_n (pc := 143) G dX7_go_143 0 rfl ?_
  refine sv_aload_n (pc := 144) G dX7_go_144 0 rfl ?_
  refine sv_getI (pc := 145) G fw_X7_201 (hL.sh rfl) rfl dX7_go_145 ?_
  refine sv_putI (pc := 148) G fw_X7_207 (hL.sh rfl) rfl dX7_go_148 (fun g_15 eg_15 => ?_)
  have h := h g_15 eg_15
  refine sv_goto (pc := 151) G dX7_go_151 303 (by decide) ?_
  exact sv_vreturn (pc := 303) G T ⟨(Nat.le_of_ble_eq_true rfl), (Nat.le_of_ble_eq_true rfl)⟩ dX7_go_303 ⟨rfl, rfl, h⟩
set_option maxRecDepth 100000 in
set_option maxHeartbeats 4000000 in
theorem aw_X7_go_93 {x : sv_X} {b : Nat} {xt : sv_Xt} {F : sv_Fr} {Q : sv_Mg → Prop} (G : sv_G x b xt RX7 cX7_go 2) (RR : sv_R x 1 21 0 0) (T : sv_RT x none) (hL : sv_Lay F) : ∀ (n : Nat) (v1 : Int32) (g : sv_Mg), wp_X7_go_93 F Q  n v1 g → sv_AW x (sv_Q x (sv_qV F Q) 0 0) F g 0 0 93 [(0, .ref (b + 58)), (1, .int v1)] [] := by
  intro n
  induction n with
  | zero => intro v1 g h; exact h.elim
  | succ n ih =>
    intro v1 g h
    rw [wp_X7_go_93] at h
    refine sv_aload_n (pc := 93) G dX7_go_93 0 rfl ?_
    refine sv_aload_n (pc := 94) G dX7_go_94 0 rfl ?_
    refine sv_getI (pc := 95) G fw_X7_201 (hL.sh rfl) rfl dX7_go_95 ?_
    refine sv_callV (cs := 0) (sl := 0) (st := []) (As := [.int (g 58 9)]) (a := 58) (pc := 98) G RR (c_X7_isLetter hL  h) mw_X7_isLetter lk_X7_213 (hL.sh rfl) (by decide) rfl rfl ⟨(Nat.le_of_ble_eq_true rfl), (Nat.le_of_ble_eq_true rfl)⟩ ⟨(Nat.le_of_ble_eq_true rfl), (Nat.le_of_ble_eq_true rfl)⟩ (Nat.le_of_ble_eq_true rfl) rfl dX7_go_98 (sv_kI (fun r_17 g_16 h => ?_))
    refine sv_if_eq (pc := 101) G 117 (by decide) dX7_go_101 (fun c_18 => ?_) (fun c_18 => ?_)
    · have h := h.1 c_18
      refine sv_aload_n (pc := 117) G dX7_go_117 0 rfl ?_
      refine sv_iload_n (pc := 118) G dX7_go_118 1 rfl ?_
      refine sv_if_eq (pc := 119) G 126 (by decide) dX7_go_119 (fun c_19 => ?_) (fun c_19 => ?_)
      · have h := h.1 c_19
        refine sv_iconst (pc := 126) G dX7_go_126 1 ic_1 ?_
        refine sv_locs [0] [(0, .ref (b + 58))] rfl ?_
        exact aw_X7_go_127 G RR T hL   1 g_16  h
      · have h := h.2 c_19
        refine sv_iconst (pc := 122) G dX7_go_122 4 ic_4 ?_
        refine sv_goto (pc := 123) G dX7_go_123 127 (by decide) ?_
        refine sv_locs [0] [(0, .ref (b + 58))] rfl ?_
        exact aw_X7_go_127 G RR T hL   4 g_16  h
    · have h := h.2 c_18
      refine sv_aload_n (pc := 104) G dX7_go_104 0 rfl ?_
      refine sv_dup (pc := 105) G dX7_go_105 rfl ?_
      refine sv_getI (pc := 106) G fw_X7_201 (hL.sh rfl) rfl dX7_go_106 ?_
      refine sv_iconst (pc := 109) G dX7_go_109 1 ic_1 ?_
      refine sv_iadd (pc := 110) G dX7_go_110 ?_
      refine sv_putI (pc := 111) G fw_X7_201 (hL.sh rfl) rfl dX7_go_111 (fun g_20 eg_20 => ?_)
      have h := h g_20 eg_20
      refine sv_goto (pc := 114) G dX7_go_114 93 (by decide) ?_
      refine sv_locs [0, 1] [(0, .ref (b + 58)), (1, .int v1)] rfl ?_
      exact ih v1 g_20  h
set_option maxRecDepth 100000 in
set_option maxHeartbeats 4000000 in
theorem aw_X7_go_62 {x : sv_X} {b : Nat} {xt : sv_Xt} {F : sv_Fr} {Q : sv_Mg → Prop} (G : sv_G x b xt RX7 cX7_go 2) (RR : sv_R x 1 21 0 0) (T : sv_RT x none) (hL : sv_Lay F) : ∀ (s0 : Int32) (g : sv_Mg), wp_X7_go_62 F Q  s0 g → sv_AW x (sv_Q x (sv_qV F Q) 0 0) F g 0 0 62 [(0, .ref (b + 58))] [.int s0] := by
  intro s0 g h
  unfold wp_X7_go_62 at h
  refine sv_istore_n (pc := 62) G dX7_go_62 [(1, .int s0), (0, .ref (b + 58))] (by decide) rfl ?_
  refine sv_aload_n (pc := 63) G dX7_go_63 1 rfl ?_
  refine sv_getI (pc := 64) G fw_X7_204 (hL.sh rfl) rfl dX7_go_64 ?_
  refine sv_aload_n (pc := 67) G dX7_go_67 1 rfl ?_
  refine sv_getI (pc := 68) G fw_X7_197 (hL.sh rfl) rfl dX7_go_68 ?_
  refine sv_ic_ne (pc := 71) G 82 (by decide) dX7_go_71 (fun c_21 => ?_) (fun c_21 => ?_)
  · have h := h.2 c_21
    refine sv_aload_n (pc := 82) G dX7_go_82 1 rfl ?_
    refine sv_aload_n (pc := 83) G dX7_go_83 1 rfl ?_
    refine sv_getI (pc := 84) G fw_X7_204 (hL.sh rfl) rfl dX7_go_84 ?_
    refine sv_callV (cs := 0) (sl := 0) (st := []) (As := [.int (g 58 10)]) (a := 58) (pc := 87) G RR (c_X7_isLetter hL  h) mw_X7_isLetter lk_X7_213 (hL.sh rfl) (by decide) rfl rfl ⟨(Nat.le_of_ble_eq_true rfl), (Nat.le_of_ble_eq_true rfl)⟩ ⟨(Nat.le_of_ble_eq_true rfl), (Nat.le_of_ble_eq_true rfl)⟩ (Nat.le_of_ble_eq_true rfl) rfl dX7_go_87 (sv_kI (fun r_23 g_22 h => ?_))
    refine sv_if_eq (pc := 90) G 154 (by decide) dX7_go_90 (fun c_24 => ?_) (fun c_24 => ?_)
    · have h := h.1 c_24
      refine sv_aload_n (pc := 154) G dX7_go_154 1 rfl ?_
      refine sv_aload_n (pc := 155) G dX7_go_155 1 rfl ?_
      refine sv_getI (pc := 156) G fw_X7_204 (hL.sh rfl) rfl dX7_go_156 ?_
      refine sv_callV (cs := 0) (sl := 0) (st := []) (As := [.int (g_22 58 10)]) (a := 58) (pc := 159) G RR (c_X7_isFigure hL  h) mw_X7_isFigure lk_X7_219 (hL.sh rfl) (by decide) rfl rfl ⟨(Nat.le_of_ble_eq_true rfl), (Nat.le_of_ble_eq_true rfl)⟩ ⟨(Nat.le_of_ble_eq_true rfl), (Nat.le_of_ble_eq_true rfl)⟩ (Nat.le_of_ble_eq_true rfl) rfl dX7_go_159 (sv_kI (fun r_26 g_25 h => ?_))
      refine sv_if_eq (pc := 162) G 275 (by decide) dX7_go_162 (fun c_27 => ?_) (fun c_27 => ?_)
      · have h := h.1 c_27
        refine sv_aload_n (pc := 275) G dX7_go_275 1 rfl ?_
        refine sv_iconst (pc := 276) G dX7_go_276 3 ic_3 ?_
        refine sv_putI (pc := 277) G fw_X7_210 (hL.sh rfl) rfl dX7_go_277 (fun g_28 eg_28 => ?_)
        have h := h g_28 eg_28
        refine sv_aload_n (pc := 280) G dX7_go_280 1 rfl ?_
        refine sv_aload_n (pc := 281) G dX7_go_281 1 rfl ?_
        refine sv_getR (pc := 282) G fw_X7_28 (hL.sh rfl) rfl (hL.rf 66 rfl) dX7_go_282 ?_
        refine sv_aload_n (pc := 285) G dX7_go_285 1 rfl ?_
        refine sv_getI (pc := 286) G fw_X7_204 (hL.sh rfl) rfl dX7_go_286 ?_
        obtain ⟨s_29, h⟩ := h
        refine sv_ialdK (pc := 289) G (hL.sh rfl) s_29 (g_28 58 10).toNatClampNeg rfl dX7_go_289 ?_
        refine sv_putI (pc := 290) G fw_X7_216 (hL.sh rfl) rfl dX7_go_290 (fun g_30 eg_30 => ?_)
        have h := h g_30 eg_30
        refine sv_aload_n (pc := 293) G dX7_go_293 1 rfl ?_
        refine sv_dup (pc := 294) G dX7_go_294 rfl ?_
        refine sv_getI (pc := 295) G fw_X7_201 (hL.sh rfl) rfl dX7_go_295 ?_
        refine sv_iconst (pc := 298) G dX7_go_298 1 ic_1 ?_
        refine sv_iadd (pc := 299) G dX7_go_299 ?_
        refine sv_putI (pc := 300) G fw_X7_201 (hL.sh rfl) rfl dX7_go_300 (fun g_31 eg_31 => ?_)
        have h := h g_31 eg_31
        exact sv_vreturn (pc := 303) G T ⟨(Nat.le_of_ble_eq_true rfl), (Nat.le_of_ble_eq_true rfl)⟩ dX7_go_303 ⟨rfl, rfl, h⟩
      · have h := h.2 c_27
        refine sv_aload_n (pc := 165) G dX7_go_165 1 rfl ?_
        refine sv_iconst (pc := 166) G dX7_go_166 0 ic_0 ?_
        refine sv_putI (pc := 167) G fw_X7_216 (hL.sh rfl) rfl dX7_go_167 (fun g_32 eg_32 => ?_)
        have h := h g_32 eg_32
        refine sv_locs [1, 0] [(0, .ref (b + 58)), (1, .int s0)] rfl ?_
        obtain ⟨n_33, h⟩ := h
        exact aw_X7_go_170 G RR T hL   n_33 s0 g_32  h
    · have h := h.2 c_24
      refine sv_locs [1, 0] [(0, .ref (b + 58)), (1, .int s0)] rfl ?_
      obtain ⟨n_34, h⟩ := h
      exact aw_X7_go_93 G RR T hL   n_34 s0 g_22  h
  · have h := h.1 c_21
    refine sv_aload_n (pc := 74) G dX7_go_74 1 rfl ?_
    refine sv_iconst (pc := 75) G dX7_go_75 0 ic_0 ?_
    refine sv_putI (pc := 76) G fw_X7_210 (hL.sh rfl) rfl dX7_go_76 (fun g_35 eg_35 => ?_)
    have h := h g_35 eg_35
    refine sv_goto (pc := 79) G dX7_go_79 303 (by decide) ?_
    exact sv_vreturn (pc := 303) G T ⟨(Nat.le_of_ble_eq_true rfl), (Nat.le_of_ble_eq_true rfl)⟩ dX7_go_303 ⟨rfl, rfl, h⟩
set_option maxRecDepth 100000 in
set_option maxHeartbeats 4000000 in
theorem aw_X7_go_38 {x : sv_X} {b : Nat} {xt : sv_Xt} {F : sv_Fr} {Q : sv_Mg → Prop} (G : sv_G x b xt RX7 cX7_go 2) (RR : sv_R x 1 21 0 0) (T : sv_RT x none) (hL : sv_Lay F) : ∀  (g : sv_Mg), wp_X7_go_38 F Q   g → sv_AW x (sv_Q x (sv_qV F Q) 0 0) F g 0 0 38 [(0, .ref (b + 58))] [] := by
  intro g h
  unfold wp_X7_go_38 at h
  refine sv_aload_n (pc := 38) G dX7_go_38 0 rfl ?_
  refine sv_aload_n (pc := 39) G dX7_go_39 0 rfl ?_
  refine sv_getI (pc := 40) G fw_X7_201 (hL.sh rfl) rfl dX7_go_40 ?_
  refine sv_putI (pc := 43) G fw_X7_204 (hL.sh rfl) rfl dX7_go_43 (fun g_36 eg_36 => ?_)
  have h := h g_36 eg_36
  refine sv_aload_n (pc := 46) G dX7_go_46 0 rfl ?_
  refine sv_getI (pc := 47) G fw_X7_204 (hL.sh rfl) rfl dX7_go_47 ?_
  refine sv_aload_n (pc := 50) G dX7_go_50 0 rfl ?_
  refine sv_getI (pc := 51) G fw_X7_207 (hL.sh rfl) rfl dX7_go_51 ?_
  refine sv_ic_ne (pc := 54) G 61 (by decide) dX7_go_54 (fun c_37 => ?_) (fun c_37 => ?_)
  · have h := h.2 c_37
    refine sv_iconst (pc := 61) G dX7_go_61 0 ic_0 ?_
    refine sv_locs [0] [(0, .ref (b + 58))] rfl ?_
    exact aw_X7_go_62 G RR T hL   0 g_36  h
  · have h := h.1 c_37
    refine sv_iconst (pc := 57) G dX7_go_57 1 ic_1 ?_
    refine sv_goto (pc := 58) G dX7_go_58 62 (by decide) ?_
    refine sv_locs [0] [(0, .ref (b + 58))] rfl ?_
    exact aw_X7_go_62 G RR T hL   1 g_36  h
set_option maxRecDepth 100000 in
set_option maxHeartbeats 4000000 in
theorem aw_X7_go_0 {x : sv_X} {b : Nat} {xt : sv_Xt} {F : sv_Fr} {Q : sv_Mg → Prop} (G : sv_G x b xt RX7 cX7_go 2) (RR : sv_R x 1 21 0 0) (T : sv_RT x none) (hL : sv_Lay F) : ∀ (n : Nat)  (g : sv_Mg), wp_X7_go_0 F Q  n  g → sv_AW x (sv_Q x (sv_qV F Q) 0 0) F g 0 0 0 [(0, .ref (b + 58))] [] := by
  intro n
  induction n with
  | zero => intro g h; exact h.elim
  | succ n ih =>
    intro g h
    rw [wp_X7_go_0] at h
    refine sv_aload_n (pc := 0) G dX7_go_0 0 rfl ?_
    refine sv_getI (pc := 1) G fw_X7_201 (hL.sh rfl) rfl dX7_go_1 ?_
    refine sv_aload_n (pc := 4) G dX7_go_4 0 rfl ?_
    refine sv_getI (pc := 5) G fw_X7_197 (hL.sh rfl) rfl dX7_go_5 ?_
    refine sv_ic_ge (pc := 8) G 38 (by decide) dX7_go_8 (fun c_38 => ?_) (fun c_38 => ?_)
    · have h := h.1 c_38
      refine sv_locs [0] [(0, .ref (b + 58))] rfl ?_
      exact aw_X7_go_38 G RR T hL    g  h
    · have h := h.2 c_38
      refine sv_aload_n (pc := 11) G dX7_go_11 0 rfl ?_
      refine sv_getR (pc := 12) G fw_X7_28 (hL.sh rfl) rfl (hL.rf 66 rfl) dX7_go_12 ?_
      refine sv_aload_n (pc := 15) G dX7_go_15 0 rfl ?_
      refine sv_getI (pc := 16) G fw_X7_201 (hL.sh rfl) rfl dX7_go_16 ?_
      obtain ⟨s_39, h⟩ := h
      refine sv_ialdK (pc := 19) G (hL.sh rfl) s_39 (g 58 9).toNatClampNeg rfl dX7_go_19 ?_
      refine sv_bipush (pc := 20) G dX7_go_20 32 bp_32 ?_
      refine sv_ic_ne (pc := 22) G 38 (by decide) dX7_go_22 (fun c_40 => ?_) (fun c_40 => ?_)
      · have h := h.2 c_40
        refine sv_locs [0] [(0, .ref (b + 58))] rfl ?_
        exact aw_X7_go_38 G RR T hL    g  h
      · have h := h.1 c_40
        refine sv_aload_n (pc := 25) G dX7_go_25 0 rfl ?_
        refine sv_dup (pc := 26) G dX7_go_26 rfl ?_
        refine sv_getI (pc := 27) G fw_X7_201 (hL.sh rfl) rfl dX7_go_27 ?_
        refine sv_iconst (pc := 30) G dX7_go_30 1 ic_1 ?_
        refine sv_iadd (pc := 31) G dX7_go_31 ?_
        refine sv_putI (pc := 32) G fw_X7_201 (hL.sh rfl) rfl dX7_go_32 (fun g_41 eg_41 => ?_)
        have h := h g_41 eg_41
        refine sv_goto (pc := 35) G dX7_go_35 0 (by decide) ?_
        refine sv_locs [0] [(0, .ref (b + 58))] rfl ?_
        exact ih  g_41  h
set_option maxRecDepth 100000 in
set_option maxHeartbeats 4000000 in
theorem c_X7_go {b : Nat} {xt : sv_Xt} {F : sv_Fr} {g : sv_Mg} {Q : sv_Mg → Prop} (hL : sv_Lay F) (h : wp_X7_go F g Q) : sv_Cal yX7_go cX7_go 2 none 1 21 0 0 b xt [.ref (b + 58)] F g (sv_qV F Q) := by
  refine sv_intro mw_X7_go [(0, .ref (b + 58))] rfl (Nat.le_of_ble_eq_true rfl) (fun x G RR T NM => ?_)
  have G : sv_G x b xt RX7 cX7_go 2 := G
  unfold wp_X7_go at h
  refine sv_locs [0] [(0, .ref (b + 58))] rfl ?_
  obtain ⟨n_42, h⟩ := h
  exact aw_X7_go_0 G RR T hL   n_42  g  h
def wp_X7_takesKey_106 (F : sv_Fr) (Q : Int32 → sv_Mg → Prop) (K12 : Int32 → sv_Mg → Prop) (v1 : Int32) (v3 : Int32) (g : sv_Mg) : Prop := ((v3 = 0 → ∀ v1_2 : Int32, v1_2 = v1 + 1 → K12 v1_2 g) ∧ (¬ v3 = 0 → ∀ g_3, g_3 = sv_st g 58 14 v1 → wp_X7_go F  g_3 (fun g_4 => Q 1 g_4)))
def wp_X7_takesKey_99 (F : sv_Fr) (Q : Int32 → sv_Mg → Prop) (K12 : Int32 → sv_Mg → Prop) (K55 : Int32 → Int32 → Int32 → Int32 → sv_Mg → Prop) (v1 : Int32) (v2 : Int32) (v4 : Int32) (s0 : Int32) (g : sv_Mg) : Prop := ∀ v4_5 : Int32, v4_5 = v4 + 1 → K55 v1 v2 s0 v4_5 g
def wp_X7_takesKey_55 (F : sv_Fr) (Q : Int32 → sv_Mg → Prop) (K12 : Int32 → sv_Mg → Prop) : Nat → Int32 → Int32 → Int32 → Int32 → sv_Mg → Prop
  | 0, _, _, _, _, _ => False
  | n + 1, v1, v2, v3, v4, g => ((v2 ≤ v4 → wp_X7_takesKey_106 F  Q K12 v1 v3 g) ∧ (¬ v2 ≤ v4 → ((v3 = 0 → wp_X7_takesKey_106 F  Q K12 v1 v3 g) ∧ (¬ v3 = 0 → vp_in ((g 58 10) + v4) 96 ∧ vp_in v1 4 ∧ vp_in ((g 67 v1.toNatClampNeg) + v4) 11 ∧ (((g 65 ((g 58 10) + v4).toNatClampNeg) = (g 66 ((g 67 v1.toNatClampNeg) + v4).toNatClampNeg) → wp_X7_takesKey_99 F  Q K12 (wp_X7_takesKey_55 F Q K12 n) v1 v2 v4 1 g) ∧ (¬ (g 65 ((g 58 10) + v4).toNatClampNeg) = (g 66 ((g 67 v1.toNatClampNeg) + v4).toNatClampNeg) → wp_X7_takesKey_99 F  Q K12 (wp_X7_takesKey_55 F Q K12 n) v1 v2 v4 0 g))))))
def wp_X7_takesKey_51 (F : sv_Fr) (Q : Int32 → sv_Mg → Prop) (K12 : Int32 → sv_Mg → Prop) (v1 : Int32) (v2 : Int32) (s0 : Int32) (g : sv_Mg) : Prop := ∃ n_12, wp_X7_takesKey_55 F  Q K12 n_12 v1 v2 s0 0 g
def wp_X7_takesKey_12 (F : sv_Fr) (Q : Int32 → sv_Mg → Prop) : Nat → Int32 → sv_Mg → Prop
  | 0, _, _ => False
  | n + 1, v1, g => ((3 ≤ v1 → Q 0 g) ∧ (¬ 3 ≤ v1 → vp_in (v1 + 1) 4 ∧ vp_in v1 4 ∧ ∀ v2_16 : Int32, v2_16 = ((g 67 (v1 + 1).toNatClampNeg) - (g 67 v1.toNatClampNeg)) → ((v2_16 = ((g 58 9) - (g 58 10)) → wp_X7_takesKey_51 F  Q (wp_X7_takesKey_12 F Q  n) v1 v2_16 1 g) ∧ (¬ v2_16 = ((g 58 9) - (g 58 10)) → wp_X7_takesKey_51 F  Q (wp_X7_takesKey_12 F Q  n) v1 v2_16 0 g))))
def wp_X7_takesKey (F : sv_Fr) (g : sv_Mg) (Q : Int32 → sv_Mg → Prop) : Prop := (((g 58 11) = 1 → ∃ n_19, wp_X7_takesKey_12 F  Q  n_19 0 g) ∧ (¬ (g 58 11) = 1 → Q 0 g))
set_option maxRecDepth 100000 in
set_option maxHeartbeats 4000000 in
theorem aw_X7_takesKey_106 {x : sv_X} {b : Nat} {xt : sv_Xt} {F : sv_Fr} {Q : Int32 → sv_Mg → Prop} (G : sv_G x b xt RX7 cX7_takesKey 5) (RR : sv_R x 2 42 0 0) (T : sv_RT x (some .boolean)) (hL : sv_Lay F) {K12 : Int32 → sv_Mg → Prop} (hK12 : ∀ (v1 : Int32) (g : sv_Mg), K12 v1 g → sv_AW x (sv_Q x (sv_qI F Q) 0 0) F g 0 0 12 [(0, .ref (b + 58)), (1, .int v1)] []) : ∀ (v1 : Int32) (v3 : Int32) (g : sv_Mg), wp_X7_takesKey_106 F Q K12 v1 v3 g → sv_AW x (sv_Q x (sv_qI F Q) 0 0) F g 0 0 106 [(0, .ref (b + 58)), (1, .int v1), (3, .int v3)] [] := by
  intro v1 v3 g h
  unfold wp_X7_takesKey_106 at h
  refine sv_iload_n (pc := 106) G dX7_takesKey_106 2 rfl ?_
  refine sv_if_eq (pc := 107) G 121 (by decide) dX7_takesKey_107 (fun c_1 => ?_) (fun c_1 => ?_)
  · have h := h.1 c_1
    obtain ⟨v1_2, ev1_2⟩ : ∃ y : Int32, y = v1 + 1 := ⟨_, rfl⟩
    have h := h v1_2 ev1_2
    refine sv_iinc (pc := 121) G dX7_takesKey_121 1 v1_2 [(1, .int v1_2), (0, .ref (b + 58)), (3, .int v3)] (by rw [ev1_2, ic_1]) rfl (by decide) rfl ?_
    refine sv_goto (pc := 124) G dX7_takesKey_124 12 (by decide) ?_
    refine sv_locs [1, 0] [(0, .ref (b + 58)), (1, .int v1_2)] rfl ?_
    exact hK12 v1_2 g  h
  · have h := h.2 c_1
    refine sv_aload_n (pc := 110) G dX7_takesKey_110 0 rfl ?_
    refine sv_iload_n (pc := 111) G dX7_takesKey_111 1 rfl ?_
    refine sv_putI (pc := 112) G fw_X7_222 (hL.sh rfl) rfl dX7_takesKey_112 (fun g_3 eg_3 => ?_)
    have h := h g_3 eg_3
    refine sv_aload_n (pc := 115) G dX7_takesKey_115 0 rfl ?_
    refine sv_callV (cs := 0) (sl := 0) (st := []) (As := []) (a := 58) (pc := 116) G RR (c_X7_go hL  h) mw_X7_go lk_X7_225 (hL.sh rfl) (by decide) rfl rfl ⟨(Nat.le_of_ble_eq_true rfl), (Nat.le_of_ble_eq_true rfl)⟩ ⟨(Nat.le_of_ble_eq_true rfl), (Nat.le_of_ble_eq_true rfl)⟩ (Nat.le_of_ble_eq_true rfl) rfl dX7_takesKey_116 (sv_kV (fun g_4 h => ?_))
    refine sv_iconst (pc := 119) G dX7_takesKey_119 1 ic_1 ?_
    exact sv_zreturn (pc := 120) G T (Or.inr rfl) ⟨(Nat.le_of_ble_eq_true rfl), (Nat.le_of_ble_eq_true rfl)⟩ dX7_takesKey_120 ⟨_, rfl, rfl, h⟩
set_option maxRecDepth 100000 in
set_option maxHeartbeats 4000000 in
theorem aw_X7_takesKey_99 {x : sv_X} {b : Nat} {xt : sv_Xt} {F : sv_Fr} {Q : Int32 → sv_Mg → Prop} (G : sv_G x b xt RX7 cX7_takesKey 5) (RR : sv_R x 2 42 0 0) (T : sv_RT x (some .boolean)) (hL : sv_Lay F) {K12 : Int32 → sv_Mg → Prop} (hK12 : ∀ (v1 : Int32) (g : sv_Mg), K12 v1 g → sv_AW x (sv_Q x (sv_qI F Q) 0 0) F g 0 0 12 [(0, .ref (b + 58)), (1, .int v1)] []) {K55 : Int32 → Int32 → Int32 → Int32 → sv_Mg → Prop} (hK55 : ∀ (v1 : Int32) (v2 : Int32) (v3 : Int32) (v4 : Int32) (g : sv_Mg), K55 v1 v2 v3 v4 g → sv_AW x (sv_Q x (sv_qI F Q) 0 0) F g 0 0 55 [(0, .ref (b + 58)), (1, .int v1), (2, .int v2), (3, .int v3), (4, .int v4)] []) : ∀ (v1 : Int32) (v2 : Int32) (v4 : Int32) (s0 : Int32) (g : sv_Mg), wp_X7_takesKey_99 F Q K12 K55 v1 v2 v4 s0 g → sv_AW x (sv_Q x (sv_qI F Q) 0 0) F g 0 0 99 [(0, .ref (b + 58)), (1, .int v1), (2, .int v2), (4, .int v4)] [.int s0] := by
  intro v1 v2 v4 s0 g h
  unfold wp_X7_takesKey_99 at h
  refine sv_istore_n (pc := 99) G dX7_takesKey_99 [(3, .int s0), (0, .ref (b + 58)), (1, .int v1), (2, .int v2), (4, .int v4)] (by decide) rfl ?_
  obtain ⟨v4_5, ev4_5⟩ : ∃ y : Int32, y = v4 + 1 := ⟨_, rfl⟩
  have h := h v4_5 ev4_5
  refine sv_iinc (pc := 100) G dX7_takesKey_100 4 v4_5 [(4, .int v4_5), (3, .int s0), (0, .ref (b + 58)), (1, .int v1), (2, .int v2)] (by rw [ev4_5, ic_1]) rfl (by decide) rfl ?_
  refine sv_goto (pc := 103) G dX7_takesKey_103 55 (by decide) ?_
  refine sv_locs [2, 3, 4, 1, 0] [(0, .ref (b + 58)), (1, .int v1), (2, .int v2), (3, .int s0), (4, .int v4_5)] rfl ?_
  exact hK55 v1 v2 s0 v4_5 g  h
set_option maxRecDepth 100000 in
set_option maxHeartbeats 4000000 in
theorem aw_X7_takesKey_55 {x : sv_X} {b : Nat} {xt : sv_Xt} {F : sv_Fr} {Q : Int32 → sv_Mg → Prop} (G : sv_G x b xt RX7 cX7_takesKey 5) (RR : sv_R x 2 42 0 0) (T : sv_RT x (some .boolean)) (hL : sv_Lay F) {K12 : Int32 → sv_Mg → Prop} (hK12 : ∀ (v1 : Int32) (g : sv_Mg), K12 v1 g → sv_AW x (sv_Q x (sv_qI F Q) 0 0) F g 0 0 12 [(0, .ref (b + 58)), (1, .int v1)] []) : ∀ (n : Nat) (v1 : Int32) (v2 : Int32) (v3 : Int32) (v4 : Int32) (g : sv_Mg), wp_X7_takesKey_55 F Q K12 n v1 v2 v3 v4 g → sv_AW x (sv_Q x (sv_qI F Q) 0 0) F g 0 0 55 [(0, .ref (b + 58)), (1, .int v1), (2, .int v2), (3, .int v3), (4, .int v4)] [] := by
  intro n
  induction n with
  | zero => intro v1 v2 v3 v4 g h; exact h.elim
  | succ n ih =>
    intro v1 v2 v3 v4 g h
    rw [wp_X7_takesKey_55] at h
    refine sv_iload (pc := 55) G dX7_takesKey_55 4 rfl ?_
    refine sv_iload_n (pc := 57) G dX7_takesKey_57 2 rfl ?_
    refine sv_ic_ge (pc := 58) G 106 (by decide) dX7_takesKey_58 (fun c_6 => ?_) (fun c_6 => ?_)
    · have h := h.1 c_6
      refine sv_locs [0, 1, 3] [(0, .ref (b + 58)), (1, .int v1), (3, .int v3)] rfl ?_
      exact aw_X7_takesKey_106 G RR T hL  hK12 v1 v3 g  h
    · have h := h.2 c_6
      refine sv_iload_n (pc := 61) G dX7_takesKey_61 3 rfl ?_
      refine sv_if_eq (pc := 62) G 106 (by decide) dX7_takesKey_62 (fun c_7 => ?_) (fun c_7 => ?_)
      · have h := h.1 c_7
        refine sv_locs [0, 1, 3] [(0, .ref (b + 58)), (1, .int v1), (3, .int v3)] rfl ?_
        exact aw_X7_takesKey_106 G RR T hL  hK12 v1 v3 g  h
      · have h := h.2 c_7
        refine sv_aload_n (pc := 65) G dX7_takesKey_65 0 rfl ?_
        refine sv_getR (pc := 66) G fw_X7_28 (hL.sh rfl) rfl (hL.rf 66 rfl) dX7_takesKey_66 ?_
        refine sv_aload_n (pc := 69) G dX7_takesKey_69 0 rfl ?_
        refine sv_getI (pc := 70) G fw_X7_204 (hL.sh rfl) rfl dX7_takesKey_70 ?_
        refine sv_iload (pc := 73) G dX7_takesKey_73 4 rfl ?_
        refine sv_iadd (pc := 75) G dX7_takesKey_75 ?_
        obtain ⟨s_8, h⟩ := h
        refine sv_ialdK (pc := 76) G (hL.sh rfl) s_8 ((g 58 10) + v4).toNatClampNeg rfl dX7_takesKey_76 ?_
        refine sv_aload_n (pc := 77) G dX7_takesKey_77 0 rfl ?_
        refine sv_getR (pc := 78) G fw_X7_31 (hL.sh rfl) rfl (hL.rf 67 rfl) dX7_takesKey_78 ?_
        refine sv_aload_n (pc := 81) G dX7_takesKey_81 0 rfl ?_
        refine sv_getR (pc := 82) G fw_X7_35 (hL.sh rfl) rfl (hL.rf 68 rfl) dX7_takesKey_82 ?_
        refine sv_iload_n (pc := 85) G dX7_takesKey_85 1 rfl ?_
        obtain ⟨s_9, h⟩ := h
        refine sv_ialdK (pc := 86) G (hL.sh rfl) s_9 v1.toNatClampNeg rfl dX7_takesKey_86 ?_
        refine sv_iload (pc := 87) G dX7_takesKey_87 4 rfl ?_
        refine sv_iadd (pc := 89) G dX7_takesKey_89 ?_
        obtain ⟨s_10, h⟩ := h
        refine sv_caldK (pc := 90) G (hL.sh rfl) s_10 ((g 67 v1.toNatClampNeg) + v4).toNatClampNeg rfl dX7_takesKey_90 ?_
        refine sv_ic_ne (pc := 91) G 98 (by decide) dX7_takesKey_91 (fun c_11 => ?_) (fun c_11 => ?_)
        · have h := h.2 c_11
          refine sv_iconst (pc := 98) G dX7_takesKey_98 0 ic_0 ?_
          refine sv_locs [0, 1, 2, 4] [(0, .ref (b + 58)), (1, .int v1), (2, .int v2), (4, .int v4)] rfl ?_
          exact aw_X7_takesKey_99 G RR T hL  hK12 ih v1 v2 v4 0 g  h
        · have h := h.1 c_11
          refine sv_iconst (pc := 94) G dX7_takesKey_94 1 ic_1 ?_
          refine sv_goto (pc := 95) G dX7_takesKey_95 99 (by decide) ?_
          refine sv_locs [0, 1, 2, 4] [(0, .ref (b + 58)), (1, .int v1), (2, .int v2), (4, .int v4)] rfl ?_
          exact aw_X7_takesKey_99 G RR T hL  hK12 ih v1 v2 v4 1 g  h
set_option maxRecDepth 100000 in
set_option maxHeartbeats 4000000 in
theorem aw_X7_takesKey_51 {x : sv_X} {b : Nat} {xt : sv_Xt} {F : sv_Fr} {Q : Int32 → sv_Mg → Prop} (G : sv_G x b xt RX7 cX7_takesKey 5) (RR : sv_R x 2 42 0 0) (T : sv_RT x (some .boolean)) (hL : sv_Lay F) {K12 : Int32 → sv_Mg → Prop} (hK12 : ∀ (v1 : Int32) (g : sv_Mg), K12 v1 g → sv_AW x (sv_Q x (sv_qI F Q) 0 0) F g 0 0 12 [(0, .ref (b + 58)), (1, .int v1)] []) : ∀ (v1 : Int32) (v2 : Int32) (s0 : Int32) (g : sv_Mg), wp_X7_takesKey_51 F Q K12 v1 v2 s0 g → sv_AW x (sv_Q x (sv_qI F Q) 0 0) F g 0 0 51 [(0, .ref (b + 58)), (1, .int v1), (2, .int v2)] [.int s0] := by
  intro v1 v2 s0 g h
  unfold wp_X7_takesKey_51 at h
  refine sv_istore_n (pc := 51) G dX7_takesKey_51 [(3, .int s0), (0, .ref (b + 58)), (1, .int v1), (2, .int v2)] (by decide) rfl ?_
  refine sv_iconst (pc := 52) G dX7_takesKey_52 0 ic_0 ?_
  refine sv_istore (pc := 53) G dX7_takesKey_53 [(4, .int 0), (3, .int s0), (0, .ref (b + 58)), (1, .int v1), (2, .int v2)] (by decide) rfl ?_
  refine sv_locs [2, 3, 4, 1, 0] [(0, .ref (b + 58)), (1, .int v1), (2, .int v2), (3, .int s0), (4, .int 0)] rfl ?_
  obtain ⟨n_12, h⟩ := h
  exact aw_X7_takesKey_55 G RR T hL  hK12 n_12 v1 v2 s0 0 g  h
set_option maxRecDepth 100000 in
set_option maxHeartbeats 4000000 in
theorem aw_X7_takesKey_12 {x : sv_X} {b : Nat} {xt : sv_Xt} {F : sv_Fr} {Q : Int32 → sv_Mg → Prop} (G : sv_G x b xt RX7 cX7_takesKey 5) (RR : sv_R x 2 42 0 0) (T : sv_RT x (some .boolean)) (hL : sv_Lay F) : ∀ (n : Nat) (v1 : Int32) (g : sv_Mg), wp_X7_takesKey_12 F Q  n v1 g → sv_AW x (sv_Q x (sv_qI F Q) 0 0) F g 0 0 12 [(0, .ref (b + 58)), (1, .int v1)] [] := by
  intro n
  induction n with
  | zero => intro v1 g h; exact h.elim
  | succ n ih =>
    intro v1 g h
    rw [wp_X7_takesKey_12] at h
    refine sv_iload_n (pc := 12) G dX7_takesKey_12 1 rfl ?_
    refine sv_iconst (pc := 13) G dX7_takesKey_13 3 ic_3 ?_
    refine sv_ic_ge (pc := 14) G 127 (by decide) dX7_takesKey_14 (fun c_13 => ?_) (fun c_13 => ?_)
    · have h := h.1 c_13
      refine sv_iconst (pc := 127) G dX7_takesKey_127 0 ic_0 ?_
      exact sv_zreturn (pc := 128) G T (Or.inl rfl) ⟨(Nat.le_of_ble_eq_true rfl), (Nat.le_of_ble_eq_true rfl)⟩ dX7_takesKey_128 ⟨_, rfl, rfl, h⟩
    · have h := h.2 c_13
      refine sv_aload_n (pc := 17) G dX7_takesKey_17 0 rfl ?_
      refine sv_getR (pc := 18) G fw_X7_35 (hL.sh rfl) rfl (hL.rf 68 rfl) dX7_takesKey_18 ?_
      refine sv_iload_n (pc := 21) G dX7_takesKey_21 1 rfl ?_
      refine sv_iconst (pc := 22) G dX7_takesKey_22 1 ic_1 ?_
      refine sv_iadd (pc := 23) G dX7_takesKey_23 ?_
      obtain ⟨s_14, h⟩ := h
      refine sv_ialdK (pc := 24) G (hL.sh rfl) s_14 (v1 + 1).toNatClampNeg rfl dX7_takesKey_24 ?_
      refine sv_aload_n (pc := 25) G dX7_takesKey_25 0 rfl ?_
      refine sv_getR (pc := 26) G fw_X7_35 (hL.sh rfl) rfl (hL.rf 68 rfl) dX7_takesKey_26 ?_
      refine sv_iload_n (pc := 29) G dX7_takesKey_29 1 rfl ?_
      obtain ⟨s_15, h⟩ := h
      refine sv_ialdK (pc := 30) G (hL.sh rfl) s_15 v1.toNatClampNeg rfl dX7_takesKey_30 ?_
      refine sv_isub (pc := 31) G dX7_takesKey_31 ?_
      refine sv_topi (fun v2_16 ev2_16 => ?_)
      have h := h v2_16 ev2_16
      refine sv_istore_n (pc := 32) G dX7_takesKey_32 [(2, .int v2_16), (0, .ref (b + 58)), (1, .int v1)] (by decide) rfl ?_
      refine sv_iload_n (pc := 33) G dX7_takesKey_33 0 rfl ?_
      refine sv_aload_n (pc := 34) G dX7_takesKey_34 1 rfl ?_
      refine sv_getI (pc := 35) G fw_X7_201 (hL.sh rfl) rfl dX7_takesKey_35 ?_
      refine sv_aload_n (pc := 38) G dX7_takesKey_38 1 rfl ?_
      refine sv_getI (pc := 39) G fw_X7_204 (hL.sh rfl) rfl dX7_takesKey_39 ?_
      refine sv_isub (pc := 42) G dX7_takesKey_42 ?_
      refine sv_ic_ne (pc := 43) G 50 (by decide) dX7_takesKey_43 (fun c_17 => ?_) (fun c_17 => ?_)
      · have h := h.2 c_17
        refine sv_iconst (pc := 50) G dX7_takesKey_50 0 ic_0 ?_
        refine sv_locs [1, 2, 0] [(0, .ref (b + 58)), (1, .int v1), (2, .int v2_16)] rfl ?_
        exact aw_X7_takesKey_51 G RR T hL  ih v1 v2_16 0 g  h
      · have h := h.1 c_17
        refine sv_iconst (pc := 46) G dX7_takesKey_46 1 ic_1 ?_
        refine sv_goto (pc := 47) G dX7_takesKey_47 51 (by decide) ?_
        refine sv_locs [1, 2, 0] [(0, .ref (b + 58)), (1, .int v1), (2, .int v2_16)] rfl ?_
        exact aw_X7_takesKey_51 G RR T hL  ih v1 v2_16 1 g  h
set_option maxRecDepth 100000 in
set_option maxHeartbeats 4000000 in
theorem c_X7_takesKey {b : Nat} {xt : sv_Xt} {F : sv_Fr} {g : sv_Mg} {Q : Int32 → sv_Mg → Prop} (hL : sv_Lay F) (h : wp_X7_takesKey F g Q) : sv_Cal yX7_takesKey cX7_takesKey 5 (some .boolean) 2 42 0 0 b xt [.ref (b + 58)] F g (sv_qI F Q) := by
  refine sv_intro mw_X7_takesKey [(0, .ref (b + 58))] rfl (Nat.le_of_ble_eq_true rfl) (fun x G RR T NM => ?_)
  have G : sv_G x b xt RX7 cX7_takesKey 5 := G
  unfold wp_X7_takesKey at h
  refine sv_aload_n (pc := 0) G dX7_takesKey_0 0 rfl ?_
  refine sv_getI (pc := 1) G fw_X7_210 (hL.sh rfl) rfl dX7_takesKey_1 ?_
  refine sv_iconst (pc := 4) G dX7_takesKey_4 1 ic_1 ?_
  refine sv_ic_eq (pc := 5) G 10 (by decide) dX7_takesKey_5 (fun c_18 => ?_) (fun c_18 => ?_)
  · have h := h.1 c_18
    refine sv_iconst (pc := 10) G dX7_takesKey_10 0 ic_0 ?_
    refine sv_istore_n (pc := 11) G dX7_takesKey_11 [(1, .int 0), (0, .ref (b + 58))] (by decide) rfl ?_
    refine sv_locs [1, 0] [(0, .ref (b + 58)), (1, .int 0)] rfl ?_
    obtain ⟨n_19, h⟩ := h
    exact aw_X7_takesKey_12 G RR T hL   n_19 0 g  h
  · have h := h.2 c_18
    refine sv_iconst (pc := 8) G dX7_takesKey_8 0 ic_0 ?_
    exact sv_zreturn (pc := 9) G T (Or.inl rfl) ⟨(Nat.le_of_ble_eq_true rfl), (Nat.le_of_ble_eq_true rfl)⟩ dX7_takesKey_9 ⟨_, rfl, rfl, h⟩
def wp_X7_nameOf (F : sv_Fr) (v1 : Int32) (g : sv_Mg) (Q : Int32 → sv_Mg → Prop) : Prop := (((g 58 14) = 0 → ((v1 = 102 → Q 0 g) ∧ (¬ v1 = 102 → ((v1 = 114 → Q 1 g) ∧ (¬ v1 = 114 → ((v1 = 112 → Q 2 g) ∧ (¬ v1 = 112 → Q (-1) g))))))) ∧ (¬ (g 58 14) = 0 → (((g 58 14) = 1 → ((v1 = 114 → Q 0 g) ∧ (¬ v1 = 114 → ((v1 = 119 → Q 1 g) ∧ (¬ v1 = 119 → Q (-1) g))))) ∧ (¬ (g 58 14) = 1 → ((v1 = 102 → Q 0 g) ∧ (¬ v1 = 102 → ((v1 = 119 → Q 1 g) ∧ (¬ v1 = 119 → Q (-1) g))))))))
set_option maxRecDepth 100000 in
set_option maxHeartbeats 4000000 in
theorem c_X7_nameOf {b : Nat} {xt : sv_Xt} {F : sv_Fr} {v1 : Int32} {g : sv_Mg} {Q : Int32 → sv_Mg → Prop} (hL : sv_Lay F) (h : wp_X7_nameOf F v1 g Q) : sv_Cal yX7_nameOf cX7_nameOf 2 (some .int) 0 0 0 0 b xt [.ref (b + 58), .int v1] F g (sv_qI F Q) := by
  refine sv_intro mw_X7_nameOf [(0, .ref (b + 58)), (1, .int v1)] rfl (Nat.le_of_ble_eq_true rfl) (fun x G RR T NM => ?_)
  have G : sv_G x b xt RX7 cX7_nameOf 2 := G
  unfold wp_X7_nameOf at h
  refine sv_aload_n (pc := 0) G dX7_nameOf_0 0 rfl ?_
  refine sv_getI (pc := 1) G fw_X7_222 (hL.sh rfl) rfl dX7_nameOf_1 ?_
  by_cases c_1 : (g 58 14) = 0
  · have h := h.1 c_1
    refine sv_lsw (off := 28) (pc := 4) G dX7_nameOf_4 32 (by decide) (by rw [c_1]; decide) (by decide) ?_
    refine sv_iload_n (pc := 32) G dX7_nameOf_32 1 rfl ?_
    refine sv_bipush (pc := 33) G dX7_nameOf_33 102 bp_102 ?_
    refine sv_ic_ne (pc := 35) G 42 (by decide) dX7_nameOf_35 (fun c_2 => ?_) (fun c_2 => ?_)
    · have h := h.2 c_2
      refine sv_iload_n (pc := 42) G dX7_nameOf_42 1 rfl ?_
      refine sv_bipush (pc := 43) G dX7_nameOf_43 114 bp_114 ?_
      refine sv_ic_ne (pc := 45) G 52 (by decide) dX7_nameOf_45 (fun c_3 => ?_) (fun c_3 => ?_)
      · have h := h.2 c_3
        refine sv_iload_n (pc := 52) G dX7_nameOf_52 1 rfl ?_
        refine sv_bipush (pc := 53) G dX7_nameOf_53 112 bp_112 ?_
        refine sv_ic_ne (pc := 55) G 62 (by decide) dX7_nameOf_55 (fun c_4 => ?_) (fun c_4 => ?_)
        · have h := h.2 c_4
          refine sv_iconst (pc := 62) G dX7_nameOf_62 (-1) ic_m1 ?_
          exact sv_ireturn (pc := 63) G T ⟨(Nat.le_of_ble_eq_true rfl), (Nat.le_of_ble_eq_true rfl)⟩ dX7_nameOf_63 ⟨_, rfl, rfl, h⟩
        · have h := h.1 c_4
          refine sv_iconst (pc := 58) G dX7_nameOf_58 2 ic_2 ?_
          refine sv_goto (pc := 59) G dX7_nameOf_59 63 (by decide) ?_
          exact sv_ireturn (pc := 63) G T ⟨(Nat.le_of_ble_eq_true rfl), (Nat.le_of_ble_eq_true rfl)⟩ dX7_nameOf_63 ⟨_, rfl, rfl, h⟩
      · have h := h.1 c_3
        refine sv_iconst (pc := 48) G dX7_nameOf_48 1 ic_1 ?_
        refine sv_goto (pc := 49) G dX7_nameOf_49 63 (by decide) ?_
        exact sv_ireturn (pc := 63) G T ⟨(Nat.le_of_ble_eq_true rfl), (Nat.le_of_ble_eq_true rfl)⟩ dX7_nameOf_63 ⟨_, rfl, rfl, h⟩
    · have h := h.1 c_2
      refine sv_iconst (pc := 38) G dX7_nameOf_38 0 ic_0 ?_
      refine sv_goto (pc := 39) G dX7_nameOf_39 63 (by decide) ?_
      exact sv_ireturn (pc := 63) G T ⟨(Nat.le_of_ble_eq_true rfl), (Nat.le_of_ble_eq_true rfl)⟩ dX7_nameOf_63 ⟨_, rfl, rfl, h⟩
  · have h := h.2 c_1
    by_cases c_5 : (g 58 14) = 1
    · have h := h.1 c_5
      refine sv_lsw (off := 60) (pc := 4) G dX7_nameOf_4 64 (by decide) (by rw [c_5]; decide) (by decide) ?_
      refine sv_iload_n (pc := 64) G dX7_nameOf_64 1 rfl ?_
      refine sv_bipush (pc := 65) G dX7_nameOf_65 114 bp_114 ?_
      refine sv_ic_ne (pc := 67) G 74 (by decide) dX7_nameOf_67 (fun c_6 => ?_) (fun c_6 => ?_)
      · have h := h.2 c_6
        refine sv_iload_n (pc := 74) G dX7_nameOf_74 1 rfl ?_
        refine sv_bipush (pc := 75) G dX7_nameOf_75 119 bp_119 ?_
        refine sv_ic_ne (pc := 77) G 84 (by decide) dX7_nameOf_77 (fun c_7 => ?_) (fun c_7 => ?_)
        · have h := h.2 c_7
          refine sv_iconst (pc := 84) G dX7_nameOf_84 (-1) ic_m1 ?_
          exact sv_ireturn (pc := 85) G T ⟨(Nat.le_of_ble_eq_true rfl), (Nat.le_of_ble_eq_true rfl)⟩ dX7_nameOf_85 ⟨_, rfl, rfl, h⟩
        · have h := h.1 c_7
          refine sv_iconst (pc := 80) G dX7_nameOf_80 1 ic_1 ?_
          refine sv_goto (pc := 81) G dX7_nameOf_81 85 (by decide) ?_
          exact sv_ireturn (pc := 85) G T ⟨(Nat.le_of_ble_eq_true rfl), (Nat.le_of_ble_eq_true rfl)⟩ dX7_nameOf_85 ⟨_, rfl, rfl, h⟩
      · have h := h.1 c_6
        refine sv_iconst (pc := 70) G dX7_nameOf_70 0 ic_0 ?_
        refine sv_goto (pc := 71) G dX7_nameOf_71 85 (by decide) ?_
        exact sv_ireturn (pc := 85) G T ⟨(Nat.le_of_ble_eq_true rfl), (Nat.le_of_ble_eq_true rfl)⟩ dX7_nameOf_85 ⟨_, rfl, rfl, h⟩
    · have h := h.2 c_5
      refine sv_lsw (off := 82) (pc := 4) G dX7_nameOf_4 86 (by decide) (by show Op.lookupswitch.offset [(0, 28), (1, 60)] _ _ = _; rw [lv_osw c_1 (by decide), lv_osw c_5 (by decide)]; rfl) (by decide) ?_
      refine sv_iload_n (pc := 86) G dX7_nameOf_86 1 rfl ?_
      refine sv_bipush (pc := 87) G dX7_nameOf_87 102 bp_102 ?_
      refine sv_ic_ne (pc := 89) G 96 (by decide) dX7_nameOf_89 (fun c_8 => ?_) (fun c_8 => ?_)
      · have h := h.2 c_8
        refine sv_iload_n (pc := 96) G dX7_nameOf_96 1 rfl ?_
        refine sv_bipush (pc := 97) G dX7_nameOf_97 119 bp_119 ?_
        refine sv_ic_ne (pc := 99) G 106 (by decide) dX7_nameOf_99 (fun c_9 => ?_) (fun c_9 => ?_)
        · have h := h.2 c_9
          refine sv_iconst (pc := 106) G dX7_nameOf_106 (-1) ic_m1 ?_
          exact sv_ireturn (pc := 107) G T ⟨(Nat.le_of_ble_eq_true rfl), (Nat.le_of_ble_eq_true rfl)⟩ dX7_nameOf_107 ⟨_, rfl, rfl, h⟩
        · have h := h.1 c_9
          refine sv_iconst (pc := 102) G dX7_nameOf_102 1 ic_1 ?_
          refine sv_goto (pc := 103) G dX7_nameOf_103 107 (by decide) ?_
          exact sv_ireturn (pc := 107) G T ⟨(Nat.le_of_ble_eq_true rfl), (Nat.le_of_ble_eq_true rfl)⟩ dX7_nameOf_107 ⟨_, rfl, rfl, h⟩
      · have h := h.1 c_8
        refine sv_iconst (pc := 92) G dX7_nameOf_92 0 ic_0 ?_
        refine sv_goto (pc := 93) G dX7_nameOf_93 107 (by decide) ?_
        exact sv_ireturn (pc := 107) G T ⟨(Nat.le_of_ble_eq_true rfl), (Nat.le_of_ble_eq_true rfl)⟩ dX7_nameOf_107 ⟨_, rfl, rfl, h⟩
def wp_X7_rank (F : sv_Fr) (v0 : Int32) (g : sv_Mg) (Q : Int32 → sv_Mg → Prop) : Prop := ((v0 = (-1) → Q 1 g) ∧ (¬ v0 = (-1) → ((v0 = (-2) → Q 2 g) ∧ (¬ v0 = (-2) → ((v0 < (-5) → ((v0 < (-7) → ((v0 < (-9) → Q 6 g) ∧ (¬ v0 < (-9) → Q 5 g))) ∧ (¬ v0 < (-7) → Q 4 g))) ∧ (¬ v0 < (-5) → Q 3 g))))))
set_option maxRecDepth 100000 in
set_option maxHeartbeats 4000000 in
theorem c_X7_rank {b : Nat} {xt : sv_Xt} {F : sv_Fr} {v0 : Int32} {g : sv_Mg} {Q : Int32 → sv_Mg → Prop} (hL : sv_Lay F) (h : wp_X7_rank F v0 g Q) : sv_Cal yX7_rank cX7_rank 1 (some .int) 0 0 0 0 b xt [.int v0] F g (sv_qI F Q) := by
  refine sv_intro mw_X7_rank [(0, .int v0)] rfl (Nat.le_of_ble_eq_true rfl) (fun x G RR T NM => ?_)
  have G : sv_G x b xt RX7 cX7_rank 1 := G
  unfold wp_X7_rank at h
  refine sv_iload_n (pc := 0) G dX7_rank_0 0 rfl ?_
  refine sv_iconst (pc := 1) G dX7_rank_1 (-1) ic_m1 ?_
  refine sv_ic_ne (pc := 2) G 9 (by decide) dX7_rank_2 (fun c_1 => ?_) (fun c_1 => ?_)
  · have h := h.2 c_1
    refine sv_iload_n (pc := 9) G dX7_rank_9 0 rfl ?_
    refine sv_bipush (pc := 10) G dX7_rank_10 (-2) bp_m2 ?_
    refine sv_ic_ne (pc := 12) G 19 (by decide) dX7_rank_12 (fun c_2 => ?_) (fun c_2 => ?_)
    · have h := h.2 c_2
      refine sv_iload_n (pc := 19) G dX7_rank_19 0 rfl ?_
      refine sv_bipush (pc := 20) G dX7_rank_20 (-5) bp_m5 ?_
      refine sv_ic_lt (pc := 22) G 29 (by decide) dX7_rank_22 (fun c_3 => ?_) (fun c_3 => ?_)
      · have h := h.1 c_3
        refine sv_iload_n (pc := 29) G dX7_rank_29 0 rfl ?_
        refine sv_bipush (pc := 30) G dX7_rank_30 (-7) bp_m7 ?_
        refine sv_ic_lt (pc := 32) G 39 (by decide) dX7_rank_32 (fun c_4 => ?_) (fun c_4 => ?_)
        · have h := h.1 c_4
          refine sv_iload_n (pc := 39) G dX7_rank_39 0 rfl ?_
          refine sv_bipush (pc := 40) G dX7_rank_40 (-9) bp_m9 ?_
          refine sv_ic_lt (pc := 42) G 49 (by decide) dX7_rank_42 (fun c_5 => ?_) (fun c_5 => ?_)
          · have h := h.1 c_5
            refine sv_bipush (pc := 49) G dX7_rank_49 6 bp_6 ?_
            exact sv_ireturn (pc := 51) G T ⟨(Nat.le_of_ble_eq_true rfl), (Nat.le_of_ble_eq_true rfl)⟩ dX7_rank_51 ⟨_, rfl, rfl, h⟩
          · have h := h.2 c_5
            refine sv_iconst (pc := 45) G dX7_rank_45 5 ic_5 ?_
            refine sv_goto (pc := 46) G dX7_rank_46 51 (by decide) ?_
            exact sv_ireturn (pc := 51) G T ⟨(Nat.le_of_ble_eq_true rfl), (Nat.le_of_ble_eq_true rfl)⟩ dX7_rank_51 ⟨_, rfl, rfl, h⟩
        · have h := h.2 c_4
          refine sv_iconst (pc := 35) G dX7_rank_35 4 ic_4 ?_
          refine sv_goto (pc := 36) G dX7_rank_36 51 (by decide) ?_
          exact sv_ireturn (pc := 51) G T ⟨(Nat.le_of_ble_eq_true rfl), (Nat.le_of_ble_eq_true rfl)⟩ dX7_rank_51 ⟨_, rfl, rfl, h⟩
      · have h := h.2 c_3
        refine sv_iconst (pc := 25) G dX7_rank_25 3 ic_3 ?_
        refine sv_goto (pc := 26) G dX7_rank_26 51 (by decide) ?_
        exact sv_ireturn (pc := 51) G T ⟨(Nat.le_of_ble_eq_true rfl), (Nat.le_of_ble_eq_true rfl)⟩ dX7_rank_51 ⟨_, rfl, rfl, h⟩
    · have h := h.1 c_2
      refine sv_iconst (pc := 15) G dX7_rank_15 2 ic_2 ?_
      refine sv_goto (pc := 16) G dX7_rank_16 51 (by decide) ?_
      exact sv_ireturn (pc := 51) G T ⟨(Nat.le_of_ble_eq_true rfl), (Nat.le_of_ble_eq_true rfl)⟩ dX7_rank_51 ⟨_, rfl, rfl, h⟩
  · have h := h.1 c_1
    refine sv_iconst (pc := 5) G dX7_rank_5 1 ic_1 ?_
    refine sv_goto (pc := 6) G dX7_rank_6 51 (by decide) ?_
    exact sv_ireturn (pc := 51) G T ⟨(Nat.le_of_ble_eq_true rfl), (Nat.le_of_ble_eq_true rfl)⟩ dX7_rank_51 ⟨_, rfl, rfl, h⟩
def wp_X7_settle_0 (F : sv_Fr) (Q : sv_Mg → Prop) : Nat → Int32 → sv_Mg → Prop
  | 0, _, _ => False
  | n + 1, v1, g => (((g 58 21) ≤ 0 → Q g) ∧ (¬ (g 58 21) ≤ 0 → vp_in ((g 58 21) - 1) 96 ∧ (((g 69 ((g 58 21) - 1).toNatClampNeg) = (-11) → Q g) ∧ (¬ (g 69 ((g 58 21) - 1).toNatClampNeg) = (-11) → vp_in ((g 58 21) - 1) 96 ∧ wp_X7_rank F (g 69 ((g 58 21) - 1).toNatClampNeg) g (fun r_6 g_5 => ((r_6 < v1 → Q g_5) ∧ (¬ r_6 < v1 → ∀ g_8, g_8 = sv_st g_5 58 21 ((g_5 58 21) - 1) → vp_in (g_8 58 21) 96 ∧ vp_in (g_8 58 18) 96 ∧ ∀ g_11, g_11 = sv_st g_8 68 (g_8 58 18).toNatClampNeg (g_8 69 (g_8 58 21).toNatClampNeg) → ∀ g_12, g_12 = sv_st g_11 58 18 ((g_11 58 18) + 1) → (wp_X7_settle_0 F Q  n) v1 g_12)))))))
def wp_X7_settle (F : sv_Fr) (v1 : Int32) (g : sv_Mg) (Q : sv_Mg → Prop) : Prop := ∃ n_13, wp_X7_settle_0 F  Q  n_13 v1 g
set_option maxRecDepth 100000 in
set_option maxHeartbeats 4000000 in
theorem aw_X7_settle_0 {x : sv_X} {b : Nat} {xt : sv_Xt} {F : sv_Fr} {Q : sv_Mg → Prop} (G : sv_G x b xt RX7 cX7_settle 2) (RR : sv_R x 1 20 0 0) (T : sv_RT x none) (hL : sv_Lay F) : ∀ (n : Nat) (v1 : Int32) (g : sv_Mg), wp_X7_settle_0 F Q  n v1 g → sv_AW x (sv_Q x (sv_qV F Q) 0 0) F g 0 0 0 [(0, .ref (b + 58)), (1, .int v1)] [] := by
  intro n
  induction n with
  | zero => intro v1 g h; exact h.elim
  | succ n ih =>
    intro v1 g h
    rw [wp_X7_settle_0] at h
    refine sv_aload_n (pc := 0) G dX7_settle_0 0 rfl ?_
    refine sv_getI (pc := 1) G fw_X7_228 (hL.sh rfl) rfl dX7_settle_1 ?_
    refine sv_if_le (pc := 4) G 82 (by decide) dX7_settle_4 (fun c_1 => ?_) (fun c_1 => ?_)
    · have h := h.1 c_1
      exact sv_vreturn (pc := 82) G T ⟨(Nat.le_of_ble_eq_true rfl), (Nat.le_of_ble_eq_true rfl)⟩ dX7_settle_82 ⟨rfl, rfl, h⟩
    · have h := h.2 c_1
      refine sv_aload_n (pc := 7) G dX7_settle_7 0 rfl ?_
      refine sv_getR (pc := 8) G fw_X7_41 (hL.sh rfl) rfl (hL.rf 70 rfl) dX7_settle_8 ?_
      refine sv_aload_n (pc := 11) G dX7_settle_11 0 rfl ?_
      refine sv_getI (pc := 12) G fw_X7_228 (hL.sh rfl) rfl dX7_settle_12 ?_
      refine sv_iconst (pc := 15) G dX7_settle_15 1 ic_1 ?_
      refine sv_isub (pc := 16) G dX7_settle_16 ?_
      obtain ⟨s_2, h⟩ := h
      refine sv_ialdK (pc := 17) G (hL.sh rfl) s_2 ((g 58 21) - 1).toNatClampNeg rfl dX7_settle_17 ?_
      refine sv_bipush (pc := 18) G dX7_settle_18 (-11) bp_m11 ?_
      refine sv_ic_eq (pc := 20) G 82 (by decide) dX7_settle_20 (fun c_3 => ?_) (fun c_3 => ?_)
      · have h := h.1 c_3
        exact sv_vreturn (pc := 82) G T ⟨(Nat.le_of_ble_eq_true rfl), (Nat.le_of_ble_eq_true rfl)⟩ dX7_settle_82 ⟨rfl, rfl, h⟩
      · have h := h.2 c_3
        refine sv_aload_n (pc := 23) G dX7_settle_23 0 rfl ?_
        refine sv_getR (pc := 24) G fw_X7_41 (hL.sh rfl) rfl (hL.rf 70 rfl) dX7_settle_24 ?_
        refine sv_aload_n (pc := 27) G dX7_settle_27 0 rfl ?_
        refine sv_getI (pc := 28) G fw_X7_228 (hL.sh rfl) rfl dX7_settle_28 ?_
        refine sv_iconst (pc := 31) G dX7_settle_31 1 ic_1 ?_
        refine sv_isub (pc := 32) G dX7_settle_32 ?_
        obtain ⟨s_4, h⟩ := h
        refine sv_ialdK (pc := 33) G (hL.sh rfl) s_4 ((g 58 21) - 1).toNatClampNeg rfl dX7_settle_33 ?_
        refine sv_callS (cs := 0) (sl := 0) (st := []) (As := [.int (g 69 ((g 58 21) - 1).toNatClampNeg)]) (pc := 34) G RR (c_X7_rank hL  h) mw_X7_rank lk_X7_231 rfl ⟨(Nat.le_of_ble_eq_true rfl), (Nat.le_of_ble_eq_true rfl)⟩ ⟨(Nat.le_of_ble_eq_true rfl), (Nat.le_of_ble_eq_true rfl)⟩ (Nat.le_of_ble_eq_true rfl) rfl dX7_settle_34 (sv_kI (fun r_6 g_5 h => ?_))
        refine sv_iload_n (pc := 37) G dX7_settle_37 1 rfl ?_
        refine sv_ic_lt (pc := 38) G 82 (by decide) dX7_settle_38 (fun c_7 => ?_) (fun c_7 => ?_)
        · have h := h.1 c_7
          exact sv_vreturn (pc := 82) G T ⟨(Nat.le_of_ble_eq_true rfl), (Nat.le_of_ble_eq_true rfl)⟩ dX7_settle_82 ⟨rfl, rfl, h⟩
        · have h := h.2 c_7
          refine sv_aload_n (pc := 41) G dX7_settle_41 0 rfl ?_
          refine sv_dup (pc := 42) G dX7_settle_42 rfl ?_
          refine sv_getI (pc := 43) G fw_X7_228 (hL.sh rfl) rfl dX7_settle_43 ?_
          refine sv_iconst (pc := 46) G dX7_settle_46 1 ic_1 ?_
          refine sv_isub (pc := 47) G dX7_settle_47 ?_
          refine sv_putI (pc := 48) G fw_X7_228 (hL.sh rfl) rfl dX7_settle_48 (fun g_8 eg_8 => ?_)
          have h := h g_8 eg_8
          refine sv_aload_n (pc := 51) G dX7_settle_51 0 rfl ?_
          refine sv_getR (pc := 52) G fw_X7_38 (hL.sh rfl) rfl (hL.rf 69 rfl) dX7_settle_52 ?_
          refine sv_aload_n (pc := 55) G dX7_settle_55 0 rfl ?_
          refine sv_getI (pc := 56) G fw_X7_234 (hL.sh rfl) rfl dX7_settle_56 ?_
          refine sv_aload_n (pc := 59) G dX7_settle_59 0 rfl ?_
          refine sv_getR (pc := 60) G fw_X7_41 (hL.sh rfl) rfl (hL.rf 70 rfl) dX7_settle_60 ?_
          refine sv_aload_n (pc := 63) G dX7_settle_63 0 rfl ?_
          refine sv_getI (pc := 64) G fw_X7_228 (hL.sh rfl) rfl dX7_settle_64 ?_
          obtain ⟨s_9, h⟩ := h
          refine sv_ialdK (pc := 67) G (hL.sh rfl) s_9 (g_8 58 21).toNatClampNeg rfl dX7_settle_67 ?_
          obtain ⟨s_10, h⟩ := h
          refine sv_iastK (pc := 68) G (hL.sh rfl) s_10 (g_8 58 18).toNatClampNeg rfl dX7_settle_68 (fun g_11 eg_11 => ?_)
          have h := h g_11 eg_11
          refine sv_aload_n (pc := 69) G dX7_settle_69 0 rfl ?_
          refine sv_dup (pc := 70) G dX7_settle_70 rfl ?_
          refine sv_getI (pc := 71) G fw_X7_234 (hL.sh rfl) rfl dX7_settle_71 ?_
          refine sv_iconst (pc := 74) G dX7_settle_74 1 ic_1 ?_
          refine sv_iadd (pc := 75) G dX7_settle_75 ?_
          refine sv_putI (pc := 76) G fw_X7_234 (hL.sh rfl) rfl dX7_settle_76 (fun g_12 eg_12 => ?_)
          have h := h g_12 eg_12
          refine sv_goto (pc := 79) G dX7_settle_79 0 (by decide) ?_
          refine sv_locs [0, 1] [(0, .ref (b + 58)), (1, .int v1)] rfl ?_
          exact ih v1 g_12  h
set_option maxRecDepth 100000 in
set_option maxHeartbeats 4000000 in
theorem c_X7_settle {b : Nat} {xt : sv_Xt} {F : sv_Fr} {v1 : Int32} {g : sv_Mg} {Q : sv_Mg → Prop} (hL : sv_Lay F) (h : wp_X7_settle F v1 g Q) : sv_Cal yX7_settle cX7_settle 2 none 1 20 0 0 b xt [.ref (b + 58), .int v1] F g (sv_qV F Q) := by
  refine sv_intro mw_X7_settle [(0, .ref (b + 58)), (1, .int v1)] rfl (Nat.le_of_ble_eq_true rfl) (fun x G RR T NM => ?_)
  have G : sv_G x b xt RX7 cX7_settle 2 := G
  unfold wp_X7_settle at h
  refine sv_locs [0, 1] [(0, .ref (b + 58)), (1, .int v1)] rfl ?_
  obtain ⟨n_13, h⟩ := h
  exact aw_X7_settle_0 G RR T hL   n_13 v1 g  h
def wp_X7_signHere (F : sv_Fr) (g : sv_Mg) (Q : Int32 → sv_Mg → Prop) : Prop := (((g 58 11) = 3 → (((g 58 12) = 38 → Q (-2) g) ∧ (¬ (g 58 12) = 38 → (((g 58 12) = 42 → Q (-8) g) ∧ (¬ (g 58 12) = 42 → (((g 58 12) = 43 → Q (-6) g) ∧ (¬ (g 58 12) = 43 → (((g 58 12) = 45 → Q (-7) g) ∧ (¬ (g 58 12) = 45 → (((g 58 12) = 47 → Q (-9) g) ∧ (¬ (g 58 12) = 47 → (((g 58 12) = 60 → Q (-3) g) ∧ (¬ (g 58 12) = 60 → (((g 58 12) = 61 → Q (-4) g) ∧ (¬ (g 58 12) = 61 → (((g 58 12) = 62 → Q (-5) g) ∧ (¬ (g 58 12) = 62 → (((g 58 12) = 124 → Q (-1) g) ∧ (¬ (g 58 12) = 124 → Q 0 g))))))))))))))))))) ∧ (¬ (g 58 11) = 3 → Q 0 g))
set_option maxRecDepth 100000 in
set_option maxHeartbeats 4000000 in
theorem c_X7_signHere {b : Nat} {xt : sv_Xt} {F : sv_Fr} {g : sv_Mg} {Q : Int32 → sv_Mg → Prop} (hL : sv_Lay F) (h : wp_X7_signHere F g Q) : sv_Cal yX7_signHere cX7_signHere 1 (some .int) 0 0 0 0 b xt [.ref (b + 58)] F g (sv_qI F Q) := by
  refine sv_intro mw_X7_signHere [(0, .ref (b + 58))] rfl (Nat.le_of_ble_eq_true rfl) (fun x G RR T NM => ?_)
  have G : sv_G x b xt RX7 cX7_signHere 1 := G
  unfold wp_X7_signHere at h
  refine sv_aload_n (pc := 0) G dX7_signHere_0 0 rfl ?_
  refine sv_getI (pc := 1) G fw_X7_210 (hL.sh rfl) rfl dX7_signHere_1 ?_
  refine sv_iconst (pc := 4) G dX7_signHere_4 3 ic_3 ?_
  refine sv_ic_eq (pc := 5) G 10 (by decide) dX7_signHere_5 (fun c_1 => ?_) (fun c_1 => ?_)
  · have h := h.1 c_1
    refine sv_aload_n (pc := 10) G dX7_signHere_10 0 rfl ?_
    refine sv_getI (pc := 11) G fw_X7_216 (hL.sh rfl) rfl dX7_signHere_11 ?_
    by_cases c_2 : (g 58 12) = 38
    · have h := h.1 c_2
      refine sv_lsw (off := 84) (pc := 14) G dX7_signHere_14 98 (by decide) (by rw [c_2]; decide) (by decide) ?_
      refine sv_bipush (pc := 98) G dX7_signHere_98 (-2) bp_m2 ?_
      exact sv_ireturn (pc := 100) G T ⟨(Nat.le_of_ble_eq_true rfl), (Nat.le_of_ble_eq_true rfl)⟩ dX7_signHere_100 ⟨_, rfl, rfl, h⟩
    · have h := h.2 c_2
      by_cases c_3 : (g 58 12) = 42
      · have h := h.1 c_3
        refine sv_lsw (off := 102) (pc := 14) G dX7_signHere_14 116 (by decide) (by rw [c_3]; decide) (by decide) ?_
        refine sv_bipush (pc := 116) G dX7_signHere_116 (-8) bp_m8 ?_
        exact sv_ireturn (pc := 118) G T ⟨(Nat.le_of_ble_eq_true rfl), (Nat.le_of_ble_eq_true rfl)⟩ dX7_signHere_118 ⟨_, rfl, rfl, h⟩
      · have h := h.2 c_3
        by_cases c_4 : (g 58 12) = 43
        · have h := h.1 c_4
          refine sv_lsw (off := 96) (pc := 14) G dX7_signHere_14 110 (by decide) (by rw [c_4]; decide) (by decide) ?_
          refine sv_bipush (pc := 110) G dX7_signHere_110 (-6) bp_m6 ?_
          exact sv_ireturn (pc := 112) G T ⟨(Nat.le_of_ble_eq_true rfl), (Nat.le_of_ble_eq_true rfl)⟩ dX7_signHere_112 ⟨_, rfl, rfl, h⟩
        · have h := h.2 c_4
          by_cases c_5 : (g 58 12) = 45
          · have h := h.1 c_5
            refine sv_lsw (off := 99) (pc := 14) G dX7_signHere_14 113 (by decide) (by rw [c_5]; decide) (by decide) ?_
            refine sv_bipush (pc := 113) G dX7_signHere_113 (-7) bp_m7 ?_
            exact sv_ireturn (pc := 115) G T ⟨(Nat.le_of_ble_eq_true rfl), (Nat.le_of_ble_eq_true rfl)⟩ dX7_signHere_115 ⟨_, rfl, rfl, h⟩
          · have h := h.2 c_5
            by_cases c_6 : (g 58 12) = 47
            · have h := h.1 c_6
              refine sv_lsw (off := 105) (pc := 14) G dX7_signHere_14 119 (by decide) (by rw [c_6]; decide) (by decide) ?_
              refine sv_bipush (pc := 119) G dX7_signHere_119 (-9) bp_m9 ?_
              exact sv_ireturn (pc := 121) G T ⟨(Nat.le_of_ble_eq_true rfl), (Nat.le_of_ble_eq_true rfl)⟩ dX7_signHere_121 ⟨_, rfl, rfl, h⟩
            · have h := h.2 c_6
              by_cases c_7 : (g 58 12) = 60
              · have h := h.1 c_7
                refine sv_lsw (off := 87) (pc := 14) G dX7_signHere_14 101 (by decide) (by rw [c_7]; decide) (by decide) ?_
                refine sv_bipush (pc := 101) G dX7_signHere_101 (-3) bp_m3 ?_
                exact sv_ireturn (pc := 103) G T ⟨(Nat.le_of_ble_eq_true rfl), (Nat.le_of_ble_eq_true rfl)⟩ dX7_signHere_103 ⟨_, rfl, rfl, h⟩
              · have h := h.2 c_7
                by_cases c_8 : (g 58 12) = 61
                · have h := h.1 c_8
                  refine sv_lsw (off := 90) (pc := 14) G dX7_signHere_14 104 (by decide) (by rw [c_8]; decide) (by decide) ?_
                  refine sv_bipush (pc := 104) G dX7_signHere_104 (-4) bp_m4 ?_
                  exact sv_ireturn (pc := 106) G T ⟨(Nat.le_of_ble_eq_true rfl), (Nat.le_of_ble_eq_true rfl)⟩ dX7_signHere_106 ⟨_, rfl, rfl, h⟩
                · have h := h.2 c_8
                  by_cases c_9 : (g 58 12) = 62
                  · have h := h.1 c_9
                    refine sv_lsw (off := 93) (pc := 14) G dX7_signHere_14 107 (by decide) (by rw [c_9]; decide) (by decide) ?_
                    refine sv_bipush (pc := 107) G dX7_signHere_107 (-5) bp_m5 ?_
                    exact sv_ireturn (pc := 109) G T ⟨(Nat.le_of_ble_eq_true rfl), (Nat.le_of_ble_eq_true rfl)⟩ dX7_signHere_109 ⟨_, rfl, rfl, h⟩
                  · have h := h.2 c_9
                    by_cases c_10 : (g 58 12) = 124
                    · have h := h.1 c_10
                      refine sv_lsw (off := 82) (pc := 14) G dX7_signHere_14 96 (by decide) (by rw [c_10]; decide) (by decide) ?_
                      refine sv_iconst (pc := 96) G dX7_signHere_96 (-1) ic_m1 ?_
                      exact sv_ireturn (pc := 97) G T ⟨(Nat.le_of_ble_eq_true rfl), (Nat.le_of_ble_eq_true rfl)⟩ dX7_signHere_97 ⟨_, rfl, rfl, h⟩
                    · have h := h.2 c_10
                      refine sv_lsw (off := 108) (pc := 14) G dX7_signHere_14 122 (by decide) (by show Op.lookupswitch.offset [(38, 84), (42, 102), (43, 96), (45, 99), (47, 105), (60, 87), (61, 90), (62, 93), (124, 82)] _ _ = _; rw [lv_osw c_2 (by decide), lv_osw c_3 (by decide), lv_osw c_4 (by decide), lv_osw c_5 (by decide), lv_osw c_6 (by decide), lv_osw c_7 (by decide), lv_osw c_8 (by decide), lv_osw c_9 (by decide), lv_osw c_10 (by decide)]; rfl) (by decide) ?_
                      refine sv_iconst (pc := 122) G dX7_signHere_122 0 ic_0 ?_
                      exact sv_ireturn (pc := 123) G T ⟨(Nat.le_of_ble_eq_true rfl), (Nat.le_of_ble_eq_true rfl)⟩ dX7_signHere_123 ⟨_, rfl, rfl, h⟩
  · have h := h.2 c_1
    refine sv_iconst (pc := 8) G dX7_signHere_8 0 ic_0 ?_
    exact sv_ireturn (pc := 9) G T ⟨(Nat.le_of_ble_eq_true rfl), (Nat.le_of_ble_eq_true rfl)⟩ dX7_signHere_9 ⟨_, rfl, rfl, h⟩
def wp_X7_takesPart_87 (F : sv_Fr) (Q : Int32 → sv_Mg → Prop) (s0 : Int32) (s1 : Int32) (g : sv_Mg) : Prop := vp_in s1 96 ∧ ∀ g_2, g_2 = sv_st g 68 s1.toNatClampNeg s0 → ∀ g_3, g_3 = sv_st g_2 58 18 ((g_2 58 18) + 1) → ∀ g_4, g_4 = sv_st g_3 58 19 ((g_3 58 19) + 1) → wp_X7_settle F 6 g_4 (fun g_5 => wp_X7_go F  g_5 (fun g_6 => Q 1 g_6))
def wp_X7_takesPart_52 (F : sv_Fr) (Q : Int32 → sv_Mg → Prop) (g : sv_Mg) : Prop := (((g 58 11) = 2 → wp_X7_takesPart_87 F  Q  (g 58 12) (g 58 18) g) ∧ (¬ (g 58 11) = 2 → wp_X7_nameOf F (g 58 12) g (fun r_9 g_8 => wp_X7_takesPart_87 F  Q  (10000 + r_9) (g 58 18) g_8)))
def wp_X7_takesPart_37 (F : sv_Fr) (Q : Int32 → sv_Mg → Prop) (s0 : Int32) (g : sv_Mg) : Prop := (((g 58 11) = 2 → wp_X7_takesPart_52 F  Q   g) ∧ (¬ (g 58 11) = 2 → ((s0 = 0 → Q 0 g) ∧ (¬ s0 = 0 → wp_X7_takesPart_52 F  Q   g))))
def wp_X7_takesPart_36 (F : sv_Fr) (Q : Int32 → sv_Mg → Prop) (g : sv_Mg) : Prop := wp_X7_takesPart_37 F  Q  0 g
def wp_X7_takesPart (F : sv_Fr) (g : sv_Mg) (Q : Int32 → sv_Mg → Prop) : Prop := (((g 58 11) = 1 → ((((g 58 9) - (g 58 10)) = 1 → wp_X7_nameOf F (g 58 12) g (fun r_15 g_14 => ((r_15 < 0 → wp_X7_takesPart_36 F  Q   g_14) ∧ (¬ r_15 < 0 → wp_X7_takesPart_37 F  Q  1 g_14)))) ∧ (¬ ((g 58 9) - (g 58 10)) = 1 → wp_X7_takesPart_36 F  Q   g))) ∧ (¬ (g 58 11) = 1 → wp_X7_takesPart_36 F  Q   g))
set_option maxRecDepth 100000 in
set_option maxHeartbeats 4000000 in
theorem aw_X7_takesPart_87 {x : sv_X} {b : Nat} {xt : sv_Xt} {F : sv_Fr} {Q : Int32 → sv_Mg → Prop} (G : sv_G x b xt RX7 cX7_takesPart 2) (RR : sv_R x 2 42 0 0) (T : sv_RT x (some .boolean)) (hL : sv_Lay F) : ∀ (s0 : Int32) (s1 : Int32) (g : sv_Mg), wp_X7_takesPart_87 F Q  s0 s1 g → sv_AW x (sv_Q x (sv_qI F Q) 0 0) F g 0 0 87 [(0, .ref (b + 58))] [.int s0, .int s1, .ref (b + 68)] := by
  intro s0 s1 g h
  unfold wp_X7_takesPart_87 at h
  obtain ⟨s_1, h⟩ := h
  refine sv_iastK (pc := 87) G (hL.sh rfl) s_1 s1.toNatClampNeg rfl dX7_takesPart_87 (fun g_2 eg_2 => ?_)
  have h := h g_2 eg_2
  refine sv_aload_n (pc := 88) G dX7_takesPart_88 0 rfl ?_
  refine sv_dup (pc := 89) G dX7_takesPart_89 rfl ?_
  refine sv_getI (pc := 90) G fw_X7_234 (hL.sh rfl) rfl dX7_takesPart_90 ?_
  refine sv_iconst (pc := 93) G dX7_takesPart_93 1 ic_1 ?_
  refine sv_iadd (pc := 94) G dX7_takesPart_94 ?_
  refine sv_putI (pc := 95) G fw_X7_234 (hL.sh rfl) rfl dX7_takesPart_95 (fun g_3 eg_3 => ?_)
  have h := h g_3 eg_3
  refine sv_aload_n (pc := 98) G dX7_takesPart_98 0 rfl ?_
  refine sv_dup (pc := 99) G dX7_takesPart_99 rfl ?_
  refine sv_getI (pc := 100) G fw_X7_240 (hL.sh rfl) rfl dX7_takesPart_100 ?_
  refine sv_iconst (pc := 103) G dX7_takesPart_103 1 ic_1 ?_
  refine sv_iadd (pc := 104) G dX7_takesPart_104 ?_
  refine sv_putI (pc := 105) G fw_X7_240 (hL.sh rfl) rfl dX7_takesPart_105 (fun g_4 eg_4 => ?_)
  have h := h g_4 eg_4
  refine sv_aload_n (pc := 108) G dX7_takesPart_108 0 rfl ?_
  refine sv_bipush (pc := 109) G dX7_takesPart_109 6 bp_6 ?_
  refine sv_callV (cs := 0) (sl := 0) (st := []) (As := [.int 6]) (a := 58) (pc := 111) G RR (c_X7_settle hL  h) mw_X7_settle lk_X7_243 (hL.sh rfl) (by decide) rfl rfl ⟨(Nat.le_of_ble_eq_true rfl), (Nat.le_of_ble_eq_true rfl)⟩ ⟨(Nat.le_of_ble_eq_true rfl), (Nat.le_of_ble_eq_true rfl)⟩ (Nat.le_of_ble_eq_true rfl) rfl dX7_takesPart_111 (sv_kV (fun g_5 h => ?_))
  refine sv_aload_n (pc := 114) G dX7_takesPart_114 0 rfl ?_
  refine sv_callV (cs := 0) (sl := 0) (st := []) (As := []) (a := 58) (pc := 115) G RR (c_X7_go hL  h) mw_X7_go lk_X7_225 (hL.sh rfl) (by decide) rfl rfl ⟨(Nat.le_of_ble_eq_true rfl), (Nat.le_of_ble_eq_true rfl)⟩ ⟨(Nat.le_of_ble_eq_true rfl), (Nat.le_of_ble_eq_true rfl)⟩ (Nat.le_of_ble_eq_true rfl) rfl dX7_takesPart_115 (sv_kV (fun g_6 h => ?_))
  refine sv_iconst (pc := 118) G dX7_takesPart_118 1 ic_1 ?_
  exact sv_zreturn (pc := 119) G T (Or.inr rfl) ⟨(Nat.le_of_ble_eq_true rfl), (Nat.le_of_ble_eq_true rfl)⟩ dX7_takesPart_119 ⟨_, rfl, rfl, h⟩
set_option maxRecDepth 100000 in
set_option maxHeartbeats 4000000 in
theorem aw_X7_takesPart_52 {x : sv_X} {b : Nat} {xt : sv_Xt} {F : sv_Fr} {Q : Int32 → sv_Mg → Prop} (G : sv_G x b xt RX7 cX7_takesPart 2) (RR : sv_R x 2 42 0 0) (T : sv_RT x (some .boolean)) (hL : sv_Lay F) : ∀  (g : sv_Mg), wp_X7_takesPart_52 F Q   g → sv_AW x (sv_Q x (sv_qI F Q) 0 0) F g 0 0 52 [(0, .ref (b + 58))] [] := by
  intro g h
  unfold wp_X7_takesPart_52 at h
  refine sv_aload_n (pc := 52) G dX7_takesPart_52 0 rfl ?_
  refine sv_getR (pc := 53) G fw_X7_38 (hL.sh rfl) rfl (hL.rf 69 rfl) dX7_takesPart_53 ?_
  refine sv_aload_n (pc := 56) G dX7_takesPart_56 0 rfl ?_
  refine sv_getI (pc := 57) G fw_X7_234 (hL.sh rfl) rfl dX7_takesPart_57 ?_
  refine sv_aload_n (pc := 60) G dX7_takesPart_60 0 rfl ?_
  refine sv_getI (pc := 61) G fw_X7_210 (hL.sh rfl) rfl dX7_takesPart_61 ?_
  refine sv_iconst (pc := 64) G dX7_takesPart_64 2 ic_2 ?_
  refine sv_ic_ne (pc := 65) G 75 (by decide) dX7_takesPart_65 (fun c_7 => ?_) (fun c_7 => ?_)
  · have h := h.2 c_7
    refine sv_sipush (pc := 75) G dX7_takesPart_75 10000 sp_10000 ?_
    refine sv_aload_n (pc := 78) G dX7_takesPart_78 0 rfl ?_
    refine sv_aload_n (pc := 79) G dX7_takesPart_79 0 rfl ?_
    refine sv_getI (pc := 80) G fw_X7_216 (hL.sh rfl) rfl dX7_takesPart_80 ?_
    refine sv_callV (cs := 0) (sl := 0) (st := [.int 10000, .int (g 58 18), .ref (b + 68)]) (As := [.int (g 58 12)]) (a := 58) (pc := 83) G RR (c_X7_nameOf hL  h) mw_X7_nameOf lk_X7_237 (hL.sh rfl) (by decide) rfl rfl ⟨(Nat.le_of_ble_eq_true rfl), (Nat.le_of_ble_eq_true rfl)⟩ ⟨(Nat.le_of_ble_eq_true rfl), (Nat.le_of_ble_eq_true rfl)⟩ (Nat.le_of_ble_eq_true rfl) rfl dX7_takesPart_83 (sv_kI (fun r_9 g_8 h => ?_))
    refine sv_iadd (pc := 86) G dX7_takesPart_86 ?_
    refine sv_locs [0] [(0, .ref (b + 58))] rfl ?_
    exact aw_X7_takesPart_87 G RR T hL   (10000 + r_9) (g 58 18) g_8  h
  · have h := h.1 c_7
    refine sv_aload_n (pc := 68) G dX7_takesPart_68 0 rfl ?_
    refine sv_getI (pc := 69) G fw_X7_216 (hL.sh rfl) rfl dX7_takesPart_69 ?_
    refine sv_goto (pc := 72) G dX7_takesPart_72 87 (by decide) ?_
    refine sv_locs [0] [(0, .ref (b + 58))] rfl ?_
    exact aw_X7_takesPart_87 G RR T hL   (g 58 12) (g 58 18) g  h
set_option maxRecDepth 100000 in
set_option maxHeartbeats 4000000 in
theorem aw_X7_takesPart_37 {x : sv_X} {b : Nat} {xt : sv_Xt} {F : sv_Fr} {Q : Int32 → sv_Mg → Prop} (G : sv_G x b xt RX7 cX7_takesPart 2) (RR : sv_R x 2 42 0 0) (T : sv_RT x (some .boolean)) (hL : sv_Lay F) : ∀ (s0 : Int32) (g : sv_Mg), wp_X7_takesPart_37 F Q  s0 g → sv_AW x (sv_Q x (sv_qI F Q) 0 0) F g 0 0 37 [(0, .ref (b + 58))] [.int s0] := by
  intro s0 g h
  unfold wp_X7_takesPart_37 at h
  refine sv_istore_n (pc := 37) G dX7_takesPart_37 [(1, .int s0), (0, .ref (b + 58))] (by decide) rfl ?_
  refine sv_aload_n (pc := 38) G dX7_takesPart_38 1 rfl ?_
  refine sv_getI (pc := 39) G fw_X7_210 (hL.sh rfl) rfl dX7_takesPart_39 ?_
  refine sv_iconst (pc := 42) G dX7_takesPart_42 2 ic_2 ?_
  refine sv_ic_eq (pc := 43) G 52 (by decide) dX7_takesPart_43 (fun c_10 => ?_) (fun c_10 => ?_)
  · have h := h.1 c_10
    refine sv_locs [1] [(0, .ref (b + 58))] rfl ?_
    exact aw_X7_takesPart_52 G RR T hL    g  h
  · have h := h.2 c_10
    refine sv_iload_n (pc := 46) G dX7_takesPart_46 0 rfl ?_
    refine sv_if_ne (pc := 47) G 52 (by decide) dX7_takesPart_47 (fun c_11 => ?_) (fun c_11 => ?_)
    · have h := h.2 c_11
      refine sv_locs [1] [(0, .ref (b + 58))] rfl ?_
      exact aw_X7_takesPart_52 G RR T hL    g  h
    · have h := h.1 c_11
      refine sv_iconst (pc := 50) G dX7_takesPart_50 0 ic_0 ?_
      exact sv_zreturn (pc := 51) G T (Or.inl rfl) ⟨(Nat.le_of_ble_eq_true rfl), (Nat.le_of_ble_eq_true rfl)⟩ dX7_takesPart_51 ⟨_, rfl, rfl, h⟩
set_option maxRecDepth 100000 in
set_option maxHeartbeats 4000000 in
theorem aw_X7_takesPart_36 {x : sv_X} {b : Nat} {xt : sv_Xt} {F : sv_Fr} {Q : Int32 → sv_Mg → Prop} (G : sv_G x b xt RX7 cX7_takesPart 2) (RR : sv_R x 2 42 0 0) (T : sv_RT x (some .boolean)) (hL : sv_Lay F) : ∀  (g : sv_Mg), wp_X7_takesPart_36 F Q   g → sv_AW x (sv_Q x (sv_qI F Q) 0 0) F g 0 0 36 [(0, .ref (b + 58))] [] := by
  intro g h
  unfold wp_X7_takesPart_36 at h
  refine sv_iconst (pc := 36) G dX7_takesPart_36 0 ic_0 ?_
  refine sv_locs [0] [(0, .ref (b + 58))] rfl ?_
  exact aw_X7_takesPart_37 G RR T hL   0 g  h
set_option maxRecDepth 100000 in
set_option maxHeartbeats 4000000 in
theorem c_X7_takesPart {b : Nat} {xt : sv_Xt} {F : sv_Fr} {g : sv_Mg} {Q : Int32 → sv_Mg → Prop} (hL : sv_Lay F) (h : wp_X7_takesPart F g Q) : sv_Cal yX7_takesPart cX7_takesPart 2 (some .boolean) 2 42 0 0 b xt [.ref (b + 58)] F g (sv_qI F Q) := by
  refine sv_intro mw_X7_takesPart [(0, .ref (b + 58))] rfl (Nat.le_of_ble_eq_true rfl) (fun x G RR T NM => ?_)
  have G : sv_G x b xt RX7 cX7_takesPart 2 := G
  unfold wp_X7_takesPart at h
  refine sv_aload_n (pc := 0) G dX7_takesPart_0 0 rfl ?_
  refine sv_getI (pc := 1) G fw_X7_210 (hL.sh rfl) rfl dX7_takesPart_1 ?_
  refine sv_iconst (pc := 4) G dX7_takesPart_4 1 ic_1 ?_
  refine sv_ic_ne (pc := 5) G 36 (by decide) dX7_takesPart_5 (fun c_12 => ?_) (fun c_12 => ?_)
  · have h := h.2 c_12
    refine sv_locs [0] [(0, .ref (b + 58))] rfl ?_
    exact aw_X7_takesPart_36 G RR T hL    g  h
  · have h := h.1 c_12
    refine sv_aload_n (pc := 8) G dX7_takesPart_8 0 rfl ?_
    refine sv_getI (pc := 9) G fw_X7_201 (hL.sh rfl) rfl dX7_takesPart_9 ?_
    refine sv_aload_n (pc := 12) G dX7_takesPart_12 0 rfl ?_
    refine sv_getI (pc := 13) G fw_X7_204 (hL.sh rfl) rfl dX7_takesPart_13 ?_
    refine sv_isub (pc := 16) G dX7_takesPart_16 ?_
    refine sv_iconst (pc := 17) G dX7_takesPart_17 1 ic_1 ?_
    refine sv_ic_ne (pc := 18) G 36 (by decide) dX7_takesPart_18 (fun c_13 => ?_) (fun c_13 => ?_)
    · have h := h.2 c_13
      refine sv_locs [0] [(0, .ref (b + 58))] rfl ?_
      exact aw_X7_takesPart_36 G RR T hL    g  h
    · have h := h.1 c_13
      refine sv_aload_n (pc := 21) G dX7_takesPart_21 0 rfl ?_
      refine sv_aload_n (pc := 22) G dX7_takesPart_22 0 rfl ?_
      refine sv_getI (pc := 23) G fw_X7_216 (hL.sh rfl) rfl dX7_takesPart_23 ?_
      refine sv_callV (cs := 0) (sl := 0) (st := []) (As := [.int (g 58 12)]) (a := 58) (pc := 26) G RR (c_X7_nameOf hL  h) mw_X7_nameOf lk_X7_237 (hL.sh rfl) (by decide) rfl rfl ⟨(Nat.le_of_ble_eq_true rfl), (Nat.le_of_ble_eq_true rfl)⟩ ⟨(Nat.le_of_ble_eq_true rfl), (Nat.le_of_ble_eq_true rfl)⟩ (Nat.le_of_ble_eq_true rfl) rfl dX7_takesPart_26 (sv_kI (fun r_15 g_14 h => ?_))
      refine sv_if_lt (pc := 29) G 36 (by decide) dX7_takesPart_29 (fun c_16 => ?_) (fun c_16 => ?_)
      · have h := h.1 c_16
        refine sv_locs [0] [(0, .ref (b + 58))] rfl ?_
        exact aw_X7_takesPart_36 G RR T hL    g_14  h
      · have h := h.2 c_16
        refine sv_iconst (pc := 32) G dX7_takesPart_32 1 ic_1 ?_
        refine sv_goto (pc := 33) G dX7_takesPart_33 37 (by decide) ?_
        refine sv_locs [0] [(0, .ref (b + 58))] rfl ?_
        exact aw_X7_takesPart_37 G RR T hL   1 g_14  h
def wp_X7_notsOpen_29 (F : sv_Fr) (Q : Int32 → sv_Mg → Prop) (K4 : Int32 → Int32 → sv_Mg → Prop) (v2 : Int32) (s0 : Int32) (s1 : Int32) (g : sv_Mg) : Prop := ∀ v1_1 : Int32, v1_1 = (s1 + s0) → ∀ v2_2 : Int32, v2_2 = v2 + 1 → K4 v1_1 v2_2 g
def wp_X7_notsOpen_4 (F : sv_Fr) (Q : Int32 → sv_Mg → Prop) : Nat → Int32 → Int32 → sv_Mg → Prop
  | 0, _, _, _ => False
  | n + 1, v1, v2, g => (((g 58 21) ≤ v2 → Q v1 g) ∧ (¬ (g 58 21) ≤ v2 → vp_in v2 96 ∧ (((g 69 v2.toNatClampNeg) = (-10) → wp_X7_notsOpen_29 F  Q (wp_X7_notsOpen_4 F Q  n) v2 1 v1 g) ∧ (¬ (g 69 v2.toNatClampNeg) = (-10) → wp_X7_notsOpen_29 F  Q (wp_X7_notsOpen_4 F Q  n) v2 0 v1 g))))
def wp_X7_notsOpen (F : sv_Fr) (g : sv_Mg) (Q : Int32 → sv_Mg → Prop) : Prop := ∃ n_6, wp_X7_notsOpen_4 F  Q  n_6 0 0 g
set_option maxRecDepth 100000 in
set_option maxHeartbeats 4000000 in
theorem aw_X7_notsOpen_29 {x : sv_X} {b : Nat} {xt : sv_Xt} {F : sv_Fr} {Q : Int32 → sv_Mg → Prop} (G : sv_G x b xt RX7 cX7_notsOpen 3) (RR : sv_R x 0 0 0 0) (T : sv_RT x (some .int)) (hL : sv_Lay F) {K4 : Int32 → Int32 → sv_Mg → Prop} (hK4 : ∀ (v1 : Int32) (v2 : Int32) (g : sv_Mg), K4 v1 v2 g → sv_AW x (sv_Q x (sv_qI F Q) 0 0) F g 0 0 4 [(0, .ref (b + 58)), (1, .int v1), (2, .int v2)] []) : ∀ (v2 : Int32) (s0 : Int32) (s1 : Int32) (g : sv_Mg), wp_X7_notsOpen_29 F Q K4 v2 s0 s1 g → sv_AW x (sv_Q x (sv_qI F Q) 0 0) F g 0 0 29 [(0, .ref (b + 58)), (2, .int v2)] [.int s0, .int s1] := by
  intro v2 s0 s1 g h
  unfold wp_X7_notsOpen_29 at h
  refine sv_iadd (pc := 29) G dX7_notsOpen_29 ?_
  refine sv_topi (fun v1_1 ev1_1 => ?_)
  have h := h v1_1 ev1_1
  refine sv_istore_n (pc := 30) G dX7_notsOpen_30 [(1, .int v1_1), (0, .ref (b + 58)), (2, .int v2)] (by decide) rfl ?_
  obtain ⟨v2_2, ev2_2⟩ : ∃ y : Int32, y = v2 + 1 := ⟨_, rfl⟩
  have h := h v2_2 ev2_2
  refine sv_iinc (pc := 31) G dX7_notsOpen_31 2 v2_2 [(2, .int v2_2), (1, .int v1_1), (0, .ref (b + 58))] (by rw [ev2_2, ic_1]) rfl (by decide) rfl ?_
  refine sv_goto (pc := 34) G dX7_notsOpen_34 4 (by decide) ?_
  refine sv_locs [2, 1, 0] [(0, .ref (b + 58)), (1, .int v1_1), (2, .int v2_2)] rfl ?_
  exact hK4 v1_1 v2_2 g  h
set_option maxRecDepth 100000 in
set_option maxHeartbeats 4000000 in
theorem aw_X7_notsOpen_4 {x : sv_X} {b : Nat} {xt : sv_Xt} {F : sv_Fr} {Q : Int32 → sv_Mg → Prop} (G : sv_G x b xt RX7 cX7_notsOpen 3) (RR : sv_R x 0 0 0 0) (T : sv_RT x (some .int)) (hL : sv_Lay F) : ∀ (n : Nat) (v1 : Int32) (v2 : Int32) (g : sv_Mg), wp_X7_notsOpen_4 F Q  n v1 v2 g → sv_AW x (sv_Q x (sv_qI F Q) 0 0) F g 0 0 4 [(0, .ref (b + 58)), (1, .int v1), (2, .int v2)] [] := by
  intro n
  induction n with
  | zero => intro v1 v2 g h; exact h.elim
  | succ n ih =>
    intro v1 v2 g h
    rw [wp_X7_notsOpen_4] at h
    refine sv_iload_n (pc := 4) G dX7_notsOpen_4 2 rfl ?_
    refine sv_aload_n (pc := 5) G dX7_notsOpen_5 0 rfl ?_
    refine sv_getI (pc := 6) G fw_X7_228 (hL.sh rfl) rfl dX7_notsOpen_6 ?_
    refine sv_ic_ge (pc := 9) G 37 (by decide) dX7_notsOpen_9 (fun c_3 => ?_) (fun c_3 => ?_)
    · have h := h.1 c_3
      refine sv_iload_n (pc := 37) G dX7_notsOpen_37 1 rfl ?_
      exact sv_ireturn (pc := 38) G T ⟨(Nat.le_of_ble_eq_true rfl), (Nat.le_of_ble_eq_true rfl)⟩ dX7_notsOpen_38 ⟨_, rfl, rfl, h⟩
    · have h := h.2 c_3
      refine sv_iload_n (pc := 12) G dX7_notsOpen_12 1 rfl ?_
      refine sv_aload_n (pc := 13) G dX7_notsOpen_13 0 rfl ?_
      refine sv_getR (pc := 14) G fw_X7_41 (hL.sh rfl) rfl (hL.rf 70 rfl) dX7_notsOpen_14 ?_
      refine sv_iload_n (pc := 17) G dX7_notsOpen_17 2 rfl ?_
      obtain ⟨s_4, h⟩ := h
      refine sv_ialdK (pc := 18) G (hL.sh rfl) s_4 v2.toNatClampNeg rfl dX7_notsOpen_18 ?_
      refine sv_bipush (pc := 19) G dX7_notsOpen_19 (-10) bp_m10 ?_
      refine sv_ic_ne (pc := 21) G 28 (by decide) dX7_notsOpen_21 (fun c_5 => ?_) (fun c_5 => ?_)
      · have h := h.2 c_5
        refine sv_iconst (pc := 28) G dX7_notsOpen_28 0 ic_0 ?_
        refine sv_locs [0, 2] [(0, .ref (b + 58)), (2, .int v2)] rfl ?_
        exact aw_X7_notsOpen_29 G RR T hL  ih v2 0 v1 g  h
      · have h := h.1 c_5
        refine sv_iconst (pc := 24) G dX7_notsOpen_24 1 ic_1 ?_
        refine sv_goto (pc := 25) G dX7_notsOpen_25 29 (by decide) ?_
        refine sv_locs [0, 2] [(0, .ref (b + 58)), (2, .int v2)] rfl ?_
        exact aw_X7_notsOpen_29 G RR T hL  ih v2 1 v1 g  h
set_option maxRecDepth 100000 in
set_option maxHeartbeats 4000000 in
theorem c_X7_notsOpen {b : Nat} {xt : sv_Xt} {F : sv_Fr} {g : sv_Mg} {Q : Int32 → sv_Mg → Prop} (hL : sv_Lay F) (h : wp_X7_notsOpen F g Q) : sv_Cal yX7_notsOpen cX7_notsOpen 3 (some .int) 0 0 0 0 b xt [.ref (b + 58)] F g (sv_qI F Q) := by
  refine sv_intro mw_X7_notsOpen [(0, .ref (b + 58))] rfl (Nat.le_of_ble_eq_true rfl) (fun x G RR T NM => ?_)
  have G : sv_G x b xt RX7 cX7_notsOpen 3 := G
  unfold wp_X7_notsOpen at h
  refine sv_iconst (pc := 0) G dX7_notsOpen_0 0 ic_0 ?_
  refine sv_istore_n (pc := 1) G dX7_notsOpen_1 [(1, .int 0), (0, .ref (b + 58))] (by decide) rfl ?_
  refine sv_iconst (pc := 2) G dX7_notsOpen_2 0 ic_0 ?_
  refine sv_istore_n (pc := 3) G dX7_notsOpen_3 [(2, .int 0), (1, .int 0), (0, .ref (b + 58))] (by decide) rfl ?_
  refine sv_locs [2, 1, 0] [(0, .ref (b + 58)), (1, .int 0), (2, .int 0)] rfl ?_
  obtain ⟨n_6, h⟩ := h
  exact aw_X7_notsOpen_4 G RR T hL   n_6 0 0 g  h
def wp_X7_takesE_305 (F : sv_Fr) (Q : Int32 → sv_Mg → Prop) (K28 : Int32 → Int32 → Int32 → sv_Mg → Prop) (v1 : Int32) (v2 : Int32) (v4 : Int32) (s0 : Int32) (s1 : Int32) (g : sv_Mg) : Prop := vp_in s1 10 ∧ (s0 = 0 ∨ s0 = 1) ∧ ∀ g_2, g_2 = sv_st g 70 s1.toNatClampNeg s0 → wp_X7_rank F v4 g_2 (fun r_5 g_4 => wp_X7_settle F r_5 g_4 (fun g_6 => vp_in (g_6 58 21) 96 ∧ ∀ g_8, g_8 = sv_st g_6 69 (g_6 58 21).toNatClampNeg v4 → ∀ g_9, g_9 = sv_st g_8 58 21 ((g_8 58 21) + 1) → wp_X7_go F  g_9 (fun g_10 => K28 v1 v2 1 g_10)))
def wp_X7_takesE_300 (F : sv_Fr) (Q : Int32 → sv_Mg → Prop) (K28 : Int32 → Int32 → Int32 → sv_Mg → Prop) (v1 : Int32) (v2 : Int32) (v4 : Int32) (s0 : Int32) (g : sv_Mg) : Prop := wp_X7_takesE_305 F  Q K28 v1 v2 v4 1 s0 g
def wp_X7_takesE_304 (F : sv_Fr) (Q : Int32 → sv_Mg → Prop) (K28 : Int32 → Int32 → Int32 → sv_Mg → Prop) (v1 : Int32) (v2 : Int32) (v4 : Int32) (s0 : Int32) (g : sv_Mg) : Prop := wp_X7_takesE_305 F  Q K28 v1 v2 v4 0 s0 g
def wp_X7_takesE_268 (F : sv_Fr) (Q : Int32 → sv_Mg → Prop) (K28 : Int32 → Int32 → Int32 → sv_Mg → Prop) (v1 : Int32) (v2 : Int32) (v4 : Int32) (g : sv_Mg) : Prop := wp_X7_rank F v4 g (fun r_12 g_11 => ((r_12 = 3 → wp_X7_takesE_300 F  Q K28 v1 v2 v4 v1 g_11) ∧ (¬ r_12 = 3 → wp_X7_rank F v4 g_11 (fun r_15 g_14 => ((r_15 ≤ 3 → wp_X7_takesE_304 F  Q K28 v1 v2 v4 v1 g_14) ∧ (¬ r_15 ≤ 3 → vp_in v1 10 ∧ (((g_14 70 v1.toNatClampNeg) = 0 → wp_X7_takesE_304 F  Q K28 v1 v2 v4 v1 g_14) ∧ (¬ (g_14 70 v1.toNatClampNeg) = 0 → wp_X7_takesE_300 F  Q K28 v1 v2 v4 v1 g_14))))))))
def wp_X7_takesE_237 (F : sv_Fr) (Q : Int32 → sv_Mg → Prop) (K28 : Int32 → Int32 → Int32 → sv_Mg → Prop) (v1 : Int32) (v2 : Int32) (g : sv_Mg) : Prop := wp_X7_signHere F  g (fun r_20 g_19 => ((r_20 = 0 → Q 0 g_19) ∧ (¬ r_20 = 0 → wp_X7_rank F r_20 g_19 (fun r_23 g_22 => ((r_23 = 3 → vp_in v1 10 ∧ (((g_22 70 v1.toNatClampNeg) = 0 → wp_X7_takesE_268 F  Q K28 v1 v2 r_20 g_22) ∧ (¬ (g_22 70 v1.toNatClampNeg) = 0 → Q 0 g_22))) ∧ (¬ r_23 = 3 → wp_X7_takesE_268 F  Q K28 v1 v2 r_20 g_22))))))
def wp_X7_takesE_172 (F : sv_Fr) (Q : Int32 → sv_Mg → Prop) (K28 : Int32 → Int32 → Int32 → sv_Mg → Prop) (v1 : Int32) (v3 : Int32) (g : sv_Mg) : Prop := wp_X7_notsOpen F  g (fun r_28 g_27 => K28 v1 r_28 v3 g_27)
def wp_X7_takesE_158 (F : sv_Fr) (Q : Int32 → sv_Mg → Prop) (K28 : Int32 → Int32 → Int32 → sv_Mg → Prop) (v1 : Int32) (g : sv_Mg) : Prop := wp_X7_takesPart F  g (fun r_30 g_29 => ((r_30 = 0 → Q 0 g_29) ∧ (¬ r_30 = 0 → wp_X7_takesE_172 F  Q K28 v1 0 g_29)))
def wp_X7_takesE_97 (F : sv_Fr) (Q : Int32 → sv_Mg → Prop) (K28 : Int32 → Int32 → Int32 → sv_Mg → Prop) (v1 : Int32) (v3 : Int32) (g : sv_Mg) : Prop := (((g 58 11) = 3 → (((g 58 12) = 40 → ((8 ≤ v1 → wp_X7_takesE_158 F  Q K28 v1 g) ∧ (¬ 8 ≤ v1 → vp_in (g 58 21) 96 ∧ ∀ g_36, g_36 = sv_st g 69 (g 58 21).toNatClampNeg (-11) → ∀ g_37, g_37 = sv_st g_36 58 21 ((g_36 58 21) + 1) → ∀ v1_38 : Int32, v1_38 = v1 + 1 → vp_in v1_38 10 ∧ ∀ g_40, g_40 = sv_st g_37 70 v1_38.toNatClampNeg 0 → wp_X7_go F  g_40 (fun g_41 => wp_X7_takesE_172 F  Q K28 v1_38 v3 g_41)))) ∧ (¬ (g 58 12) = 40 → wp_X7_takesE_158 F  Q K28 v1 g))) ∧ (¬ (g 58 11) = 3 → wp_X7_takesE_158 F  Q K28 v1 g))
def wp_X7_takesE_39 (F : sv_Fr) (Q : Int32 → sv_Mg → Prop) (K28 : Int32 → Int32 → Int32 → sv_Mg → Prop) (v1 : Int32) (v2 : Int32) (v3 : Int32) (g : sv_Mg) : Prop := ((v3 = 0 → (((g 58 11) = 3 → (((g 58 12) = 41 → ((v1 ≤ 0 → wp_X7_takesE_237 F  Q K28 v1 v2 g) ∧ (¬ v1 ≤ 0 → wp_X7_settle F 0 g (fun g_46 => ∀ g_47, g_47 = sv_st g_46 58 21 ((g_46 58 21) - 1) → ∀ v1_48 : Int32, v1_48 = v1 + (-1) → wp_X7_settle F 6 g_47 (fun g_49 => wp_X7_notsOpen F  g_49 (fun r_51 g_50 => wp_X7_go F  g_50 (fun g_52 => K28 v1_48 r_51 v3 g_52))))))) ∧ (¬ (g 58 12) = 41 → wp_X7_takesE_237 F  Q K28 v1 v2 g))) ∧ (¬ (g 58 11) = 3 → wp_X7_takesE_237 F  Q K28 v1 v2 g))) ∧ (¬ v3 = 0 → (((g 58 11) = 3 → (((g 58 12) = 33 → ((8 ≤ v2 → wp_X7_takesE_97 F  Q K28 v1 v3 g) ∧ (¬ 8 ≤ v2 → vp_in (g 58 21) 96 ∧ ∀ g_57, g_57 = sv_st g 69 (g 58 21).toNatClampNeg (-10) → ∀ g_58, g_58 = sv_st g_57 58 21 ((g_57 58 21) + 1) → ∀ v2_59 : Int32, v2_59 = v2 + 1 → wp_X7_go F  g_58 (fun g_60 => wp_X7_takesE_172 F  Q K28 v1 v3 g_60)))) ∧ (¬ (g 58 12) = 33 → wp_X7_takesE_97 F  Q K28 v1 v3 g))) ∧ (¬ (g 58 11) = 3 → wp_X7_takesE_97 F  Q K28 v1 v3 g))))
def wp_X7_takesE_28 (F : sv_Fr) (Q : Int32 → sv_Mg → Prop) : Nat → Int32 → Int32 → Int32 → sv_Mg → Prop
  | 0, _, _, _, _ => False
  | n + 1, v1, v2, v3, g => ((v3 = 0 → (((g 58 11) = 0 → wp_X7_settle F 0 g (fun g_63 => ((v1 = 0 → Q 1 g_63) ∧ (¬ v1 = 0 → Q 0 g_63)))) ∧ (¬ (g 58 11) = 0 → wp_X7_takesE_39 F  Q (wp_X7_takesE_28 F Q  n) v1 v2 v3 g))) ∧ (¬ v3 = 0 → wp_X7_takesE_39 F  Q (wp_X7_takesE_28 F Q  n) v1 v2 v3 g))
def wp_X7_takesE (F : sv_Fr) (g : sv_Mg) (Q : Int32 → sv_Mg → Prop) : Prop := ∀ g_65, g_65 = sv_st g 58 18 0 → ∀ g_66, g_66 = sv_st g_65 58 19 0 → ∀ g_67, g_67 = sv_st g_66 58 21 0 → ∀ g_68, g_68 = sv_st g_67 70 0 0 → ∃ n_69, wp_X7_takesE_28 F  Q  n_69 0 0 1 g_68
set_option maxRecDepth 100000 in
set_option maxHeartbeats 4000000 in
theorem aw_X7_takesE_305 {x : sv_X} {b : Nat} {xt : sv_Xt} {F : sv_Fr} {Q : Int32 → sv_Mg → Prop} (G : sv_G x b xt RX7 cX7_takesE 5) (RR : sv_R x 3 63 0 0) (T : sv_RT x (some .boolean)) (hL : sv_Lay F) {K28 : Int32 → Int32 → Int32 → sv_Mg → Prop} (hK28 : ∀ (v1 : Int32) (v2 : Int32) (v3 : Int32) (g : sv_Mg), K28 v1 v2 v3 g → sv_AW x (sv_Q x (sv_qI F Q) 0 0) F g 0 0 28 [(0, .ref (b + 58)), (1, .int v1), (2, .int v2), (3, .int v3)] []) : ∀ (v1 : Int32) (v2 : Int32) (v4 : Int32) (s0 : Int32) (s1 : Int32) (g : sv_Mg), wp_X7_takesE_305 F Q K28 v1 v2 v4 s0 s1 g → sv_AW x (sv_Q x (sv_qI F Q) 0 0) F g 0 0 305 [(0, .ref (b + 58)), (1, .int v1), (2, .int v2), (4, .int v4)] [.int s0, .int s1, .ref (b + 70)] := by
  intro v1 v2 v4 s0 s1 g h
  unfold wp_X7_takesE_305 at h
  obtain ⟨s_1, h⟩ := h
  obtain ⟨s_3, h⟩ := h
  refine sv_zastK (pc := 305) G (hL.sh rfl) s_1 s_3 s1.toNatClampNeg rfl dX7_takesE_305 (fun g_2 eg_2 => ?_)
  have h := h g_2 eg_2
  refine sv_aload_n (pc := 306) G dX7_takesE_306 0 rfl ?_
  refine sv_iload (pc := 307) G dX7_takesE_307 3 rfl ?_
  refine sv_callS (cs := 0) (sl := 0) (st := [.ref (b + 58)]) (As := [.int v4]) (pc := 309) G RR (c_X7_rank hL  h) mw_X7_rank lk_X7_231 rfl ⟨(Nat.le_of_ble_eq_true rfl), (Nat.le_of_ble_eq_true rfl)⟩ ⟨(Nat.le_of_ble_eq_true rfl), (Nat.le_of_ble_eq_true rfl)⟩ (Nat.le_of_ble_eq_true rfl) rfl dX7_takesE_309 (sv_kI (fun r_5 g_4 h => ?_))
  refine sv_callV (cs := 0) (sl := 0) (st := []) (As := [.int r_5]) (a := 58) (pc := 312) G RR (c_X7_settle hL  h) mw_X7_settle lk_X7_243 (hL.sh rfl) (by decide) rfl rfl ⟨(Nat.le_of_ble_eq_true rfl), (Nat.le_of_ble_eq_true rfl)⟩ ⟨(Nat.le_of_ble_eq_true rfl), (Nat.le_of_ble_eq_true rfl)⟩ (Nat.le_of_ble_eq_true rfl) rfl dX7_takesE_312 (sv_kV (fun g_6 h => ?_))
  refine sv_aload_n (pc := 315) G dX7_takesE_315 0 rfl ?_
  refine sv_getR (pc := 316) G fw_X7_41 (hL.sh rfl) rfl (hL.rf 70 rfl) dX7_takesE_316 ?_
  refine sv_aload_n (pc := 319) G dX7_takesE_319 0 rfl ?_
  refine sv_getI (pc := 320) G fw_X7_228 (hL.sh rfl) rfl dX7_takesE_320 ?_
  refine sv_iload (pc := 323) G dX7_takesE_323 3 rfl ?_
  obtain ⟨s_7, h⟩ := h
  refine sv_iastK (pc := 325) G (hL.sh rfl) s_7 (g_6 58 21).toNatClampNeg rfl dX7_takesE_325 (fun g_8 eg_8 => ?_)
  have h := h g_8 eg_8
  refine sv_aload_n (pc := 326) G dX7_takesE_326 0 rfl ?_
  refine sv_dup (pc := 327) G dX7_takesE_327 rfl ?_
  refine sv_getI (pc := 328) G fw_X7_228 (hL.sh rfl) rfl dX7_takesE_328 ?_
  refine sv_iconst (pc := 331) G dX7_takesE_331 1 ic_1 ?_
  refine sv_iadd (pc := 332) G dX7_takesE_332 ?_
  refine sv_putI (pc := 333) G fw_X7_228 (hL.sh rfl) rfl dX7_takesE_333 (fun g_9 eg_9 => ?_)
  have h := h g_9 eg_9
  refine sv_iconst (pc := 336) G dX7_takesE_336 1 ic_1 ?_
  refine sv_istore_n (pc := 337) G dX7_takesE_337 [(3, .int 1), (0, .ref (b + 58)), (1, .int v1), (2, .int v2), (4, .int v4)] (by decide) rfl ?_
  refine sv_aload_n (pc := 338) G dX7_takesE_338 1 rfl ?_
  refine sv_callV (cs := 0) (sl := 0) (st := []) (As := []) (a := 58) (pc := 339) G RR (c_X7_go hL  h) mw_X7_go lk_X7_225 (hL.sh rfl) (by decide) rfl rfl ⟨(Nat.le_of_ble_eq_true rfl), (Nat.le_of_ble_eq_true rfl)⟩ ⟨(Nat.le_of_ble_eq_true rfl), (Nat.le_of_ble_eq_true rfl)⟩ (Nat.le_of_ble_eq_true rfl) rfl dX7_takesE_339 (sv_kV (fun g_10 h => ?_))
  refine sv_goto (pc := 342) G dX7_takesE_342 28 (by decide) ?_
  refine sv_locs [1, 2, 3, 0] [(0, .ref (b + 58)), (1, .int v1), (2, .int v2), (3, .int 1)] rfl ?_
  exact hK28 v1 v2 1 g_10  h
set_option maxRecDepth 100000 in
set_option maxHeartbeats 4000000 in
theorem aw_X7_takesE_300 {x : sv_X} {b : Nat} {xt : sv_Xt} {F : sv_Fr} {Q : Int32 → sv_Mg → Prop} (G : sv_G x b xt RX7 cX7_takesE 5) (RR : sv_R x 3 63 0 0) (T : sv_RT x (some .boolean)) (hL : sv_Lay F) {K28 : Int32 → Int32 → Int32 → sv_Mg → Prop} (hK28 : ∀ (v1 : Int32) (v2 : Int32) (v3 : Int32) (g : sv_Mg), K28 v1 v2 v3 g → sv_AW x (sv_Q x (sv_qI F Q) 0 0) F g 0 0 28 [(0, .ref (b + 58)), (1, .int v1), (2, .int v2), (3, .int v3)] []) : ∀ (v1 : Int32) (v2 : Int32) (v4 : Int32) (s0 : Int32) (g : sv_Mg), wp_X7_takesE_300 F Q K28 v1 v2 v4 s0 g → sv_AW x (sv_Q x (sv_qI F Q) 0 0) F g 0 0 300 [(0, .ref (b + 58)), (1, .int v1), (2, .int v2), (4, .int v4)] [.int s0, .ref (b + 70)] := by
  intro v1 v2 v4 s0 g h
  unfold wp_X7_takesE_300 at h
  refine sv_iconst (pc := 300) G dX7_takesE_300 1 ic_1 ?_
  refine sv_goto (pc := 301) G dX7_takesE_301 305 (by decide) ?_
  refine sv_locs [0, 1, 2, 3] [(0, .ref (b + 58)), (1, .int v1), (2, .int v2), (4, .int v4)] rfl ?_
  exact aw_X7_takesE_305 G RR T hL  hK28 v1 v2 v4 1 s0 g  h
set_option maxRecDepth 100000 in
set_option maxHeartbeats 4000000 in
theorem aw_X7_takesE_304 {x : sv_X} {b : Nat} {xt : sv_Xt} {F : sv_Fr} {Q : Int32 → sv_Mg → Prop} (G : sv_G x b xt RX7 cX7_takesE 5) (RR : sv_R x 3 63 0 0) (T : sv_RT x (some .boolean)) (hL : sv_Lay F) {K28 : Int32 → Int32 → Int32 → sv_Mg → Prop} (hK28 : ∀ (v1 : Int32) (v2 : Int32) (v3 : Int32) (g : sv_Mg), K28 v1 v2 v3 g → sv_AW x (sv_Q x (sv_qI F Q) 0 0) F g 0 0 28 [(0, .ref (b + 58)), (1, .int v1), (2, .int v2), (3, .int v3)] []) : ∀ (v1 : Int32) (v2 : Int32) (v4 : Int32) (s0 : Int32) (g : sv_Mg), wp_X7_takesE_304 F Q K28 v1 v2 v4 s0 g → sv_AW x (sv_Q x (sv_qI F Q) 0 0) F g 0 0 304 [(0, .ref (b + 58)), (1, .int v1), (2, .int v2), (4, .int v4)] [.int s0, .ref (b + 70)] := by
  intro v1 v2 v4 s0 g h
  unfold wp_X7_takesE_304 at h
  refine sv_iconst (pc := 304) G dX7_takesE_304 0 ic_0 ?_
  refine sv_locs [0, 1, 2, 3] [(0, .ref (b + 58)), (1, .int v1), (2, .int v2), (4, .int v4)] rfl ?_
  exact aw_X7_takesE_305 G RR T hL  hK28 v1 v2 v4 0 s0 g  h
set_option maxRecDepth 100000 in
set_option maxHeartbeats 4000000 in
theorem aw_X7_takesE_268 {x : sv_X} {b : Nat} {xt : sv_Xt} {F : sv_Fr} {Q : Int32 → sv_Mg → Prop} (G : sv_G x b xt RX7 cX7_takesE 5) (RR : sv_R x 3 63 0 0) (T : sv_RT x (some .boolean)) (hL : sv_Lay F) {K28 : Int32 → Int32 → Int32 → sv_Mg → Prop} (hK28 : ∀ (v1 : Int32) (v2 : Int32) (v3 : Int32) (g : sv_Mg), K28 v1 v2 v3 g → sv_AW x (sv_Q x (sv_qI F Q) 0 0) F g 0 0 28 [(0, .ref (b + 58)), (1, .int v1), (2, .int v2), (3, .int v3)] []) : ∀ (v1 : Int32) (v2 : Int32) (v4 : Int32) (g : sv_Mg), wp_X7_takesE_268 F Q K28 v1 v2 v4 g → sv_AW x (sv_Q x (sv_qI F Q) 0 0) F g 0 0 268 [(0, .ref (b + 58)), (1, .int v1), (2, .int v2), (4, .int v4)] [] := by
  intro v1 v2 v4 g h
  unfold wp_X7_takesE_268 at h
  refine sv_aload_n (pc := 268) G dX7_takesE_268 0 rfl ?_
  refine sv_getR (pc := 269) G fw_X7_44 (hL.sh rfl) rfl (hL.rf 71 rfl) dX7_takesE_269 ?_
  refine sv_iload_n (pc := 272) G dX7_takesE_272 1 rfl ?_
  refine sv_iload (pc := 273) G dX7_takesE_273 3 rfl ?_
  refine sv_callS (cs := 0) (sl := 0) (st := [.int v1, .ref (b + 70)]) (As := [.int v4]) (pc := 275) G RR (c_X7_rank hL  h) mw_X7_rank lk_X7_231 rfl ⟨(Nat.le_of_ble_eq_true rfl), (Nat.le_of_ble_eq_true rfl)⟩ ⟨(Nat.le_of_ble_eq_true rfl), (Nat.le_of_ble_eq_true rfl)⟩ (Nat.le_of_ble_eq_true rfl) rfl dX7_takesE_275 (sv_kI (fun r_12 g_11 h => ?_))
  refine sv_iconst (pc := 278) G dX7_takesE_278 3 ic_3 ?_
  refine sv_ic_eq (pc := 279) G 300 (by decide) dX7_takesE_279 (fun c_13 => ?_) (fun c_13 => ?_)
  · have h := h.1 c_13
    refine sv_locs [0, 1, 2, 3] [(0, .ref (b + 58)), (1, .int v1), (2, .int v2), (4, .int v4)] rfl ?_
    exact aw_X7_takesE_300 G RR T hL  hK28 v1 v2 v4 v1 g_11  h
  · have h := h.2 c_13
    refine sv_iload (pc := 282) G dX7_takesE_282 3 rfl ?_
    refine sv_callS (cs := 0) (sl := 0) (st := [.int v1, .ref (b + 70)]) (As := [.int v4]) (pc := 284) G RR (c_X7_rank hL  h) mw_X7_rank lk_X7_231 rfl ⟨(Nat.le_of_ble_eq_true rfl), (Nat.le_of_ble_eq_true rfl)⟩ ⟨(Nat.le_of_ble_eq_true rfl), (Nat.le_of_ble_eq_true rfl)⟩ (Nat.le_of_ble_eq_true rfl) rfl dX7_takesE_284 (sv_kI (fun r_15 g_14 h => ?_))
    refine sv_iconst (pc := 287) G dX7_takesE_287 3 ic_3 ?_
    refine sv_ic_le (pc := 288) G 304 (by decide) dX7_takesE_288 (fun c_16 => ?_) (fun c_16 => ?_)
    · have h := h.1 c_16
      refine sv_locs [0, 1, 2, 3] [(0, .ref (b + 58)), (1, .int v1), (2, .int v2), (4, .int v4)] rfl ?_
      exact aw_X7_takesE_304 G RR T hL  hK28 v1 v2 v4 v1 g_14  h
    · have h := h.2 c_16
      refine sv_aload_n (pc := 291) G dX7_takesE_291 0 rfl ?_
      refine sv_getR (pc := 292) G fw_X7_44 (hL.sh rfl) rfl (hL.rf 71 rfl) dX7_takesE_292 ?_
      refine sv_iload_n (pc := 295) G dX7_takesE_295 1 rfl ?_
      obtain ⟨s_17, h⟩ := h
      refine sv_zaldK (pc := 296) G (hL.sh rfl) s_17 v1.toNatClampNeg rfl dX7_takesE_296 ?_
      refine sv_if_eq (pc := 297) G 304 (by decide) dX7_takesE_297 (fun c_18 => ?_) (fun c_18 => ?_)
      · have h := h.1 c_18
        refine sv_locs [0, 1, 2, 3] [(0, .ref (b + 58)), (1, .int v1), (2, .int v2), (4, .int v4)] rfl ?_
        exact aw_X7_takesE_304 G RR T hL  hK28 v1 v2 v4 v1 g_14  h
      · have h := h.2 c_18
        refine sv_locs [0, 1, 2, 3] [(0, .ref (b + 58)), (1, .int v1), (2, .int v2), (4, .int v4)] rfl ?_
        exact aw_X7_takesE_300 G RR T hL  hK28 v1 v2 v4 v1 g_14  h
set_option maxRecDepth 100000 in
set_option maxHeartbeats 4000000 in
theorem aw_X7_takesE_237 {x : sv_X} {b : Nat} {xt : sv_Xt} {F : sv_Fr} {Q : Int32 → sv_Mg → Prop} (G : sv_G x b xt RX7 cX7_takesE 5) (RR : sv_R x 3 63 0 0) (T : sv_RT x (some .boolean)) (hL : sv_Lay F) {K28 : Int32 → Int32 → Int32 → sv_Mg → Prop} (hK28 : ∀ (v1 : Int32) (v2 : Int32) (v3 : Int32) (g : sv_Mg), K28 v1 v2 v3 g → sv_AW x (sv_Q x (sv_qI F Q) 0 0) F g 0 0 28 [(0, .ref (b + 58)), (1, .int v1), (2, .int v2), (3, .int v3)] []) : ∀ (v1 : Int32) (v2 : Int32) (g : sv_Mg), wp_X7_takesE_237 F Q K28 v1 v2 g → sv_AW x (sv_Q x (sv_qI F Q) 0 0) F g 0 0 237 [(0, .ref (b + 58)), (1, .int v1), (2, .int v2)] [] := by
  intro v1 v2 g h
  unfold wp_X7_takesE_237 at h
  refine sv_aload_n (pc := 237) G dX7_takesE_237 0 rfl ?_
  refine sv_callV (cs := 0) (sl := 0) (st := []) (As := []) (a := 58) (pc := 238) G RR (c_X7_signHere hL  h) mw_X7_signHere lk_X7_253 (hL.sh rfl) (by decide) rfl rfl ⟨(Nat.le_of_ble_eq_true rfl), (Nat.le_of_ble_eq_true rfl)⟩ ⟨(Nat.le_of_ble_eq_true rfl), (Nat.le_of_ble_eq_true rfl)⟩ (Nat.le_of_ble_eq_true rfl) rfl dX7_takesE_238 (sv_kI (fun r_20 g_19 h => ?_))
  refine sv_istore (pc := 241) G dX7_takesE_241 [(4, .int r_20), (0, .ref (b + 58)), (1, .int v1), (2, .int v2)] (by decide) rfl ?_
  refine sv_iload (pc := 243) G dX7_takesE_243 0 rfl ?_
  refine sv_if_eq (pc := 245) G 266 (by decide) dX7_takesE_245 (fun c_21 => ?_) (fun c_21 => ?_)
  · have h := h.1 c_21
    refine sv_iconst (pc := 266) G dX7_takesE_266 0 ic_0 ?_
    exact sv_zreturn (pc := 267) G T (Or.inl rfl) ⟨(Nat.le_of_ble_eq_true rfl), (Nat.le_of_ble_eq_true rfl)⟩ dX7_takesE_267 ⟨_, rfl, rfl, h⟩
  · have h := h.2 c_21
    refine sv_iload (pc := 248) G dX7_takesE_248 0 rfl ?_
    refine sv_callS (cs := 0) (sl := 0) (st := []) (As := [.int r_20]) (pc := 250) G RR (c_X7_rank hL  h) mw_X7_rank lk_X7_231 rfl ⟨(Nat.le_of_ble_eq_true rfl), (Nat.le_of_ble_eq_true rfl)⟩ ⟨(Nat.le_of_ble_eq_true rfl), (Nat.le_of_ble_eq_true rfl)⟩ (Nat.le_of_ble_eq_true rfl) rfl dX7_takesE_250 (sv_kI (fun r_23 g_22 h => ?_))
    refine sv_iconst (pc := 253) G dX7_takesE_253 3 ic_3 ?_
    refine sv_ic_ne (pc := 254) G 268 (by decide) dX7_takesE_254 (fun c_24 => ?_) (fun c_24 => ?_)
    · have h := h.2 c_24
      refine sv_locs [1, 2, 3, 0] [(0, .ref (b + 58)), (1, .int v1), (2, .int v2), (4, .int r_20)] rfl ?_
      exact aw_X7_takesE_268 G RR T hL  hK28 v1 v2 r_20 g_22  h
    · have h := h.1 c_24
      refine sv_aload_n (pc := 257) G dX7_takesE_257 1 rfl ?_
      refine sv_getR (pc := 258) G fw_X7_44 (hL.sh rfl) rfl (hL.rf 71 rfl) dX7_takesE_258 ?_
      refine sv_iload_n (pc := 261) G dX7_takesE_261 2 rfl ?_
      obtain ⟨s_25, h⟩ := h
      refine sv_zaldK (pc := 262) G (hL.sh rfl) s_25 v1.toNatClampNeg rfl dX7_takesE_262 ?_
      refine sv_if_eq (pc := 263) G 268 (by decide) dX7_takesE_263 (fun c_26 => ?_) (fun c_26 => ?_)
      · have h := h.1 c_26
        refine sv_locs [1, 2, 3, 0] [(0, .ref (b + 58)), (1, .int v1), (2, .int v2), (4, .int r_20)] rfl ?_
        exact aw_X7_takesE_268 G RR T hL  hK28 v1 v2 r_20 g_22  h
      · have h := h.2 c_26
        refine sv_iconst (pc := 266) G dX7_takesE_266 0 ic_0 ?_
        exact sv_zreturn (pc := 267) G T (Or.inl rfl) ⟨(Nat.le_of_ble_eq_true rfl), (Nat.le_of_ble_eq_true rfl)⟩ dX7_takesE_267 ⟨_, rfl, rfl, h⟩
set_option maxRecDepth 100000 in
set_option maxHeartbeats 4000000 in
theorem aw_X7_takesE_172 {x : sv_X} {b : Nat} {xt : sv_Xt} {F : sv_Fr} {Q : Int32 → sv_Mg → Prop} (G : sv_G x b xt RX7 cX7_takesE 5) (RR : sv_R x 3 63 0 0) (T : sv_RT x (some .boolean)) (hL : sv_Lay F) {K28 : Int32 → Int32 → Int32 → sv_Mg → Prop} (hK28 : ∀ (v1 : Int32) (v2 : Int32) (v3 : Int32) (g : sv_Mg), K28 v1 v2 v3 g → sv_AW x (sv_Q x (sv_qI F Q) 0 0) F g 0 0 28 [(0, .ref (b + 58)), (1, .int v1), (2, .int v2), (3, .int v3)] []) : ∀ (v1 : Int32) (v3 : Int32) (g : sv_Mg), wp_X7_takesE_172 F Q K28 v1 v3 g → sv_AW x (sv_Q x (sv_qI F Q) 0 0) F g 0 0 172 [(0, .ref (b + 58)), (1, .int v1), (3, .int v3)] [] := by
  intro v1 v3 g h
  unfold wp_X7_takesE_172 at h
  refine sv_aload_n (pc := 172) G dX7_takesE_172 0 rfl ?_
  refine sv_callV (cs := 0) (sl := 0) (st := []) (As := []) (a := 58) (pc := 173) G RR (c_X7_notsOpen hL  h) mw_X7_notsOpen lk_X7_250 (hL.sh rfl) (by decide) rfl rfl ⟨(Nat.le_of_ble_eq_true rfl), (Nat.le_of_ble_eq_true rfl)⟩ ⟨(Nat.le_of_ble_eq_true rfl), (Nat.le_of_ble_eq_true rfl)⟩ (Nat.le_of_ble_eq_true rfl) rfl dX7_takesE_173 (sv_kI (fun r_28 g_27 h => ?_))
  refine sv_istore_n (pc := 176) G dX7_takesE_176 [(2, .int r_28), (0, .ref (b + 58)), (1, .int v1), (3, .int v3)] (by decide) rfl ?_
  refine sv_goto (pc := 177) G dX7_takesE_177 28 (by decide) ?_
  refine sv_locs [1, 2, 0, 3] [(0, .ref (b + 58)), (1, .int v1), (2, .int r_28), (3, .int v3)] rfl ?_
  exact hK28 v1 r_28 v3 g_27  h
set_option maxRecDepth 100000 in
set_option maxHeartbeats 4000000 in
theorem aw_X7_takesE_158 {x : sv_X} {b : Nat} {xt : sv_Xt} {F : sv_Fr} {Q : Int32 → sv_Mg → Prop} (G : sv_G x b xt RX7 cX7_takesE 5) (RR : sv_R x 3 63 0 0) (T : sv_RT x (some .boolean)) (hL : sv_Lay F) {K28 : Int32 → Int32 → Int32 → sv_Mg → Prop} (hK28 : ∀ (v1 : Int32) (v2 : Int32) (v3 : Int32) (g : sv_Mg), K28 v1 v2 v3 g → sv_AW x (sv_Q x (sv_qI F Q) 0 0) F g 0 0 28 [(0, .ref (b + 58)), (1, .int v1), (2, .int v2), (3, .int v3)] []) : ∀ (v1 : Int32) (g : sv_Mg), wp_X7_takesE_158 F Q K28 v1 g → sv_AW x (sv_Q x (sv_qI F Q) 0 0) F g 0 0 158 [(0, .ref (b + 58)), (1, .int v1)] [] := by
  intro v1 g h
  unfold wp_X7_takesE_158 at h
  refine sv_aload_n (pc := 158) G dX7_takesE_158 0 rfl ?_
  refine sv_callV (cs := 0) (sl := 0) (st := []) (As := []) (a := 58) (pc := 159) G RR (c_X7_takesPart hL  h) mw_X7_takesPart lk_X7_246 (hL.sh rfl) (by decide) rfl rfl ⟨(Nat.le_of_ble_eq_true rfl), (Nat.le_of_ble_eq_true rfl)⟩ ⟨(Nat.le_of_ble_eq_true rfl), (Nat.le_of_ble_eq_true rfl)⟩ (Nat.le_of_ble_eq_true rfl) rfl dX7_takesE_159 (sv_kI (fun r_30 g_29 h => ?_))
  refine sv_if_eq (pc := 162) G 170 (by decide) dX7_takesE_162 (fun c_31 => ?_) (fun c_31 => ?_)
  · have h := h.1 c_31
    refine sv_iconst (pc := 170) G dX7_takesE_170 0 ic_0 ?_
    exact sv_zreturn (pc := 171) G T (Or.inl rfl) ⟨(Nat.le_of_ble_eq_true rfl), (Nat.le_of_ble_eq_true rfl)⟩ dX7_takesE_171 ⟨_, rfl, rfl, h⟩
  · have h := h.2 c_31
    refine sv_iconst (pc := 165) G dX7_takesE_165 0 ic_0 ?_
    refine sv_istore_n (pc := 166) G dX7_takesE_166 [(3, .int 0), (0, .ref (b + 58)), (1, .int v1)] (by decide) rfl ?_
    refine sv_goto (pc := 167) G dX7_takesE_167 172 (by decide) ?_
    refine sv_locs [1, 2, 0] [(0, .ref (b + 58)), (1, .int v1), (3, .int 0)] rfl ?_
    exact aw_X7_takesE_172 G RR T hL  hK28 v1 0 g_29  h
set_option maxRecDepth 100000 in
set_option maxHeartbeats 4000000 in
theorem aw_X7_takesE_97 {x : sv_X} {b : Nat} {xt : sv_Xt} {F : sv_Fr} {Q : Int32 → sv_Mg → Prop} (G : sv_G x b xt RX7 cX7_takesE 5) (RR : sv_R x 3 63 0 0) (T : sv_RT x (some .boolean)) (hL : sv_Lay F) {K28 : Int32 → Int32 → Int32 → sv_Mg → Prop} (hK28 : ∀ (v1 : Int32) (v2 : Int32) (v3 : Int32) (g : sv_Mg), K28 v1 v2 v3 g → sv_AW x (sv_Q x (sv_qI F Q) 0 0) F g 0 0 28 [(0, .ref (b + 58)), (1, .int v1), (2, .int v2), (3, .int v3)] []) : ∀ (v1 : Int32) (v3 : Int32) (g : sv_Mg), wp_X7_takesE_97 F Q K28 v1 v3 g → sv_AW x (sv_Q x (sv_qI F Q) 0 0) F g 0 0 97 [(0, .ref (b + 58)), (1, .int v1), (3, .int v3)] [] := by
  intro v1 v3 g h
  unfold wp_X7_takesE_97 at h
  refine sv_aload_n (pc := 97) G dX7_takesE_97 0 rfl ?_
  refine sv_getI (pc := 98) G fw_X7_210 (hL.sh rfl) rfl dX7_takesE_98 ?_
  refine sv_iconst (pc := 101) G dX7_takesE_101 3 ic_3 ?_
  refine sv_ic_ne (pc := 102) G 158 (by decide) dX7_takesE_102 (fun c_32 => ?_) (fun c_32 => ?_)
  · have h := h.2 c_32
    refine sv_locs [0, 1] [(0, .ref (b + 58)), (1, .int v1)] rfl ?_
    exact aw_X7_takesE_158 G RR T hL  hK28 v1 g  h
  · have h := h.1 c_32
    refine sv_aload_n (pc := 105) G dX7_takesE_105 0 rfl ?_
    refine sv_getI (pc := 106) G fw_X7_216 (hL.sh rfl) rfl dX7_takesE_106 ?_
    refine sv_bipush (pc := 109) G dX7_takesE_109 40 bp_40 ?_
    refine sv_ic_ne (pc := 111) G 158 (by decide) dX7_takesE_111 (fun c_33 => ?_) (fun c_33 => ?_)
    · have h := h.2 c_33
      refine sv_locs [0, 1] [(0, .ref (b + 58)), (1, .int v1)] rfl ?_
      exact aw_X7_takesE_158 G RR T hL  hK28 v1 g  h
    · have h := h.1 c_33
      refine sv_iload_n (pc := 114) G dX7_takesE_114 1 rfl ?_
      refine sv_bipush (pc := 115) G dX7_takesE_115 8 bp_8 ?_
      refine sv_ic_ge (pc := 117) G 158 (by decide) dX7_takesE_117 (fun c_34 => ?_) (fun c_34 => ?_)
      · have h := h.1 c_34
        refine sv_locs [0, 1] [(0, .ref (b + 58)), (1, .int v1)] rfl ?_
        exact aw_X7_takesE_158 G RR T hL  hK28 v1 g  h
      · have h := h.2 c_34
        refine sv_aload_n (pc := 120) G dX7_takesE_120 0 rfl ?_
        refine sv_getR (pc := 121) G fw_X7_41 (hL.sh rfl) rfl (hL.rf 70 rfl) dX7_takesE_121 ?_
        refine sv_aload_n (pc := 124) G dX7_takesE_124 0 rfl ?_
        refine sv_getI (pc := 125) G fw_X7_228 (hL.sh rfl) rfl dX7_takesE_125 ?_
        refine sv_bipush (pc := 128) G dX7_takesE_128 (-11) bp_m11 ?_
        obtain ⟨s_35, h⟩ := h
        refine sv_iastK (pc := 130) G (hL.sh rfl) s_35 (g 58 21).toNatClampNeg rfl dX7_takesE_130 (fun g_36 eg_36 => ?_)
        have h := h g_36 eg_36
        refine sv_aload_n (pc := 131) G dX7_takesE_131 0 rfl ?_
        refine sv_dup (pc := 132) G dX7_takesE_132 rfl ?_
        refine sv_getI (pc := 133) G fw_X7_228 (hL.sh rfl) rfl dX7_takesE_133 ?_
        refine sv_iconst (pc := 136) G dX7_takesE_136 1 ic_1 ?_
        refine sv_iadd (pc := 137) G dX7_takesE_137 ?_
        refine sv_putI (pc := 138) G fw_X7_228 (hL.sh rfl) rfl dX7_takesE_138 (fun g_37 eg_37 => ?_)
        have h := h g_37 eg_37
        obtain ⟨v1_38, ev1_38⟩ : ∃ y : Int32, y = v1 + 1 := ⟨_, rfl⟩
        have h := h v1_38 ev1_38
        refine sv_iinc (pc := 141) G dX7_takesE_141 1 v1_38 [(1, .int v1_38), (0, .ref (b + 58)), (3, .int v3)] (by rw [ev1_38, ic_1]) rfl (by decide) rfl ?_
        refine sv_aload_n (pc := 144) G dX7_takesE_144 1 rfl ?_
        refine sv_getR (pc := 145) G fw_X7_44 (hL.sh rfl) rfl (hL.rf 71 rfl) dX7_takesE_145 ?_
        refine sv_iload_n (pc := 148) G dX7_takesE_148 0 rfl ?_
        refine sv_iconst (pc := 149) G dX7_takesE_149 0 ic_0 ?_
        obtain ⟨s_39, h⟩ := h
        refine sv_zastK (pc := 150) G (hL.sh rfl) s_39 (Or.inl rfl) v1_38.toNatClampNeg rfl dX7_takesE_150 (fun g_40 eg_40 => ?_)
        have h := h g_40 eg_40
        refine sv_aload_n (pc := 151) G dX7_takesE_151 1 rfl ?_
        refine sv_callV (cs := 0) (sl := 0) (st := []) (As := []) (a := 58) (pc := 152) G RR (c_X7_go hL  h) mw_X7_go lk_X7_225 (hL.sh rfl) (by decide) rfl rfl ⟨(Nat.le_of_ble_eq_true rfl), (Nat.le_of_ble_eq_true rfl)⟩ ⟨(Nat.le_of_ble_eq_true rfl), (Nat.le_of_ble_eq_true rfl)⟩ (Nat.le_of_ble_eq_true rfl) rfl dX7_takesE_152 (sv_kV (fun g_41 h => ?_))
        refine sv_goto (pc := 155) G dX7_takesE_155 172 (by decide) ?_
        refine sv_locs [1, 0, 2] [(0, .ref (b + 58)), (1, .int v1_38), (3, .int v3)] rfl ?_
        exact aw_X7_takesE_172 G RR T hL  hK28 v1_38 v3 g_41  h
set_option maxRecDepth 100000 in
set_option maxHeartbeats 4000000 in
theorem aw_X7_takesE_39 {x : sv_X} {b : Nat} {xt : sv_Xt} {F : sv_Fr} {Q : Int32 → sv_Mg → Prop} (G : sv_G x b xt RX7 cX7_takesE 5) (RR : sv_R x 3 63 0 0) (T : sv_RT x (some .boolean)) (hL : sv_Lay F) {K28 : Int32 → Int32 → Int32 → sv_Mg → Prop} (hK28 : ∀ (v1 : Int32) (v2 : Int32) (v3 : Int32) (g : sv_Mg), K28 v1 v2 v3 g → sv_AW x (sv_Q x (sv_qI F Q) 0 0) F g 0 0 28 [(0, .ref (b + 58)), (1, .int v1), (2, .int v2), (3, .int v3)] []) : ∀ (v1 : Int32) (v2 : Int32) (v3 : Int32) (g : sv_Mg), wp_X7_takesE_39 F Q K28 v1 v2 v3 g → sv_AW x (sv_Q x (sv_qI F Q) 0 0) F g 0 0 39 [(0, .ref (b + 58)), (1, .int v1), (2, .int v2), (3, .int v3)] [] := by
  intro v1 v2 v3 g h
  unfold wp_X7_takesE_39 at h
  refine sv_iload_n (pc := 39) G dX7_takesE_39 3 rfl ?_
  refine sv_if_eq (pc := 40) G 180 (by decide) dX7_takesE_40 (fun c_42 => ?_) (fun c_42 => ?_)
  · have h := h.1 c_42
    refine sv_aload_n (pc := 180) G dX7_takesE_180 0 rfl ?_
    refine sv_getI (pc := 181) G fw_X7_210 (hL.sh rfl) rfl dX7_takesE_181 ?_
    refine sv_iconst (pc := 184) G dX7_takesE_184 3 ic_3 ?_
    refine sv_ic_ne (pc := 185) G 237 (by decide) dX7_takesE_185 (fun c_43 => ?_) (fun c_43 => ?_)
    · have h := h.2 c_43
      refine sv_locs [0, 1, 2] [(0, .ref (b + 58)), (1, .int v1), (2, .int v2)] rfl ?_
      exact aw_X7_takesE_237 G RR T hL  hK28 v1 v2 g  h
    · have h := h.1 c_43
      refine sv_aload_n (pc := 188) G dX7_takesE_188 0 rfl ?_
      refine sv_getI (pc := 189) G fw_X7_216 (hL.sh rfl) rfl dX7_takesE_189 ?_
      refine sv_bipush (pc := 192) G dX7_takesE_192 41 bp_41 ?_
      refine sv_ic_ne (pc := 194) G 237 (by decide) dX7_takesE_194 (fun c_44 => ?_) (fun c_44 => ?_)
      · have h := h.2 c_44
        refine sv_locs [0, 1, 2] [(0, .ref (b + 58)), (1, .int v1), (2, .int v2)] rfl ?_
        exact aw_X7_takesE_237 G RR T hL  hK28 v1 v2 g  h
      · have h := h.1 c_44
        refine sv_iload_n (pc := 197) G dX7_takesE_197 1 rfl ?_
        refine sv_if_le (pc := 198) G 237 (by decide) dX7_takesE_198 (fun c_45 => ?_) (fun c_45 => ?_)
        · have h := h.1 c_45
          refine sv_locs [0, 1, 2] [(0, .ref (b + 58)), (1, .int v1), (2, .int v2)] rfl ?_
          exact aw_X7_takesE_237 G RR T hL  hK28 v1 v2 g  h
        · have h := h.2 c_45
          refine sv_aload_n (pc := 201) G dX7_takesE_201 0 rfl ?_
          refine sv_iconst (pc := 202) G dX7_takesE_202 0 ic_0 ?_
          refine sv_callV (cs := 0) (sl := 0) (st := []) (As := [.int 0]) (a := 58) (pc := 203) G RR (c_X7_settle hL  h) mw_X7_settle lk_X7_243 (hL.sh rfl) (by decide) rfl rfl ⟨(Nat.le_of_ble_eq_true rfl), (Nat.le_of_ble_eq_true rfl)⟩ ⟨(Nat.le_of_ble_eq_true rfl), (Nat.le_of_ble_eq_true rfl)⟩ (Nat.le_of_ble_eq_true rfl) rfl dX7_takesE_203 (sv_kV (fun g_46 h => ?_))
          refine sv_aload_n (pc := 206) G dX7_takesE_206 0 rfl ?_
          refine sv_dup (pc := 207) G dX7_takesE_207 rfl ?_
          refine sv_getI (pc := 208) G fw_X7_228 (hL.sh rfl) rfl dX7_takesE_208 ?_
          refine sv_iconst (pc := 211) G dX7_takesE_211 1 ic_1 ?_
          refine sv_isub (pc := 212) G dX7_takesE_212 ?_
          refine sv_putI (pc := 213) G fw_X7_228 (hL.sh rfl) rfl dX7_takesE_213 (fun g_47 eg_47 => ?_)
          have h := h g_47 eg_47
          obtain ⟨v1_48, ev1_48⟩ : ∃ y : Int32, y = v1 + (-1) := ⟨_, rfl⟩
          have h := h v1_48 ev1_48
          refine sv_iinc (pc := 216) G dX7_takesE_216 1 v1_48 [(1, .int v1_48), (0, .ref (b + 58)), (2, .int v2), (3, .int v3)] (by rw [ev1_48, ic_m1]) rfl (by decide) rfl ?_
          refine sv_aload_n (pc := 219) G dX7_takesE_219 1 rfl ?_
          refine sv_bipush (pc := 220) G dX7_takesE_220 6 bp_6 ?_
          refine sv_callV (cs := 0) (sl := 0) (st := []) (As := [.int 6]) (a := 58) (pc := 222) G RR (c_X7_settle hL  h) mw_X7_settle lk_X7_243 (hL.sh rfl) (by decide) rfl rfl ⟨(Nat.le_of_ble_eq_true rfl), (Nat.le_of_ble_eq_true rfl)⟩ ⟨(Nat.le_of_ble_eq_true rfl), (Nat.le_of_ble_eq_true rfl)⟩ (Nat.le_of_ble_eq_true rfl) rfl dX7_takesE_222 (sv_kV (fun g_49 h => ?_))
          refine sv_aload_n (pc := 225) G dX7_takesE_225 1 rfl ?_
          refine sv_callV (cs := 0) (sl := 0) (st := []) (As := []) (a := 58) (pc := 226) G RR (c_X7_notsOpen hL  h) mw_X7_notsOpen lk_X7_250 (hL.sh rfl) (by decide) rfl rfl ⟨(Nat.le_of_ble_eq_true rfl), (Nat.le_of_ble_eq_true rfl)⟩ ⟨(Nat.le_of_ble_eq_true rfl), (Nat.le_of_ble_eq_true rfl)⟩ (Nat.le_of_ble_eq_true rfl) rfl dX7_takesE_226 (sv_kI (fun r_51 g_50 h => ?_))
          refine sv_istore_n (pc := 229) G dX7_takesE_229 [(2, .int r_51), (1, .int v1_48), (0, .ref (b + 58)), (3, .int v3)] (by decide) rfl ?_
          refine sv_aload_n (pc := 230) G dX7_takesE_230 2 rfl ?_
          refine sv_callV (cs := 0) (sl := 0) (st := []) (As := []) (a := 58) (pc := 231) G RR (c_X7_go hL  h) mw_X7_go lk_X7_225 (hL.sh rfl) (by decide) rfl rfl ⟨(Nat.le_of_ble_eq_true rfl), (Nat.le_of_ble_eq_true rfl)⟩ ⟨(Nat.le_of_ble_eq_true rfl), (Nat.le_of_ble_eq_true rfl)⟩ (Nat.le_of_ble_eq_true rfl) rfl dX7_takesE_231 (sv_kV (fun g_52 h => ?_))
          refine sv_goto (pc := 234) G dX7_takesE_234 28 (by decide) ?_
          refine sv_locs [2, 1, 0, 3] [(0, .ref (b + 58)), (1, .int v1_48), (2, .int r_51), (3, .int v3)] rfl ?_
          exact hK28 v1_48 r_51 v3 g_52  h
  · have h := h.2 c_42
    refine sv_aload_n (pc := 43) G dX7_takesE_43 0 rfl ?_
    refine sv_getI (pc := 44) G fw_X7_210 (hL.sh rfl) rfl dX7_takesE_44 ?_
    refine sv_iconst (pc := 47) G dX7_takesE_47 3 ic_3 ?_
    refine sv_ic_ne (pc := 48) G 97 (by decide) dX7_takesE_48 (fun c_53 => ?_) (fun c_53 => ?_)
    · have h := h.2 c_53
      refine sv_locs [0, 1, 3] [(0, .ref (b + 58)), (1, .int v1), (3, .int v3)] rfl ?_
      exact aw_X7_takesE_97 G RR T hL  hK28 v1 v3 g  h
    · have h := h.1 c_53
      refine sv_aload_n (pc := 51) G dX7_takesE_51 0 rfl ?_
      refine sv_getI (pc := 52) G fw_X7_216 (hL.sh rfl) rfl dX7_takesE_52 ?_
      refine sv_bipush (pc := 55) G dX7_takesE_55 33 bp_33 ?_
      refine sv_ic_ne (pc := 57) G 97 (by decide) dX7_takesE_57 (fun c_54 => ?_) (fun c_54 => ?_)
      · have h := h.2 c_54
        refine sv_locs [0, 1, 3] [(0, .ref (b + 58)), (1, .int v1), (3, .int v3)] rfl ?_
        exact aw_X7_takesE_97 G RR T hL  hK28 v1 v3 g  h
      · have h := h.1 c_54
        refine sv_iload_n (pc := 60) G dX7_takesE_60 2 rfl ?_
        refine sv_bipush (pc := 61) G dX7_takesE_61 8 bp_8 ?_
        refine sv_ic_ge (pc := 63) G 97 (by decide) dX7_takesE_63 (fun c_55 => ?_) (fun c_55 => ?_)
        · have h := h.1 c_55
          refine sv_locs [0, 1, 3] [(0, .ref (b + 58)), (1, .int v1), (3, .int v3)] rfl ?_
          exact aw_X7_takesE_97 G RR T hL  hK28 v1 v3 g  h
        · have h := h.2 c_55
          refine sv_aload_n (pc := 66) G dX7_takesE_66 0 rfl ?_
          refine sv_getR (pc := 67) G fw_X7_41 (hL.sh rfl) rfl (hL.rf 70 rfl) dX7_takesE_67 ?_
          refine sv_aload_n (pc := 70) G dX7_takesE_70 0 rfl ?_
          refine sv_getI (pc := 71) G fw_X7_228 (hL.sh rfl) rfl dX7_takesE_71 ?_
          refine sv_bipush (pc := 74) G dX7_takesE_74 (-10) bp_m10 ?_
          obtain ⟨s_56, h⟩ := h
          refine sv_iastK (pc := 76) G (hL.sh rfl) s_56 (g 58 21).toNatClampNeg rfl dX7_takesE_76 (fun g_57 eg_57 => ?_)
          have h := h g_57 eg_57
          refine sv_aload_n (pc := 77) G dX7_takesE_77 0 rfl ?_
          refine sv_dup (pc := 78) G dX7_takesE_78 rfl ?_
          refine sv_getI (pc := 79) G fw_X7_228 (hL.sh rfl) rfl dX7_takesE_79 ?_
          refine sv_iconst (pc := 82) G dX7_takesE_82 1 ic_1 ?_
          refine sv_iadd (pc := 83) G dX7_takesE_83 ?_
          refine sv_putI (pc := 84) G fw_X7_228 (hL.sh rfl) rfl dX7_takesE_84 (fun g_58 eg_58 => ?_)
          have h := h g_58 eg_58
          obtain ⟨v2_59, ev2_59⟩ : ∃ y : Int32, y = v2 + 1 := ⟨_, rfl⟩
          have h := h v2_59 ev2_59
          refine sv_iinc (pc := 87) G dX7_takesE_87 2 v2_59 [(2, .int v2_59), (0, .ref (b + 58)), (1, .int v1), (3, .int v3)] (by rw [ev2_59, ic_1]) rfl (by decide) rfl ?_
          refine sv_aload_n (pc := 90) G dX7_takesE_90 1 rfl ?_
          refine sv_callV (cs := 0) (sl := 0) (st := []) (As := []) (a := 58) (pc := 91) G RR (c_X7_go hL  h) mw_X7_go lk_X7_225 (hL.sh rfl) (by decide) rfl rfl ⟨(Nat.le_of_ble_eq_true rfl), (Nat.le_of_ble_eq_true rfl)⟩ ⟨(Nat.le_of_ble_eq_true rfl), (Nat.le_of_ble_eq_true rfl)⟩ (Nat.le_of_ble_eq_true rfl) rfl dX7_takesE_91 (sv_kV (fun g_60 h => ?_))
          refine sv_goto (pc := 94) G dX7_takesE_94 172 (by decide) ?_
          refine sv_locs [1, 2, 3] [(0, .ref (b + 58)), (1, .int v1), (3, .int v3)] rfl ?_
          exact aw_X7_takesE_172 G RR T hL  hK28 v1 v3 g_60  h
set_option maxRecDepth 100000 in
set_option maxHeartbeats 4000000 in
theorem aw_X7_takesE_28 {x : sv_X} {b : Nat} {xt : sv_Xt} {F : sv_Fr} {Q : Int32 → sv_Mg → Prop} (G : sv_G x b xt RX7 cX7_takesE 5) (RR : sv_R x 3 63 0 0) (T : sv_RT x (some .boolean)) (hL : sv_Lay F) : ∀ (n : Nat) (v1 : Int32) (v2 : Int32) (v3 : Int32) (g : sv_Mg), wp_X7_takesE_28 F Q  n v1 v2 v3 g → sv_AW x (sv_Q x (sv_qI F Q) 0 0) F g 0 0 28 [(0, .ref (b + 58)), (1, .int v1), (2, .int v2), (3, .int v3)] [] := by
  intro n
  induction n with
  | zero => intro v1 v2 v3 g h; exact h.elim
  | succ n ih =>
    intro v1 v2 v3 g h
    rw [wp_X7_takesE_28] at h
    refine sv_iload_n (pc := 28) G dX7_takesE_28 3 rfl ?_
    refine sv_if_ne (pc := 29) G 39 (by decide) dX7_takesE_29 (fun c_61 => ?_) (fun c_61 => ?_)
    · have h := h.2 c_61
      refine sv_locs [0, 1, 2, 3] [(0, .ref (b + 58)), (1, .int v1), (2, .int v2), (3, .int v3)] rfl ?_
      exact aw_X7_takesE_39 G RR T hL  ih v1 v2 v3 g  h
    · have h := h.1 c_61
      refine sv_aload_n (pc := 32) G dX7_takesE_32 0 rfl ?_
      refine sv_getI (pc := 33) G fw_X7_210 (hL.sh rfl) rfl dX7_takesE_33 ?_
      refine sv_if_eq (pc := 36) G 345 (by decide) dX7_takesE_36 (fun c_62 => ?_) (fun c_62 => ?_)
      · have h := h.1 c_62
        refine sv_aload_n (pc := 345) G dX7_takesE_345 0 rfl ?_
        refine sv_iconst (pc := 346) G dX7_takesE_346 0 ic_0 ?_
        refine sv_callV (cs := 0) (sl := 0) (st := []) (As := [.int 0]) (a := 58) (pc := 347) G RR (c_X7_settle hL  h) mw_X7_settle lk_X7_243 (hL.sh rfl) (by decide) rfl rfl ⟨(Nat.le_of_ble_eq_true rfl), (Nat.le_of_ble_eq_true rfl)⟩ ⟨(Nat.le_of_ble_eq_true rfl), (Nat.le_of_ble_eq_true rfl)⟩ (Nat.le_of_ble_eq_true rfl) rfl dX7_takesE_347 (sv_kV (fun g_63 h => ?_))
        refine sv_iload_n (pc := 350) G dX7_takesE_350 1 rfl ?_
        refine sv_if_ne (pc := 351) G 358 (by decide) dX7_takesE_351 (fun c_64 => ?_) (fun c_64 => ?_)
        · have h := h.2 c_64
          refine sv_iconst (pc := 358) G dX7_takesE_358 0 ic_0 ?_
          exact sv_zreturn (pc := 359) G T (Or.inl rfl) ⟨(Nat.le_of_ble_eq_true rfl), (Nat.le_of_ble_eq_true rfl)⟩ dX7_takesE_359 ⟨_, rfl, rfl, h⟩
        · have h := h.1 c_64
          refine sv_iconst (pc := 354) G dX7_takesE_354 1 ic_1 ?_
          refine sv_goto (pc := 355) G dX7_takesE_355 359 (by decide) ?_
          exact sv_zreturn (pc := 359) G T (Or.inr rfl) ⟨(Nat.le_of_ble_eq_true rfl), (Nat.le_of_ble_eq_true rfl)⟩ dX7_takesE_359 ⟨_, rfl, rfl, h⟩
      · have h := h.2 c_62
        refine sv_locs [0, 1, 2, 3] [(0, .ref (b + 58)), (1, .int v1), (2, .int v2), (3, .int v3)] rfl ?_
        exact aw_X7_takesE_39 G RR T hL  ih v1 v2 v3 g  h
set_option maxRecDepth 100000 in
set_option maxHeartbeats 4000000 in
theorem c_X7_takesE {b : Nat} {xt : sv_Xt} {F : sv_Fr} {g : sv_Mg} {Q : Int32 → sv_Mg → Prop} (hL : sv_Lay F) (h : wp_X7_takesE F g Q) : sv_Cal yX7_takesE cX7_takesE 5 (some .boolean) 3 63 0 0 b xt [.ref (b + 58)] F g (sv_qI F Q) := by
  refine sv_intro mw_X7_takesE [(0, .ref (b + 58))] rfl (Nat.le_of_ble_eq_true rfl) (fun x G RR T NM => ?_)
  have G : sv_G x b xt RX7 cX7_takesE 5 := G
  unfold wp_X7_takesE at h
  refine sv_iconst (pc := 0) G dX7_takesE_0 0 ic_0 ?_
  refine sv_istore_n (pc := 1) G dX7_takesE_1 [(1, .int 0), (0, .ref (b + 58))] (by decide) rfl ?_
  refine sv_iconst (pc := 2) G dX7_takesE_2 0 ic_0 ?_
  refine sv_istore_n (pc := 3) G dX7_takesE_3 [(2, .int 0), (1, .int 0), (0, .ref (b + 58))] (by decide) rfl ?_
  refine sv_iconst (pc := 4) G dX7_takesE_4 1 ic_1 ?_
  refine sv_istore_n (pc := 5) G dX7_takesE_5 [(3, .int 1), (2, .int 0), (1, .int 0), (0, .ref (b + 58))] (by decide) rfl ?_
  refine sv_aload_n (pc := 6) G dX7_takesE_6 3 rfl ?_
  refine sv_iconst (pc := 7) G dX7_takesE_7 0 ic_0 ?_
  refine sv_putI (pc := 8) G fw_X7_234 (hL.sh rfl) rfl dX7_takesE_8 (fun g_65 eg_65 => ?_)
  have h := h g_65 eg_65
  refine sv_aload_n (pc := 11) G dX7_takesE_11 3 rfl ?_
  refine sv_iconst (pc := 12) G dX7_takesE_12 0 ic_0 ?_
  refine sv_putI (pc := 13) G fw_X7_240 (hL.sh rfl) rfl dX7_takesE_13 (fun g_66 eg_66 => ?_)
  have h := h g_66 eg_66
  refine sv_aload_n (pc := 16) G dX7_takesE_16 3 rfl ?_
  refine sv_iconst (pc := 17) G dX7_takesE_17 0 ic_0 ?_
  refine sv_putI (pc := 18) G fw_X7_228 (hL.sh rfl) rfl dX7_takesE_18 (fun g_67 eg_67 => ?_)
  have h := h g_67 eg_67
  refine sv_aload_n (pc := 21) G dX7_takesE_21 3 rfl ?_
  refine sv_getR (pc := 22) G fw_X7_44 (hL.sh rfl) rfl (hL.rf 71 rfl) dX7_takesE_22 ?_
  refine sv_iconst (pc := 25) G dX7_takesE_25 0 ic_0 ?_
  refine sv_iconst (pc := 26) G dX7_takesE_26 0 ic_0 ?_
  refine sv_zastK (pc := 27) G (hL.sh rfl) vi_0_10 (Or.inl rfl) 0 tn_0 dX7_takesE_27 (fun g_68 eg_68 => ?_)
  have h := h g_68 eg_68
  refine sv_locs [3, 2, 1, 0] [(0, .ref (b + 58)), (1, .int 0), (2, .int 0), (3, .int 1)] rfl ?_
  obtain ⟨n_69, h⟩ := h
  exact aw_X7_takesE_28 G RR T hL   n_69 0 0 1 g_68  h
def wp_X7_text_117 (F : sv_Fr) (Q : Int32 → sv_Mg → Prop) : Nat → Int32 → Int32 → sv_Mg → Prop
  | 0, _, _, _ => False
  | n + 1, v2, v3, g => (((g 58 18) ≤ v3 → ∀ g_2, g_2 = sv_st g 59 10 ((g 59 10) + 1) → Q v2 g_2) ∧ (¬ (g 58 18) ≤ v3 → vp_in v3 96 ∧ vp_in ((99 + (96 * v2)) + v3) 1443 ∧ ∀ g_5, g_5 = sv_st g 59 ((99 + (96 * v2)) + v3).toNatClampNeg (g 68 v3.toNatClampNeg) → ∀ v3_6 : Int32, v3_6 = v3 + 1 → (wp_X7_text_117 F Q  n) v2 v3_6 g_5))
def wp_X7_text_33 (F : sv_Fr) (Q : Int32 → sv_Mg → Prop) (s0 : Int32) (g : sv_Mg) : Prop := ∀ g_7, g_7 = sv_st g 58 8 0 → ((s0 = 0 → Q ((-100) - (g_7 58 10)) g_7) ∧ (¬ s0 = 0 → (((g_7 59 10) = 14 → Q (-1000000003) g_7) ∧ (¬ (g_7 59 10) = 14 → ∀ v2_10 : Int32, v2_10 = (g_7 59 10) → vp_in (71 + (2 * v2_10)) 1443 ∧ ∀ g_12, g_12 = sv_st g_7 59 (71 + (2 * v2_10)).toNatClampNeg ((1000 * (g_7 58 14)) + (g_7 58 18)) → vp_in ((71 + (2 * v2_10)) + 1) 1443 ∧ ∀ g_14, g_14 = sv_st g_12 59 ((71 + (2 * v2_10)) + 1).toNatClampNeg (g_12 58 19) → ∃ n_15, wp_X7_text_117 F  Q  n_15 v2_10 0 g_14))))
def wp_X7_text_32 (F : sv_Fr) (Q : Int32 → sv_Mg → Prop) (g : sv_Mg) : Prop := wp_X7_text_33 F  Q  0 g
def wp_X7_text (F : sv_Fr) (g : sv_Mg) (Q : Int32 → sv_Mg → Prop) : Prop := ∀ g_16, g_16 = sv_st g 58 9 0 → ∀ g_17, g_17 = sv_st g_16 58 13 (-1) → wp_X7_go F  g_17 (fun g_18 => wp_X7_takesKey F  g_18 (fun r_20 g_19 => ((r_20 = 0 → wp_X7_text_32 F  Q   g_19) ∧ (¬ r_20 = 0 → wp_X7_takesE F  g_19 (fun r_23 g_22 => ((r_23 = 0 → wp_X7_text_32 F  Q   g_22) ∧ (¬ r_23 = 0 → wp_X7_text_33 F  Q  1 g_22)))))))
set_option maxRecDepth 100000 in
set_option maxHeartbeats 4000000 in
theorem aw_X7_text_117 {x : sv_X} {b : Nat} {xt : sv_Xt} {F : sv_Fr} {Q : Int32 → sv_Mg → Prop} (G : sv_G x b xt RX7 cX7_text 4) (RR : sv_R x 4 87 0 0) (T : sv_RT x (some .int)) (hL : sv_Lay F) : ∀ (n : Nat) (v2 : Int32) (v3 : Int32) (g : sv_Mg), wp_X7_text_117 F Q  n v2 v3 g → sv_AW x (sv_Q x (sv_qI F Q) 0 0) F g 0 0 117 [(0, .ref (b + 58)), (2, .int v2), (3, .int v3)] [] := by
  intro n
  induction n with
  | zero => intro v2 v3 g h; exact h.elim
  | succ n ih =>
    intro v2 v3 g h
    rw [wp_X7_text_117] at h
    refine sv_iload_n (pc := 117) G dX7_text_117 2 rfl ?_
    refine sv_aload_n (pc := 118) G dX7_text_118 0 rfl ?_
    refine sv_getI (pc := 119) G fw_X7_234 (hL.sh rfl) rfl dX7_text_119 ?_
    refine sv_ic_ge (pc := 122) G 151 (by decide) dX7_text_122 (fun c_1 => ?_) (fun c_1 => ?_)
    · have h := h.1 c_1
      refine sv_aload_n (pc := 151) G dX7_text_151 0 rfl ?_
      refine sv_getR (pc := 152) G fw_X7_9 (hL.sh rfl) rfl (hL.rf 60 rfl) dX7_text_152 ?_
      refine sv_bipush (pc := 155) G dX7_text_155 10 bp_10 ?_
      refine sv_dup2 (pc := 157) G dX7_text_157 rfl rfl ?_
      refine sv_ialdK (pc := 158) G (hL.sh rfl) vi_10_1443 10 tn_10 dX7_text_158 ?_
      refine sv_iconst (pc := 159) G dX7_text_159 1 ic_1 ?_
      refine sv_iadd (pc := 160) G dX7_text_160 ?_
      refine sv_iastK (pc := 161) G (hL.sh rfl) vi_10_1443 10 tn_10 dX7_text_161 (fun g_2 eg_2 => ?_)
      have h := h g_2 eg_2
      refine sv_iload_n (pc := 162) G dX7_text_162 1 rfl ?_
      exact sv_ireturn (pc := 163) G T ⟨(Nat.le_of_ble_eq_true rfl), (Nat.le_of_ble_eq_true rfl)⟩ dX7_text_163 ⟨_, rfl, rfl, h⟩
    · have h := h.2 c_1
      refine sv_aload_n (pc := 125) G dX7_text_125 0 rfl ?_
      refine sv_getR (pc := 126) G fw_X7_9 (hL.sh rfl) rfl (hL.rf 60 rfl) dX7_text_126 ?_
      refine sv_bipush (pc := 129) G dX7_text_129 99 bp_99 ?_
      refine sv_bipush (pc := 131) G dX7_text_131 96 bp_96 ?_
      refine sv_iload_n (pc := 133) G dX7_text_133 1 rfl ?_
      refine sv_imul (pc := 134) G dX7_text_134 ?_
      refine sv_iadd (pc := 135) G dX7_text_135 ?_
      refine sv_iload_n (pc := 136) G dX7_text_136 2 rfl ?_
      refine sv_iadd (pc := 137) G dX7_text_137 ?_
      refine sv_aload_n (pc := 138) G dX7_text_138 0 rfl ?_
      refine sv_getR (pc := 139) G fw_X7_38 (hL.sh rfl) rfl (hL.rf 69 rfl) dX7_text_139 ?_
      refine sv_iload_n (pc := 142) G dX7_text_142 2 rfl ?_
      obtain ⟨s_3, h⟩ := h
      refine sv_ialdK (pc := 143) G (hL.sh rfl) s_3 v3.toNatClampNeg rfl dX7_text_143 ?_
      obtain ⟨s_4, h⟩ := h
      refine sv_iastK (pc := 144) G (hL.sh rfl) s_4 ((99 + (96 * v2)) + v3).toNatClampNeg rfl dX7_text_144 (fun g_5 eg_5 => ?_)
      have h := h g_5 eg_5
      obtain ⟨v3_6, ev3_6⟩ : ∃ y : Int32, y = v3 + 1 := ⟨_, rfl⟩
      have h := h v3_6 ev3_6
      refine sv_iinc (pc := 145) G dX7_text_145 2 v3_6 [(3, .int v3_6), (0, .ref (b + 58)), (2, .int v2)] (by rw [ev3_6, ic_1]) rfl (by decide) rfl ?_
      refine sv_goto (pc := 148) G dX7_text_148 117 (by decide) ?_
      refine sv_locs [1, 2, 0] [(0, .ref (b + 58)), (2, .int v2), (3, .int v3_6)] rfl ?_
      exact ih v2 v3_6 g_5  h
set_option maxRecDepth 100000 in
set_option maxHeartbeats 4000000 in
theorem aw_X7_text_33 {x : sv_X} {b : Nat} {xt : sv_Xt} {F : sv_Fr} {Q : Int32 → sv_Mg → Prop} (G : sv_G x b xt RX7 cX7_text 4) (RR : sv_R x 4 87 0 0) (T : sv_RT x (some .int)) (hL : sv_Lay F) : ∀ (s0 : Int32) (g : sv_Mg), wp_X7_text_33 F Q  s0 g → sv_AW x (sv_Q x (sv_qI F Q) 0 0) F g 0 0 33 [(0, .ref (b + 58))] [.int s0] := by
  intro s0 g h
  unfold wp_X7_text_33 at h
  refine sv_istore_n (pc := 33) G dX7_text_33 [(1, .int s0), (0, .ref (b + 58))] (by decide) rfl ?_
  refine sv_aload_n (pc := 34) G dX7_text_34 1 rfl ?_
  refine sv_iconst (pc := 35) G dX7_text_35 0 ic_0 ?_
  refine sv_putI (pc := 36) G fw_X7_197 (hL.sh rfl) rfl dX7_text_36 (fun g_7 eg_7 => ?_)
  have h := h g_7 eg_7
  refine sv_iload_n (pc := 39) G dX7_text_39 0 rfl ?_
  refine sv_if_ne (pc := 40) G 51 (by decide) dX7_text_40 (fun c_8 => ?_) (fun c_8 => ?_)
  · have h := h.2 c_8
    refine sv_aload_n (pc := 51) G dX7_text_51 1 rfl ?_
    refine sv_getR (pc := 52) G fw_X7_9 (hL.sh rfl) rfl (hL.rf 60 rfl) dX7_text_52 ?_
    refine sv_bipush (pc := 55) G dX7_text_55 10 bp_10 ?_
    refine sv_ialdK (pc := 57) G (hL.sh rfl) vi_10_1443 10 tn_10 dX7_text_57 ?_
    refine sv_bipush (pc := 58) G dX7_text_58 14 bp_14 ?_
    refine sv_ic_ne (pc := 60) G 66 (by decide) dX7_text_60 (fun c_9 => ?_) (fun c_9 => ?_)
    · have h := h.2 c_9
      refine sv_aload_n (pc := 66) G dX7_text_66 1 rfl ?_
      refine sv_getR (pc := 67) G fw_X7_9 (hL.sh rfl) rfl (hL.rf 60 rfl) dX7_text_67 ?_
      refine sv_bipush (pc := 70) G dX7_text_70 10 bp_10 ?_
      refine sv_ialdK (pc := 72) G (hL.sh rfl) vi_10_1443 10 tn_10 dX7_text_72 ?_
      refine sv_topi (fun v2_10 ev2_10 => ?_)
      have h := h v2_10 ev2_10
      refine sv_istore_n (pc := 73) G dX7_text_73 [(2, .int v2_10), (1, .int s0), (0, .ref (b + 58))] (by decide) rfl ?_
      refine sv_aload_n (pc := 74) G dX7_text_74 2 rfl ?_
      refine sv_getR (pc := 75) G fw_X7_9 (hL.sh rfl) rfl (hL.rf 60 rfl) dX7_text_75 ?_
      refine sv_bipush (pc := 78) G dX7_text_78 71 bp_71 ?_
      refine sv_iconst (pc := 80) G dX7_text_80 2 ic_2 ?_
      refine sv_iload_n (pc := 81) G dX7_text_81 0 rfl ?_
      refine sv_imul (pc := 82) G dX7_text_82 ?_
      refine sv_iadd (pc := 83) G dX7_text_83 ?_
      refine sv_sipush (pc := 84) G dX7_text_84 1000 sp_1000 ?_
      refine sv_aload_n (pc := 87) G dX7_text_87 2 rfl ?_
      refine sv_getI (pc := 88) G fw_X7_222 (hL.sh rfl) rfl dX7_text_88 ?_
      refine sv_imul (pc := 91) G dX7_text_91 ?_
      refine sv_aload_n (pc := 92) G dX7_text_92 2 rfl ?_
      refine sv_getI (pc := 93) G fw_X7_234 (hL.sh rfl) rfl dX7_text_93 ?_
      refine sv_iadd (pc := 96) G dX7_text_96 ?_
      obtain ⟨s_11, h⟩ := h
      refine sv_iastK (pc := 97) G (hL.sh rfl) s_11 (71 + (2 * v2_10)).toNatClampNeg rfl dX7_text_97 (fun g_12 eg_12 => ?_)
      have h := h g_12 eg_12
      refine sv_aload_n (pc := 98) G dX7_text_98 2 rfl ?_
      refine sv_getR (pc := 99) G fw_X7_9 (hL.sh rfl) rfl (hL.rf 60 rfl) dX7_text_99 ?_
      refine sv_bipush (pc := 102) G dX7_text_102 71 bp_71 ?_
      refine sv_iconst (pc := 104) G dX7_text_104 2 ic_2 ?_
      refine sv_iload_n (pc := 105) G dX7_text_105 0 rfl ?_
      refine sv_imul (pc := 106) G dX7_text_106 ?_
      refine sv_iadd (pc := 107) G dX7_text_107 ?_
      refine sv_iconst (pc := 108) G dX7_text_108 1 ic_1 ?_
      refine sv_iadd (pc := 109) G dX7_text_109 ?_
      refine sv_aload_n (pc := 110) G dX7_text_110 2 rfl ?_
      refine sv_getI (pc := 111) G fw_X7_240 (hL.sh rfl) rfl dX7_text_111 ?_
      obtain ⟨s_13, h⟩ := h
      refine sv_iastK (pc := 114) G (hL.sh rfl) s_13 ((71 + (2 * v2_10)) + 1).toNatClampNeg rfl dX7_text_114 (fun g_14 eg_14 => ?_)
      have h := h g_14 eg_14
      refine sv_iconst (pc := 115) G dX7_text_115 0 ic_0 ?_
      refine sv_istore_n (pc := 116) G dX7_text_116 [(3, .int 0), (2, .int v2_10), (1, .int s0), (0, .ref (b + 58))] (by decide) rfl ?_
      refine sv_locs [3, 1, 0] [(0, .ref (b + 58)), (2, .int v2_10), (3, .int 0)] rfl ?_
      obtain ⟨n_15, h⟩ := h
      exact aw_X7_text_117 G RR T hL   n_15 v2_10 0 g_14  h
    · have h := h.1 c_9
      refine sv_ldc (pc := 63) G dX7_text_63 cn_X7_91 ?_
      exact sv_ireturn (pc := 65) G T ⟨(Nat.le_of_ble_eq_true rfl), (Nat.le_of_ble_eq_true rfl)⟩ dX7_text_65 ⟨_, rfl, rfl, h⟩
  · have h := h.1 c_8
    refine sv_bipush (pc := 43) G dX7_text_43 (-100) bp_m100 ?_
    refine sv_aload_n (pc := 45) G dX7_text_45 1 rfl ?_
    refine sv_getI (pc := 46) G fw_X7_204 (hL.sh rfl) rfl dX7_text_46 ?_
    refine sv_isub (pc := 49) G dX7_text_49 ?_
    exact sv_ireturn (pc := 50) G T ⟨(Nat.le_of_ble_eq_true rfl), (Nat.le_of_ble_eq_true rfl)⟩ dX7_text_50 ⟨_, rfl, rfl, h⟩
set_option maxRecDepth 100000 in
set_option maxHeartbeats 4000000 in
theorem aw_X7_text_32 {x : sv_X} {b : Nat} {xt : sv_Xt} {F : sv_Fr} {Q : Int32 → sv_Mg → Prop} (G : sv_G x b xt RX7 cX7_text 4) (RR : sv_R x 4 87 0 0) (T : sv_RT x (some .int)) (hL : sv_Lay F) : ∀  (g : sv_Mg), wp_X7_text_32 F Q   g → sv_AW x (sv_Q x (sv_qI F Q) 0 0) F g 0 0 32 [(0, .ref (b + 58))] [] := by
  intro g h
  unfold wp_X7_text_32 at h
  refine sv_iconst (pc := 32) G dX7_text_32 0 ic_0 ?_
  refine sv_locs [0] [(0, .ref (b + 58))] rfl ?_
  exact aw_X7_text_33 G RR T hL   0 g  h
set_option maxRecDepth 100000 in
set_option maxHeartbeats 4000000 in
theorem c_X7_text {b : Nat} {xt : sv_Xt} {F : sv_Fr} {g : sv_Mg} {Q : Int32 → sv_Mg → Prop} (hL : sv_Lay F) (h : wp_X7_text F g Q) : sv_Cal yX7_text cX7_text 4 (some .int) 4 87 0 0 b xt [.ref (b + 58)] F g (sv_qI F Q) := by
  refine sv_intro mw_X7_text [(0, .ref (b + 58))] rfl (Nat.le_of_ble_eq_true rfl) (fun x G RR T NM => ?_)
  have G : sv_G x b xt RX7 cX7_text 4 := G
  unfold wp_X7_text at h
  refine sv_aload_n (pc := 0) G dX7_text_0 0 rfl ?_
  refine sv_iconst (pc := 1) G dX7_text_1 0 ic_0 ?_
  refine sv_putI (pc := 2) G fw_X7_201 (hL.sh rfl) rfl dX7_text_2 (fun g_16 eg_16 => ?_)
  have h := h g_16 eg_16
  refine sv_aload_n (pc := 5) G dX7_text_5 0 rfl ?_
  refine sv_iconst (pc := 6) G dX7_text_6 (-1) ic_m1 ?_
  refine sv_putI (pc := 7) G fw_X7_207 (hL.sh rfl) rfl dX7_text_7 (fun g_17 eg_17 => ?_)
  have h := h g_17 eg_17
  refine sv_aload_n (pc := 10) G dX7_text_10 0 rfl ?_
  refine sv_callV (cs := 0) (sl := 0) (st := []) (As := []) (a := 58) (pc := 11) G RR (c_X7_go hL  h) mw_X7_go lk_X7_225 (hL.sh rfl) (by decide) rfl rfl ⟨(Nat.le_of_ble_eq_true rfl), (Nat.le_of_ble_eq_true rfl)⟩ ⟨(Nat.le_of_ble_eq_true rfl), (Nat.le_of_ble_eq_true rfl)⟩ (Nat.le_of_ble_eq_true rfl) rfl dX7_text_11 (sv_kV (fun g_18 h => ?_))
  refine sv_aload_n (pc := 14) G dX7_text_14 0 rfl ?_
  refine sv_callV (cs := 0) (sl := 0) (st := []) (As := []) (a := 58) (pc := 15) G RR (c_X7_takesKey hL  h) mw_X7_takesKey lk_X7_256 (hL.sh rfl) (by decide) rfl rfl ⟨(Nat.le_of_ble_eq_true rfl), (Nat.le_of_ble_eq_true rfl)⟩ ⟨(Nat.le_of_ble_eq_true rfl), (Nat.le_of_ble_eq_true rfl)⟩ (Nat.le_of_ble_eq_true rfl) rfl dX7_text_15 (sv_kI (fun r_20 g_19 h => ?_))
  refine sv_if_eq (pc := 18) G 32 (by decide) dX7_text_18 (fun c_21 => ?_) (fun c_21 => ?_)
  · have h := h.1 c_21
    refine sv_locs [0] [(0, .ref (b + 58))] rfl ?_
    exact aw_X7_text_32 G RR T hL    g_19  h
  · have h := h.2 c_21
    refine sv_aload_n (pc := 21) G dX7_text_21 0 rfl ?_
    refine sv_callV (cs := 0) (sl := 0) (st := []) (As := []) (a := 58) (pc := 22) G RR (c_X7_takesE hL  h) mw_X7_takesE lk_X7_259 (hL.sh rfl) (by decide) rfl rfl ⟨(Nat.le_of_ble_eq_true rfl), (Nat.le_of_ble_eq_true rfl)⟩ ⟨(Nat.le_of_ble_eq_true rfl), (Nat.le_of_ble_eq_true rfl)⟩ (Nat.le_of_ble_eq_true rfl) rfl dX7_text_22 (sv_kI (fun r_23 g_22 h => ?_))
    refine sv_if_eq (pc := 25) G 32 (by decide) dX7_text_25 (fun c_24 => ?_) (fun c_24 => ?_)
    · have h := h.1 c_24
      refine sv_locs [0] [(0, .ref (b + 58))] rfl ?_
      exact aw_X7_text_32 G RR T hL    g_22  h
    · have h := h.2 c_24
      refine sv_iconst (pc := 28) G dX7_text_28 1 ic_1 ?_
      refine sv_goto (pc := 29) G dX7_text_29 33 (by decide) ?_
      refine sv_locs [0] [(0, .ref (b + 58))] rfl ?_
      exact aw_X7_text_33 G RR T hL   1 g_22  h
def wp_X7_textTold (F : sv_Fr) (v1 : Int32) (v2 : Int32) (g : sv_Mg) (Q : Int32 → sv_Mg → Prop) : Prop := wp_X7_in F v1 0 ((g 59 10) - 1) g (fun r_2 g_1 => ((r_2 = 0 → Q (-1000000001) g_1) ∧ (¬ r_2 = 0 → wp_X7_in F v2 0 1 g_1 (fun r_5 g_4 => ((r_5 = 0 → Q (-1000000001) g_4) ∧ (¬ r_5 = 0 → ((v2 = 0 → vp_in (71 + (2 * v1)) 1443 ∧ Q ((g_4 59 (71 + (2 * v1)).toNatClampNeg) / 1000) g_4) ∧ (¬ v2 = 0 → vp_in ((71 + (2 * v1)) + 1) 1443 ∧ Q (g_4 59 ((71 + (2 * v1)) + 1).toNatClampNeg) g_4))))))))
set_option maxRecDepth 100000 in
set_option maxHeartbeats 4000000 in
theorem c_X7_textTold {b : Nat} {xt : sv_Xt} {F : sv_Fr} {v1 : Int32} {v2 : Int32} {g : sv_Mg} {Q : Int32 → sv_Mg → Prop} (hL : sv_Lay F) (h : wp_X7_textTold F v1 v2 g Q) : sv_Cal yX7_textTold cX7_textTold 3 (some .int) 1 22 0 0 b xt [.ref (b + 58), .int v1, .int v2] F g (sv_qI F Q) := by
  refine sv_intro mw_X7_textTold [(0, .ref (b + 58)), (1, .int v1), (2, .int v2)] rfl (Nat.le_of_ble_eq_true rfl) (fun x G RR T NM => ?_)
  have G : sv_G x b xt RX7 cX7_textTold 3 := G
  unfold wp_X7_textTold at h
  refine sv_iload_n (pc := 0) G dX7_textTold_0 1 rfl ?_
  refine sv_iconst (pc := 1) G dX7_textTold_1 0 ic_0 ?_
  refine sv_aload_n (pc := 2) G dX7_textTold_2 0 rfl ?_
  refine sv_getR (pc := 3) G fw_X7_9 (hL.sh rfl) rfl (hL.rf 60 rfl) dX7_textTold_3 ?_
  refine sv_bipush (pc := 6) G dX7_textTold_6 10 bp_10 ?_
  refine sv_ialdK (pc := 8) G (hL.sh rfl) vi_10_1443 10 tn_10 dX7_textTold_8 ?_
  refine sv_iconst (pc := 9) G dX7_textTold_9 1 ic_1 ?_
  refine sv_isub (pc := 10) G dX7_textTold_10 ?_
  refine sv_callS (cs := 0) (sl := 0) (st := []) (As := [.int v1, .int 0, .int ((g 59 10) - 1)]) (pc := 11) G RR (c_X7_in hL  h) mw_X7_in lk_X7_82 rfl ⟨(Nat.le_of_ble_eq_true rfl), (Nat.le_of_ble_eq_true rfl)⟩ ⟨(Nat.le_of_ble_eq_true rfl), (Nat.le_of_ble_eq_true rfl)⟩ (Nat.le_of_ble_eq_true rfl) rfl dX7_textTold_11 (sv_kI (fun r_2 g_1 h => ?_))
  refine sv_if_eq (pc := 14) G 26 (by decide) dX7_textTold_14 (fun c_3 => ?_) (fun c_3 => ?_)
  · have h := h.1 c_3
    refine sv_ldc (pc := 26) G dX7_textTold_26 cn_X7_90 ?_
    exact sv_ireturn (pc := 28) G T ⟨(Nat.le_of_ble_eq_true rfl), (Nat.le_of_ble_eq_true rfl)⟩ dX7_textTold_28 ⟨_, rfl, rfl, h⟩
  · have h := h.2 c_3
    refine sv_iload_n (pc := 17) G dX7_textTold_17 2 rfl ?_
    refine sv_iconst (pc := 18) G dX7_textTold_18 0 ic_0 ?_
    refine sv_iconst (pc := 19) G dX7_textTold_19 1 ic_1 ?_
    refine sv_callS (cs := 0) (sl := 0) (st := []) (As := [.int v2, .int 0, .int 1]) (pc := 20) G RR (c_X7_in hL  h) mw_X7_in lk_X7_82 rfl ⟨(Nat.le_of_ble_eq_true rfl), (Nat.le_of_ble_eq_true rfl)⟩ ⟨(Nat.le_of_ble_eq_true rfl), (Nat.le_of_ble_eq_true rfl)⟩ (Nat.le_of_ble_eq_true rfl) rfl dX7_textTold_20 (sv_kI (fun r_5 g_4 h => ?_))
    refine sv_if_ne (pc := 23) G 29 (by decide) dX7_textTold_23 (fun c_6 => ?_) (fun c_6 => ?_)
    · have h := h.2 c_6
      refine sv_iload_n (pc := 29) G dX7_textTold_29 2 rfl ?_
      refine sv_if_ne (pc := 30) G 51 (by decide) dX7_textTold_30 (fun c_7 => ?_) (fun c_7 => ?_)
      · have h := h.2 c_7
        refine sv_aload_n (pc := 51) G dX7_textTold_51 0 rfl ?_
        refine sv_getR (pc := 52) G fw_X7_9 (hL.sh rfl) rfl (hL.rf 60 rfl) dX7_textTold_52 ?_
        refine sv_bipush (pc := 55) G dX7_textTold_55 71 bp_71 ?_
        refine sv_iconst (pc := 57) G dX7_textTold_57 2 ic_2 ?_
        refine sv_iload_n (pc := 58) G dX7_textTold_58 1 rfl ?_
        refine sv_imul (pc := 59) G dX7_textTold_59 ?_
        refine sv_iadd (pc := 60) G dX7_textTold_60 ?_
        refine sv_iconst (pc := 61) G dX7_textTold_61 1 ic_1 ?_
        refine sv_iadd (pc := 62) G dX7_textTold_62 ?_
        obtain ⟨s_8, h⟩ := h
        refine sv_ialdK (pc := 63) G (hL.sh rfl) s_8 ((71 + (2 * v1)) + 1).toNatClampNeg rfl dX7_textTold_63 ?_
        exact sv_ireturn (pc := 64) G T ⟨(Nat.le_of_ble_eq_true rfl), (Nat.le_of_ble_eq_true rfl)⟩ dX7_textTold_64 ⟨_, rfl, rfl, h⟩
      · have h := h.1 c_7
        refine sv_aload_n (pc := 33) G dX7_textTold_33 0 rfl ?_
        refine sv_getR (pc := 34) G fw_X7_9 (hL.sh rfl) rfl (hL.rf 60 rfl) dX7_textTold_34 ?_
        refine sv_bipush (pc := 37) G dX7_textTold_37 71 bp_71 ?_
        refine sv_iconst (pc := 39) G dX7_textTold_39 2 ic_2 ?_
        refine sv_iload_n (pc := 40) G dX7_textTold_40 1 rfl ?_
        refine sv_imul (pc := 41) G dX7_textTold_41 ?_
        refine sv_iadd (pc := 42) G dX7_textTold_42 ?_
        obtain ⟨s_9, h⟩ := h
        refine sv_ialdK (pc := 43) G (hL.sh rfl) s_9 (71 + (2 * v1)).toNatClampNeg rfl dX7_textTold_43 ?_
        refine sv_sipush (pc := 44) G dX7_textTold_44 1000 sp_1000 ?_
        refine sv_idiv (pc := 47) G dX7_textTold_47 (by decide) ?_
        refine sv_goto (pc := 48) G dX7_textTold_48 64 (by decide) ?_
        exact sv_ireturn (pc := 64) G T ⟨(Nat.le_of_ble_eq_true rfl), (Nat.le_of_ble_eq_true rfl)⟩ dX7_textTold_64 ⟨_, rfl, rfl, h⟩
    · have h := h.1 c_6
      refine sv_ldc (pc := 26) G dX7_textTold_26 cn_X7_90 ?_
      exact sv_ireturn (pc := 28) G T ⟨(Nat.le_of_ble_eq_true rfl), (Nat.le_of_ble_eq_true rfl)⟩ dX7_textTold_28 ⟨_, rfl, rfl, h⟩
def wp_X7_why (F : sv_Fr) (v1 : Int32) (g : sv_Mg) (Q : Int32 → sv_Mg → Prop) : Prop := wp_X7_in F v1 0 2 g (fun r_2 g_1 => ((r_2 = 0 → Q (-1000000001) g_1) ∧ (¬ r_2 = 0 → wp_X7_counts F v1 g_1 (fun r_5 g_4 => ((0 ≤ r_5 → Q r_5 g_4) ∧ (¬ 0 ≤ r_5 → Q (-1000000005) g_4))))))
set_option maxRecDepth 100000 in
set_option maxHeartbeats 4000000 in
theorem c_X7_why {b : Nat} {xt : sv_Xt} {F : sv_Fr} {v1 : Int32} {g : sv_Mg} {Q : Int32 → sv_Mg → Prop} (hL : sv_Lay F) (h : wp_X7_why F v1 g Q) : sv_Cal yX7_why cX7_why 3 (some .int) 1 22 0 0 b xt [.ref (b + 58), .int v1] F g (sv_qI F Q) := by
  refine sv_intro mw_X7_why [(0, .ref (b + 58)), (1, .int v1)] rfl (Nat.le_of_ble_eq_true rfl) (fun x G RR T NM => ?_)
  have G : sv_G x b xt RX7 cX7_why 3 := G
  unfold wp_X7_why at h
  refine sv_iload_n (pc := 0) G dX7_why_0 1 rfl ?_
  refine sv_iconst (pc := 1) G dX7_why_1 0 ic_0 ?_
  refine sv_iconst (pc := 2) G dX7_why_2 2 ic_2 ?_
  refine sv_callS (cs := 0) (sl := 0) (st := []) (As := [.int v1, .int 0, .int 2]) (pc := 3) G RR (c_X7_in hL  h) mw_X7_in lk_X7_82 rfl ⟨(Nat.le_of_ble_eq_true rfl), (Nat.le_of_ble_eq_true rfl)⟩ ⟨(Nat.le_of_ble_eq_true rfl), (Nat.le_of_ble_eq_true rfl)⟩ (Nat.le_of_ble_eq_true rfl) rfl dX7_why_3 (sv_kI (fun r_2 g_1 h => ?_))
  refine sv_if_ne (pc := 6) G 12 (by decide) dX7_why_6 (fun c_3 => ?_) (fun c_3 => ?_)
  · have h := h.2 c_3
    refine sv_aload_n (pc := 12) G dX7_why_12 0 rfl ?_
    refine sv_iload_n (pc := 13) G dX7_why_13 1 rfl ?_
    refine sv_callV (cs := 0) (sl := 0) (st := []) (As := [.int v1]) (a := 58) (pc := 14) G RR (c_X7_counts hL  h) mw_X7_counts lk_X7_120 (hL.sh rfl) (by decide) rfl rfl ⟨(Nat.le_of_ble_eq_true rfl), (Nat.le_of_ble_eq_true rfl)⟩ ⟨(Nat.le_of_ble_eq_true rfl), (Nat.le_of_ble_eq_true rfl)⟩ (Nat.le_of_ble_eq_true rfl) rfl dX7_why_14 (sv_kI (fun r_5 g_4 h => ?_))
    refine sv_istore_n (pc := 17) G dX7_why_17 [(2, .int r_5), (0, .ref (b + 58)), (1, .int v1)] (by decide) rfl ?_
    refine sv_iload_n (pc := 18) G dX7_why_18 0 rfl ?_
    refine sv_if_ge (pc := 19) G 27 (by decide) dX7_why_19 (fun c_6 => ?_) (fun c_6 => ?_)
    · have h := h.1 c_6
      refine sv_iload_n (pc := 27) G dX7_why_27 0 rfl ?_
      exact sv_ireturn (pc := 28) G T ⟨(Nat.le_of_ble_eq_true rfl), (Nat.le_of_ble_eq_true rfl)⟩ dX7_why_28 ⟨_, rfl, rfl, h⟩
    · have h := h.2 c_6
      refine sv_ldc (pc := 22) G dX7_why_22 cn_X7_81 ?_
      refine sv_goto (pc := 24) G dX7_why_24 28 (by decide) ?_
      exact sv_ireturn (pc := 28) G T ⟨(Nat.le_of_ble_eq_true rfl), (Nat.le_of_ble_eq_true rfl)⟩ dX7_why_28 ⟨_, rfl, rfl, h⟩
  · have h := h.1 c_3
    refine sv_ldc (pc := 9) G dX7_why_9 cn_X7_90 ?_
    exact sv_ireturn (pc := 11) G T ⟨(Nat.le_of_ble_eq_true rfl), (Nat.le_of_ble_eq_true rfl)⟩ dX7_why_11 ⟨_, rfl, rfl, h⟩
def wp_X7_isSlot (F : sv_Fr) (v0 : Int32) (g : sv_Mg) (Q : Int32 → sv_Mg → Prop) : Prop := wp_X7_in F v0 0 4 g (fun r_2 g_1 => (r_2 = 0 ∨ r_2 = 1) ∧ Q r_2 g_1)
set_option maxRecDepth 100000 in
set_option maxHeartbeats 4000000 in
theorem c_X7_isSlot {b : Nat} {xt : sv_Xt} {F : sv_Fr} {v0 : Int32} {g : sv_Mg} {Q : Int32 → sv_Mg → Prop} (hL : sv_Lay F) (h : wp_X7_isSlot F v0 g Q) : sv_Cal yX7_isSlot cX7_isSlot 1 (some .boolean) 1 22 0 0 b xt [.int v0] F g (sv_qI F Q) := by
  refine sv_intro mw_X7_isSlot [(0, .int v0)] rfl (Nat.le_of_ble_eq_true rfl) (fun x G RR T NM => ?_)
  have G : sv_G x b xt RX7 cX7_isSlot 1 := G
  unfold wp_X7_isSlot at h
  refine sv_iload_n (pc := 0) G dX7_isSlot_0 0 rfl ?_
  refine sv_iconst (pc := 1) G dX7_isSlot_1 0 ic_0 ?_
  refine sv_iconst (pc := 2) G dX7_isSlot_2 4 ic_4 ?_
  refine sv_callS (cs := 0) (sl := 0) (st := []) (As := [.int v0, .int 0, .int 4]) (pc := 3) G RR (c_X7_in hL  h) mw_X7_in lk_X7_82 rfl ⟨(Nat.le_of_ble_eq_true rfl), (Nat.le_of_ble_eq_true rfl)⟩ ⟨(Nat.le_of_ble_eq_true rfl), (Nat.le_of_ble_eq_true rfl)⟩ (Nat.le_of_ble_eq_true rfl) rfl dX7_isSlot_3 (sv_kI (fun r_2 g_1 h => ?_))
  obtain ⟨s_3, h⟩ := h
  exact sv_zreturn (pc := 6) G T s_3 ⟨(Nat.le_of_ble_eq_true rfl), (Nat.le_of_ble_eq_true rfl)⟩ dX7_isSlot_6 ⟨_, rfl, rfl, h⟩
def wp_X7_sheet_66 (F : sv_Fr) (Q : Int32 → sv_Mg → Prop) : Nat → Int32 → Int32 → sv_Mg → Prop
  | 0, _, _, _ => False
  | n + 1, v1, v4, g => ((24 ≤ v4 → vp_in v1 4 ∧ Q (g 74 v1.toNatClampNeg) g) ∧ (¬ 24 ≤ v4 → vp_in ((24 * v1) + v4) 96 ∧ ∀ g_4, g_4 = sv_st g 75 ((24 * v1) + v4).toNatClampNeg 0 → ∀ v4_5 : Int32, v4_5 = v4 + 1 → (wp_X7_sheet_66 F Q  n) v1 v4_5 g_4))
def wp_X7_sheet_62 (F : sv_Fr) (Q : Int32 → sv_Mg → Prop) (v1 : Int32) (s0 : Int32) (s1 : Int32) (g : sv_Mg) : Prop := vp_in s1 4 ∧ ∀ g_7, g_7 = sv_st g 74 s1.toNatClampNeg s0 → ∃ n_8, wp_X7_sheet_66 F  Q  n_8 v1 0 g_7
def wp_X7_sheet_41 (F : sv_Fr) (Q : Int32 → sv_Mg → Prop) (v1 : Int32) (v2 : Int32) (v3 : Int32) (g : sv_Mg) : Prop := vp_in v1 4 ∧ ∀ g_10, g_10 = sv_st g 73 v1.toNatClampNeg v2 → ((0 ≤ v2 → wp_X7_sheet_62 F  Q  v1 v3 v1 g_10) ∧ (¬ 0 ≤ v2 → wp_X7_sheet_62 F  Q  v1 0 v1 g_10))
def wp_X7_sheet_29 (F : sv_Fr) (Q : Int32 → sv_Mg → Prop) (v1 : Int32) (v2 : Int32) (v3 : Int32) (g : sv_Mg) : Prop := ((v2 < 0 → wp_X7_sheet_41 F  Q  v1 v2 v3 g) ∧ (¬ v2 < 0 → ((0 ≤ v3 → wp_X7_sheet_41 F  Q  v1 v2 v3 g) ∧ (¬ 0 ≤ v3 → Q (-1000000014) g))))
def wp_X7_sheet (F : sv_Fr) (v1 : Int32) (v2 : Int32) (v3 : Int32) (g : sv_Mg) (Q : Int32 → sv_Mg → Prop) : Prop := wp_X7_isSheet F v1 g (fun r_15 g_14 => ((r_15 = 0 → Q (-1000000001) g_14) ∧ (¬ r_15 = 0 → wp_X7_in F v2 (-1) 1 g_14 (fun r_18 g_17 => ((r_18 = 0 → Q (-1000000001) g_17) ∧ (¬ r_18 = 0 → ((v2 < 0 → wp_X7_sheet_29 F  Q  v1 v2 v3 g_17) ∧ (¬ v2 < 0 → ((v3 ≤ 24 → wp_X7_sheet_29 F  Q  v1 v2 v3 g_17) ∧ (¬ v3 ≤ 24 → Q (-1000000001) g_17))))))))))
set_option maxRecDepth 100000 in
set_option maxHeartbeats 4000000 in
theorem aw_X7_sheet_66 {x : sv_X} {b : Nat} {xt : sv_Xt} {F : sv_Fr} {Q : Int32 → sv_Mg → Prop} (G : sv_G x b xt RX7 cX7_sheet 5) (RR : sv_R x 2 42 0 0) (T : sv_RT x (some .int)) (hL : sv_Lay F) : ∀ (n : Nat) (v1 : Int32) (v4 : Int32) (g : sv_Mg), wp_X7_sheet_66 F Q  n v1 v4 g → sv_AW x (sv_Q x (sv_qI F Q) 0 0) F g 0 0 66 [(0, .ref (b + 58)), (1, .int v1), (4, .int v4)] [] := by
  intro n
  induction n with
  | zero => intro v1 v4 g h; exact h.elim
  | succ n ih =>
    intro v1 v4 g h
    rw [wp_X7_sheet_66] at h
    refine sv_iload (pc := 66) G dX7_sheet_66 2 rfl ?_
    refine sv_bipush (pc := 68) G dX7_sheet_68 24 bp_24 ?_
    refine sv_ic_ge (pc := 70) G 92 (by decide) dX7_sheet_70 (fun c_1 => ?_) (fun c_1 => ?_)
    · have h := h.1 c_1
      refine sv_aload_n (pc := 92) G dX7_sheet_92 0 rfl ?_
      refine sv_getR (pc := 93) G fw_X7_57 (hL.sh rfl) rfl (hL.rf 75 rfl) dX7_sheet_93 ?_
      refine sv_iload_n (pc := 96) G dX7_sheet_96 1 rfl ?_
      obtain ⟨s_2, h⟩ := h
      refine sv_ialdK (pc := 97) G (hL.sh rfl) s_2 v1.toNatClampNeg rfl dX7_sheet_97 ?_
      exact sv_ireturn (pc := 98) G T ⟨(Nat.le_of_ble_eq_true rfl), (Nat.le_of_ble_eq_true rfl)⟩ dX7_sheet_98 ⟨_, rfl, rfl, h⟩
    · have h := h.2 c_1
      refine sv_aload_n (pc := 73) G dX7_sheet_73 0 rfl ?_
      refine sv_getR (pc := 74) G fw_X7_60 (hL.sh rfl) rfl (hL.rf 76 rfl) dX7_sheet_74 ?_
      refine sv_bipush (pc := 77) G dX7_sheet_77 24 bp_24 ?_
      refine sv_iload_n (pc := 79) G dX7_sheet_79 1 rfl ?_
      refine sv_imul (pc := 80) G dX7_sheet_80 ?_
      refine sv_iload (pc := 81) G dX7_sheet_81 2 rfl ?_
      refine sv_iadd (pc := 83) G dX7_sheet_83 ?_
      refine sv_iconst (pc := 84) G dX7_sheet_84 0 ic_0 ?_
      obtain ⟨s_3, h⟩ := h
      refine sv_iastK (pc := 85) G (hL.sh rfl) s_3 ((24 * v1) + v4).toNatClampNeg rfl dX7_sheet_85 (fun g_4 eg_4 => ?_)
      have h := h g_4 eg_4
      obtain ⟨v4_5, ev4_5⟩ : ∃ y : Int32, y = v4 + 1 := ⟨_, rfl⟩
      have h := h v4_5 ev4_5
      refine sv_iinc (pc := 86) G dX7_sheet_86 2 v4_5 [(4, .int v4_5), (0, .ref (b + 58)), (1, .int v1)] (by rw [ev4_5, ic_1]) rfl (by decide) rfl ?_
      refine sv_goto (pc := 89) G dX7_sheet_89 66 (by decide) ?_
      refine sv_locs [1, 2, 0] [(0, .ref (b + 58)), (1, .int v1), (4, .int v4_5)] rfl ?_
      exact ih v1 v4_5 g_4  h
set_option maxRecDepth 100000 in
set_option maxHeartbeats 4000000 in
theorem aw_X7_sheet_62 {x : sv_X} {b : Nat} {xt : sv_Xt} {F : sv_Fr} {Q : Int32 → sv_Mg → Prop} (G : sv_G x b xt RX7 cX7_sheet 5) (RR : sv_R x 2 42 0 0) (T : sv_RT x (some .int)) (hL : sv_Lay F) : ∀ (v1 : Int32) (s0 : Int32) (s1 : Int32) (g : sv_Mg), wp_X7_sheet_62 F Q  v1 s0 s1 g → sv_AW x (sv_Q x (sv_qI F Q) 0 0) F g 0 0 62 [(0, .ref (b + 58)), (1, .int v1)] [.int s0, .int s1, .ref (b + 74)] := by
  intro v1 s0 s1 g h
  unfold wp_X7_sheet_62 at h
  obtain ⟨s_6, h⟩ := h
  refine sv_iastK (pc := 62) G (hL.sh rfl) s_6 s1.toNatClampNeg rfl dX7_sheet_62 (fun g_7 eg_7 => ?_)
  have h := h g_7 eg_7
  refine sv_iconst (pc := 63) G dX7_sheet_63 0 ic_0 ?_
  refine sv_istore (pc := 64) G dX7_sheet_64 [(4, .int 0), (0, .ref (b + 58)), (1, .int v1)] (by decide) rfl ?_
  refine sv_locs [1, 2, 0] [(0, .ref (b + 58)), (1, .int v1), (4, .int 0)] rfl ?_
  obtain ⟨n_8, h⟩ := h
  exact aw_X7_sheet_66 G RR T hL   n_8 v1 0 g_7  h
set_option maxRecDepth 100000 in
set_option maxHeartbeats 4000000 in
theorem aw_X7_sheet_41 {x : sv_X} {b : Nat} {xt : sv_Xt} {F : sv_Fr} {Q : Int32 → sv_Mg → Prop} (G : sv_G x b xt RX7 cX7_sheet 5) (RR : sv_R x 2 42 0 0) (T : sv_RT x (some .int)) (hL : sv_Lay F) : ∀ (v1 : Int32) (v2 : Int32) (v3 : Int32) (g : sv_Mg), wp_X7_sheet_41 F Q  v1 v2 v3 g → sv_AW x (sv_Q x (sv_qI F Q) 0 0) F g 0 0 41 [(0, .ref (b + 58)), (1, .int v1), (2, .int v2), (3, .int v3)] [] := by
  intro v1 v2 v3 g h
  unfold wp_X7_sheet_41 at h
  refine sv_aload_n (pc := 41) G dX7_sheet_41 0 rfl ?_
  refine sv_getR (pc := 42) G fw_X7_54 (hL.sh rfl) rfl (hL.rf 74 rfl) dX7_sheet_42 ?_
  refine sv_iload_n (pc := 45) G dX7_sheet_45 1 rfl ?_
  refine sv_iload_n (pc := 46) G dX7_sheet_46 2 rfl ?_
  obtain ⟨s_9, h⟩ := h
  refine sv_iastK (pc := 47) G (hL.sh rfl) s_9 v1.toNatClampNeg rfl dX7_sheet_47 (fun g_10 eg_10 => ?_)
  have h := h g_10 eg_10
  refine sv_aload_n (pc := 48) G dX7_sheet_48 0 rfl ?_
  refine sv_getR (pc := 49) G fw_X7_57 (hL.sh rfl) rfl (hL.rf 75 rfl) dX7_sheet_49 ?_
  refine sv_iload_n (pc := 52) G dX7_sheet_52 1 rfl ?_
  refine sv_iload_n (pc := 53) G dX7_sheet_53 2 rfl ?_
  refine sv_if_ge (pc := 54) G 61 (by decide) dX7_sheet_54 (fun c_11 => ?_) (fun c_11 => ?_)
  · have h := h.1 c_11
    refine sv_iload_n (pc := 61) G dX7_sheet_61 3 rfl ?_
    refine sv_locs [0, 1] [(0, .ref (b + 58)), (1, .int v1)] rfl ?_
    exact aw_X7_sheet_62 G RR T hL   v1 v3 v1 g_10  h
  · have h := h.2 c_11
    refine sv_iconst (pc := 57) G dX7_sheet_57 0 ic_0 ?_
    refine sv_goto (pc := 58) G dX7_sheet_58 62 (by decide) ?_
    refine sv_locs [0, 1] [(0, .ref (b + 58)), (1, .int v1)] rfl ?_
    exact aw_X7_sheet_62 G RR T hL   v1 0 v1 g_10  h
set_option maxRecDepth 100000 in
set_option maxHeartbeats 4000000 in
theorem aw_X7_sheet_29 {x : sv_X} {b : Nat} {xt : sv_Xt} {F : sv_Fr} {Q : Int32 → sv_Mg → Prop} (G : sv_G x b xt RX7 cX7_sheet 5) (RR : sv_R x 2 42 0 0) (T : sv_RT x (some .int)) (hL : sv_Lay F) : ∀ (v1 : Int32) (v2 : Int32) (v3 : Int32) (g : sv_Mg), wp_X7_sheet_29 F Q  v1 v2 v3 g → sv_AW x (sv_Q x (sv_qI F Q) 0 0) F g 0 0 29 [(0, .ref (b + 58)), (1, .int v1), (2, .int v2), (3, .int v3)] [] := by
  intro v1 v2 v3 g h
  unfold wp_X7_sheet_29 at h
  refine sv_iload_n (pc := 29) G dX7_sheet_29 2 rfl ?_
  refine sv_if_lt (pc := 30) G 41 (by decide) dX7_sheet_30 (fun c_12 => ?_) (fun c_12 => ?_)
  · have h := h.1 c_12
    refine sv_locs [0, 1, 2, 3] [(0, .ref (b + 58)), (1, .int v1), (2, .int v2), (3, .int v3)] rfl ?_
    exact aw_X7_sheet_41 G RR T hL   v1 v2 v3 g  h
  · have h := h.2 c_12
    refine sv_iload_n (pc := 33) G dX7_sheet_33 3 rfl ?_
    refine sv_if_ge (pc := 34) G 41 (by decide) dX7_sheet_34 (fun c_13 => ?_) (fun c_13 => ?_)
    · have h := h.1 c_13
      refine sv_locs [0, 1, 2, 3] [(0, .ref (b + 58)), (1, .int v1), (2, .int v2), (3, .int v3)] rfl ?_
      exact aw_X7_sheet_41 G RR T hL   v1 v2 v3 g  h
    · have h := h.2 c_13
      refine sv_ldcw (pc := 37) G dX7_sheet_37 cn_X7_265 ?_
      exact sv_ireturn (pc := 40) G T ⟨(Nat.le_of_ble_eq_true rfl), (Nat.le_of_ble_eq_true rfl)⟩ dX7_sheet_40 ⟨_, rfl, rfl, h⟩
set_option maxRecDepth 100000 in
set_option maxHeartbeats 4000000 in
theorem c_X7_sheet {b : Nat} {xt : sv_Xt} {F : sv_Fr} {v1 : Int32} {v2 : Int32} {v3 : Int32} {g : sv_Mg} {Q : Int32 → sv_Mg → Prop} (hL : sv_Lay F) (h : wp_X7_sheet F v1 v2 v3 g Q) : sv_Cal yX7_sheet cX7_sheet 5 (some .int) 2 42 0 0 b xt [.ref (b + 58), .int v1, .int v2, .int v3] F g (sv_qI F Q) := by
  refine sv_intro mw_X7_sheet [(0, .ref (b + 58)), (1, .int v1), (2, .int v2), (3, .int v3)] rfl (Nat.le_of_ble_eq_true rfl) (fun x G RR T NM => ?_)
  have G : sv_G x b xt RX7 cX7_sheet 5 := G
  unfold wp_X7_sheet at h
  refine sv_iload_n (pc := 0) G dX7_sheet_0 1 rfl ?_
  refine sv_callS (cs := 0) (sl := 0) (st := []) (As := [.int v1]) (pc := 1) G RR (c_X7_isSheet hL  h) mw_X7_isSheet lk_X7_189 rfl ⟨(Nat.le_of_ble_eq_true rfl), (Nat.le_of_ble_eq_true rfl)⟩ ⟨(Nat.le_of_ble_eq_true rfl), (Nat.le_of_ble_eq_true rfl)⟩ (Nat.le_of_ble_eq_true rfl) rfl dX7_sheet_1 (sv_kI (fun r_15 g_14 h => ?_))
  refine sv_if_eq (pc := 4) G 26 (by decide) dX7_sheet_4 (fun c_16 => ?_) (fun c_16 => ?_)
  · have h := h.1 c_16
    refine sv_ldc (pc := 26) G dX7_sheet_26 cn_X7_90 ?_
    exact sv_ireturn (pc := 28) G T ⟨(Nat.le_of_ble_eq_true rfl), (Nat.le_of_ble_eq_true rfl)⟩ dX7_sheet_28 ⟨_, rfl, rfl, h⟩
  · have h := h.2 c_16
    refine sv_iload_n (pc := 7) G dX7_sheet_7 2 rfl ?_
    refine sv_iconst (pc := 8) G dX7_sheet_8 (-1) ic_m1 ?_
    refine sv_iconst (pc := 9) G dX7_sheet_9 1 ic_1 ?_
    refine sv_callS (cs := 0) (sl := 0) (st := []) (As := [.int v2, .int (-1), .int 1]) (pc := 10) G RR (c_X7_in hL  h) mw_X7_in lk_X7_82 rfl ⟨(Nat.le_of_ble_eq_true rfl), (Nat.le_of_ble_eq_true rfl)⟩ ⟨(Nat.le_of_ble_eq_true rfl), (Nat.le_of_ble_eq_true rfl)⟩ (Nat.le_of_ble_eq_true rfl) rfl dX7_sheet_10 (sv_kI (fun r_18 g_17 h => ?_))
    refine sv_if_eq (pc := 13) G 26 (by decide) dX7_sheet_13 (fun c_19 => ?_) (fun c_19 => ?_)
    · have h := h.1 c_19
      refine sv_ldc (pc := 26) G dX7_sheet_26 cn_X7_90 ?_
      exact sv_ireturn (pc := 28) G T ⟨(Nat.le_of_ble_eq_true rfl), (Nat.le_of_ble_eq_true rfl)⟩ dX7_sheet_28 ⟨_, rfl, rfl, h⟩
    · have h := h.2 c_19
      refine sv_iload_n (pc := 16) G dX7_sheet_16 2 rfl ?_
      refine sv_if_lt (pc := 17) G 29 (by decide) dX7_sheet_17 (fun c_20 => ?_) (fun c_20 => ?_)
      · have h := h.1 c_20
        refine sv_locs [0, 1, 2, 3] [(0, .ref (b + 58)), (1, .int v1), (2, .int v2), (3, .int v3)] rfl ?_
        exact aw_X7_sheet_29 G RR T hL   v1 v2 v3 g_17  h
      · have h := h.2 c_20
        refine sv_iload_n (pc := 20) G dX7_sheet_20 3 rfl ?_
        refine sv_bipush (pc := 21) G dX7_sheet_21 24 bp_24 ?_
        refine sv_ic_le (pc := 23) G 29 (by decide) dX7_sheet_23 (fun c_21 => ?_) (fun c_21 => ?_)
        · have h := h.1 c_21
          refine sv_locs [0, 1, 2, 3] [(0, .ref (b + 58)), (1, .int v1), (2, .int v2), (3, .int v3)] rfl ?_
          exact aw_X7_sheet_29 G RR T hL   v1 v2 v3 g_17  h
        · have h := h.2 c_21
          refine sv_ldc (pc := 26) G dX7_sheet_26 cn_X7_90 ?_
          exact sv_ireturn (pc := 28) G T ⟨(Nat.le_of_ble_eq_true rfl), (Nat.le_of_ble_eq_true rfl)⟩ dX7_sheet_28 ⟨_, rfl, rfl, h⟩
def wp_X7_mark_92 (F : sv_Fr) (Q : Int32 → sv_Mg → Prop) (v1 : Int32) (v2 : Int32) (v3 : Int32) (g : sv_Mg) : Prop := vp_in v1 4 ∧ (((g 73 v1.toNatClampNeg) = 0 → vp_in ((24 * v1) + v2) 96 ∧ ∀ g_6, g_6 = sv_st g 75 ((24 * v1) + v2).toNatClampNeg v3.toInt16.toInt32 → Q 1 g_6) ∧ (¬ (g 73 v1.toNatClampNeg) = 0 → vp_in ((24 * v1) + v2) 96 ∧ ∀ g_4, g_4 = sv_st g 75 ((24 * v1) + v2).toNatClampNeg v3 → Q 1 g_4))
def wp_X7_mark_60 (F : sv_Fr) (Q : Int32 → sv_Mg → Prop) (v1 : Int32) (v2 : Int32) (v3 : Int32) (g : sv_Mg) : Prop := vp_in v1 4 ∧ (((g 73 v1.toNatClampNeg) = 1 → ((v3 = (-1000000005) → wp_X7_mark_92 F  Q  v1 v2 v3 g) ∧ (¬ v3 = (-1000000005) → wp_X7_in F v3 (-99999) 99999 g (fun r_11 g_10 => ((r_11 = 0 → Q (-1000000001) g_10) ∧ (¬ r_11 = 0 → wp_X7_mark_92 F  Q  v1 v2 v3 g_10)))))) ∧ (¬ (g 73 v1.toNatClampNeg) = 1 → wp_X7_mark_92 F  Q  v1 v2 v3 g))
def wp_X7_mark (F : sv_Fr) (v1 : Int32) (v2 : Int32) (v3 : Int32) (g : sv_Mg) (Q : Int32 → sv_Mg → Prop) : Prop := wp_X7_isSheet F v1 g (fun r_14 g_13 => ((r_14 = 0 → Q (-1000000001) g_13) ∧ (¬ r_14 = 0 → vp_in v1 4 ∧ ((0 ≤ (g_13 73 v1.toNatClampNeg) → vp_in v1 4 ∧ wp_X7_in F v2 0 ((g_13 74 v1.toNatClampNeg) - 1) g_13 (fun r_20 g_19 => ((r_20 = 0 → Q (-1000000013) g_19) ∧ (¬ r_20 = 0 → vp_in v1 4 ∧ (((g_19 73 v1.toNatClampNeg) = 0 → ((v3 = (-1000000005) → Q (-1000000012) g_19) ∧ (¬ v3 = (-1000000005) → wp_X7_mark_60 F  Q  v1 v2 v3 g_19))) ∧ (¬ (g_19 73 v1.toNatClampNeg) = 0 → wp_X7_mark_60 F  Q  v1 v2 v3 g_19)))))) ∧ (¬ 0 ≤ (g_13 73 v1.toNatClampNeg) → Q (-1000000011) g_13)))))
set_option maxRecDepth 100000 in
set_option maxHeartbeats 4000000 in
theorem aw_X7_mark_92 {x : sv_X} {b : Nat} {xt : sv_Xt} {F : sv_Fr} {Q : Int32 → sv_Mg → Prop} (G : sv_G x b xt RX7 cX7_mark 4) (RR : sv_R x 2 42 0 0) (T : sv_RT x (some .int)) (hL : sv_Lay F) : ∀ (v1 : Int32) (v2 : Int32) (v3 : Int32) (g : sv_Mg), wp_X7_mark_92 F Q  v1 v2 v3 g → sv_AW x (sv_Q x (sv_qI F Q) 0 0) F g 0 0 92 [(0, .ref (b + 58)), (1, .int v1), (2, .int v2), (3, .int v3)] [] := by
  intro v1 v2 v3 g h
  unfold wp_X7_mark_92 at h
  refine sv_aload_n (pc := 92) G dX7_mark_92 0 rfl ?_
  refine sv_getR (pc := 93) G fw_X7_60 (hL.sh rfl) rfl (hL.rf 76 rfl) dX7_mark_93 ?_
  refine sv_bipush (pc := 96) G dX7_mark_96 24 bp_24 ?_
  refine sv_iload_n (pc := 98) G dX7_mark_98 1 rfl ?_
  refine sv_imul (pc := 99) G dX7_mark_99 ?_
  refine sv_iload_n (pc := 100) G dX7_mark_100 2 rfl ?_
  refine sv_iadd (pc := 101) G dX7_mark_101 ?_
  refine sv_aload_n (pc := 102) G dX7_mark_102 0 rfl ?_
  refine sv_getR (pc := 103) G fw_X7_54 (hL.sh rfl) rfl (hL.rf 74 rfl) dX7_mark_103 ?_
  refine sv_iload_n (pc := 106) G dX7_mark_106 1 rfl ?_
  obtain ⟨s_1, h⟩ := h
  refine sv_ialdK (pc := 107) G (hL.sh rfl) s_1 v1.toNatClampNeg rfl dX7_mark_107 ?_
  refine sv_if_ne (pc := 108) G 116 (by decide) dX7_mark_108 (fun c_2 => ?_) (fun c_2 => ?_)
  · have h := h.2 c_2
    refine sv_iload_n (pc := 116) G dX7_mark_116 3 rfl ?_
    obtain ⟨s_3, h⟩ := h
    refine sv_iastK (pc := 117) G (hL.sh rfl) s_3 ((24 * v1) + v2).toNatClampNeg rfl dX7_mark_117 (fun g_4 eg_4 => ?_)
    have h := h g_4 eg_4
    refine sv_iconst (pc := 118) G dX7_mark_118 1 ic_1 ?_
    exact sv_ireturn (pc := 119) G T ⟨(Nat.le_of_ble_eq_true rfl), (Nat.le_of_ble_eq_true rfl)⟩ dX7_mark_119 ⟨_, rfl, rfl, h⟩
  · have h := h.1 c_2
    refine sv_iload_n (pc := 111) G dX7_mark_111 3 rfl ?_
    refine sv_i2s (pc := 112) G dX7_mark_112 ?_
    refine sv_goto (pc := 113) G dX7_mark_113 117 (by decide) ?_
    obtain ⟨s_5, h⟩ := h
    refine sv_iastK (pc := 117) G (hL.sh rfl) s_5 ((24 * v1) + v2).toNatClampNeg rfl dX7_mark_117 (fun g_6 eg_6 => ?_)
    have h := h g_6 eg_6
    refine sv_iconst (pc := 118) G dX7_mark_118 1 ic_1 ?_
    exact sv_ireturn (pc := 119) G T ⟨(Nat.le_of_ble_eq_true rfl), (Nat.le_of_ble_eq_true rfl)⟩ dX7_mark_119 ⟨_, rfl, rfl, h⟩
set_option maxRecDepth 100000 in
set_option maxHeartbeats 4000000 in
theorem aw_X7_mark_60 {x : sv_X} {b : Nat} {xt : sv_Xt} {F : sv_Fr} {Q : Int32 → sv_Mg → Prop} (G : sv_G x b xt RX7 cX7_mark 4) (RR : sv_R x 2 42 0 0) (T : sv_RT x (some .int)) (hL : sv_Lay F) : ∀ (v1 : Int32) (v2 : Int32) (v3 : Int32) (g : sv_Mg), wp_X7_mark_60 F Q  v1 v2 v3 g → sv_AW x (sv_Q x (sv_qI F Q) 0 0) F g 0 0 60 [(0, .ref (b + 58)), (1, .int v1), (2, .int v2), (3, .int v3)] [] := by
  intro v1 v2 v3 g h
  unfold wp_X7_mark_60 at h
  refine sv_aload_n (pc := 60) G dX7_mark_60 0 rfl ?_
  refine sv_getR (pc := 61) G fw_X7_54 (hL.sh rfl) rfl (hL.rf 74 rfl) dX7_mark_61 ?_
  refine sv_iload_n (pc := 64) G dX7_mark_64 1 rfl ?_
  obtain ⟨s_7, h⟩ := h
  refine sv_ialdK (pc := 65) G (hL.sh rfl) s_7 v1.toNatClampNeg rfl dX7_mark_65 ?_
  refine sv_iconst (pc := 66) G dX7_mark_66 1 ic_1 ?_
  refine sv_ic_ne (pc := 67) G 92 (by decide) dX7_mark_67 (fun c_8 => ?_) (fun c_8 => ?_)
  · have h := h.2 c_8
    refine sv_locs [0, 1, 2, 3] [(0, .ref (b + 58)), (1, .int v1), (2, .int v2), (3, .int v3)] rfl ?_
    exact aw_X7_mark_92 G RR T hL   v1 v2 v3 g  h
  · have h := h.1 c_8
    refine sv_iload_n (pc := 70) G dX7_mark_70 3 rfl ?_
    refine sv_ldc (pc := 71) G dX7_mark_71 cn_X7_81 ?_
    refine sv_ic_eq (pc := 73) G 92 (by decide) dX7_mark_73 (fun c_9 => ?_) (fun c_9 => ?_)
    · have h := h.1 c_9
      refine sv_locs [0, 1, 2, 3] [(0, .ref (b + 58)), (1, .int v1), (2, .int v2), (3, .int v3)] rfl ?_
      exact aw_X7_mark_92 G RR T hL   v1 v2 v3 g  h
    · have h := h.2 c_9
      refine sv_iload_n (pc := 76) G dX7_mark_76 3 rfl ?_
      refine sv_ldcw (pc := 77) G dX7_mark_77 cn_X7_267 ?_
      refine sv_ldcw (pc := 80) G dX7_mark_80 cn_X7_268 ?_
      refine sv_callS (cs := 0) (sl := 0) (st := []) (As := [.int v3, .int (-99999), .int 99999]) (pc := 83) G RR (c_X7_in hL  h) mw_X7_in lk_X7_82 rfl ⟨(Nat.le_of_ble_eq_true rfl), (Nat.le_of_ble_eq_true rfl)⟩ ⟨(Nat.le_of_ble_eq_true rfl), (Nat.le_of_ble_eq_true rfl)⟩ (Nat.le_of_ble_eq_true rfl) rfl dX7_mark_83 (sv_kI (fun r_11 g_10 h => ?_))
      refine sv_if_ne (pc := 86) G 92 (by decide) dX7_mark_86 (fun c_12 => ?_) (fun c_12 => ?_)
      · have h := h.2 c_12
        refine sv_locs [0, 1, 2, 3] [(0, .ref (b + 58)), (1, .int v1), (2, .int v2), (3, .int v3)] rfl ?_
        exact aw_X7_mark_92 G RR T hL   v1 v2 v3 g_10  h
      · have h := h.1 c_12
        refine sv_ldc (pc := 89) G dX7_mark_89 cn_X7_90 ?_
        exact sv_ireturn (pc := 91) G T ⟨(Nat.le_of_ble_eq_true rfl), (Nat.le_of_ble_eq_true rfl)⟩ dX7_mark_91 ⟨_, rfl, rfl, h⟩
set_option maxRecDepth 100000 in
set_option maxHeartbeats 4000000 in
theorem c_X7_mark {b : Nat} {xt : sv_Xt} {F : sv_Fr} {v1 : Int32} {v2 : Int32} {v3 : Int32} {g : sv_Mg} {Q : Int32 → sv_Mg → Prop} (hL : sv_Lay F) (h : wp_X7_mark F v1 v2 v3 g Q) : sv_Cal yX7_mark cX7_mark 4 (some .int) 2 42 0 0 b xt [.ref (b + 58), .int v1, .int v2, .int v3] F g (sv_qI F Q) := by
  refine sv_intro mw_X7_mark [(0, .ref (b + 58)), (1, .int v1), (2, .int v2), (3, .int v3)] rfl (Nat.le_of_ble_eq_true rfl) (fun x G RR T NM => ?_)
  have G : sv_G x b xt RX7 cX7_mark 4 := G
  unfold wp_X7_mark at h
  refine sv_iload_n (pc := 0) G dX7_mark_0 1 rfl ?_
  refine sv_callS (cs := 0) (sl := 0) (st := []) (As := [.int v1]) (pc := 1) G RR (c_X7_isSheet hL  h) mw_X7_isSheet lk_X7_189 rfl ⟨(Nat.le_of_ble_eq_true rfl), (Nat.le_of_ble_eq_true rfl)⟩ ⟨(Nat.le_of_ble_eq_true rfl), (Nat.le_of_ble_eq_true rfl)⟩ (Nat.le_of_ble_eq_true rfl) rfl dX7_mark_1 (sv_kI (fun r_14 g_13 h => ?_))
  refine sv_if_ne (pc := 4) G 10 (by decide) dX7_mark_4 (fun c_15 => ?_) (fun c_15 => ?_)
  · have h := h.2 c_15
    refine sv_aload_n (pc := 10) G dX7_mark_10 0 rfl ?_
    refine sv_getR (pc := 11) G fw_X7_54 (hL.sh rfl) rfl (hL.rf 74 rfl) dX7_mark_11 ?_
    refine sv_iload_n (pc := 14) G dX7_mark_14 1 rfl ?_
    obtain ⟨s_16, h⟩ := h
    refine sv_ialdK (pc := 15) G (hL.sh rfl) s_16 v1.toNatClampNeg rfl dX7_mark_15 ?_
    refine sv_if_ge (pc := 16) G 22 (by decide) dX7_mark_16 (fun c_17 => ?_) (fun c_17 => ?_)
    · have h := h.1 c_17
      refine sv_iload_n (pc := 22) G dX7_mark_22 2 rfl ?_
      refine sv_iconst (pc := 23) G dX7_mark_23 0 ic_0 ?_
      refine sv_aload_n (pc := 24) G dX7_mark_24 0 rfl ?_
      refine sv_getR (pc := 25) G fw_X7_57 (hL.sh rfl) rfl (hL.rf 75 rfl) dX7_mark_25 ?_
      refine sv_iload_n (pc := 28) G dX7_mark_28 1 rfl ?_
      obtain ⟨s_18, h⟩ := h
      refine sv_ialdK (pc := 29) G (hL.sh rfl) s_18 v1.toNatClampNeg rfl dX7_mark_29 ?_
      refine sv_iconst (pc := 30) G dX7_mark_30 1 ic_1 ?_
      refine sv_isub (pc := 31) G dX7_mark_31 ?_
      refine sv_callS (cs := 0) (sl := 0) (st := []) (As := [.int v2, .int 0, .int ((g_13 74 v1.toNatClampNeg) - 1)]) (pc := 32) G RR (c_X7_in hL  h) mw_X7_in lk_X7_82 rfl ⟨(Nat.le_of_ble_eq_true rfl), (Nat.le_of_ble_eq_true rfl)⟩ ⟨(Nat.le_of_ble_eq_true rfl), (Nat.le_of_ble_eq_true rfl)⟩ (Nat.le_of_ble_eq_true rfl) rfl dX7_mark_32 (sv_kI (fun r_20 g_19 h => ?_))
      refine sv_if_ne (pc := 35) G 42 (by decide) dX7_mark_35 (fun c_21 => ?_) (fun c_21 => ?_)
      · have h := h.2 c_21
        refine sv_aload_n (pc := 42) G dX7_mark_42 0 rfl ?_
        refine sv_getR (pc := 43) G fw_X7_54 (hL.sh rfl) rfl (hL.rf 74 rfl) dX7_mark_43 ?_
        refine sv_iload_n (pc := 46) G dX7_mark_46 1 rfl ?_
        obtain ⟨s_22, h⟩ := h
        refine sv_ialdK (pc := 47) G (hL.sh rfl) s_22 v1.toNatClampNeg rfl dX7_mark_47 ?_
        refine sv_if_ne (pc := 48) G 60 (by decide) dX7_mark_48 (fun c_23 => ?_) (fun c_23 => ?_)
        · have h := h.2 c_23
          refine sv_locs [0, 1, 2, 3] [(0, .ref (b + 58)), (1, .int v1), (2, .int v2), (3, .int v3)] rfl ?_
          exact aw_X7_mark_60 G RR T hL   v1 v2 v3 g_19  h
        · have h := h.1 c_23
          refine sv_iload_n (pc := 51) G dX7_mark_51 3 rfl ?_
          refine sv_ldc (pc := 52) G dX7_mark_52 cn_X7_81 ?_
          refine sv_ic_ne (pc := 54) G 60 (by decide) dX7_mark_54 (fun c_24 => ?_) (fun c_24 => ?_)
          · have h := h.2 c_24
            refine sv_locs [0, 1, 2, 3] [(0, .ref (b + 58)), (1, .int v1), (2, .int v2), (3, .int v3)] rfl ?_
            exact aw_X7_mark_60 G RR T hL   v1 v2 v3 g_19  h
          · have h := h.1 c_24
            refine sv_ldc (pc := 57) G dX7_mark_57 cn_X7_153 ?_
            exact sv_ireturn (pc := 59) G T ⟨(Nat.le_of_ble_eq_true rfl), (Nat.le_of_ble_eq_true rfl)⟩ dX7_mark_59 ⟨_, rfl, rfl, h⟩
      · have h := h.1 c_21
        refine sv_ldcw (pc := 38) G dX7_mark_38 cn_X7_266 ?_
        exact sv_ireturn (pc := 41) G T ⟨(Nat.le_of_ble_eq_true rfl), (Nat.le_of_ble_eq_true rfl)⟩ dX7_mark_41 ⟨_, rfl, rfl, h⟩
    · have h := h.2 c_17
      refine sv_ldc (pc := 19) G dX7_mark_19 cn_X7_192 ?_
      exact sv_ireturn (pc := 21) G T ⟨(Nat.le_of_ble_eq_true rfl), (Nat.le_of_ble_eq_true rfl)⟩ dX7_mark_21 ⟨_, rfl, rfl, h⟩
  · have h := h.1 c_15
    refine sv_ldc (pc := 7) G dX7_mark_7 cn_X7_90 ?_
    exact sv_ireturn (pc := 9) G T ⟨(Nat.le_of_ble_eq_true rfl), (Nat.le_of_ble_eq_true rfl)⟩ dX7_mark_9 ⟨_, rfl, rfl, h⟩
def wp_X7_pour_111 (F : sv_Fr) (Q : Int32 → sv_Mg → Prop) (K26 : Int32 → Int32 → Int32 → sv_Mg → Prop) (v1 : Int32) (v3 : Int32) (s0 : Int32) (s1 : Int32) (g : sv_Mg) : Prop := ∀ v2_1 : Int32, v2_1 = (s1 + s0) → ∀ v3_2 : Int32, v3_2 = v3 + 1 → K26 v1 v2_1 v3_2 g
def wp_X7_pour_83 (F : sv_Fr) (Q : Int32 → sv_Mg → Prop) (K26 : Int32 → Int32 → Int32 → sv_Mg → Prop) (v1 : Int32) (v2 : Int32) (v3 : Int32) (s0 : Int32) (g : sv_Mg) : Prop := wp_X7_becomes F ((11 + (6 * v3)) + 4) s0 g (fun r_4 g_3 => ((r_4 = s0 → wp_X7_pour_111 F  Q K26 v1 v3 0 v2 g_3) ∧ (¬ r_4 = s0 → wp_X7_pour_111 F  Q K26 v1 v3 1 v2 g_3)))
def wp_X7_pour_26 (F : sv_Fr) (Q : Int32 → sv_Mg → Prop) : Nat → Int32 → Int32 → Int32 → sv_Mg → Prop
  | 0, _, _, _, _ => False
  | n + 1, v1, v2, v3, g => vp_in v1 4 ∧ (((g 74 v1.toNatClampNeg) ≤ v3 → Q v2 g) ∧ (¬ (g 74 v1.toNatClampNeg) ≤ v3 → (((g 59 1) ≤ v3 → Q v2 g) ∧ (¬ (g 59 1) ≤ v3 → vp_in ((24 * v1) + v3) 96 ∧ ∀ v4_10 : Int32, v4_10 = (g 75 ((24 * v1) + v3).toNatClampNeg) → ((v4_10 = (-1000000005) → wp_X7_of F v3 4 g (fun r_15 g_14 => wp_X7_pour_83 F  Q (wp_X7_pour_26 F Q  n) v1 v2 v3 r_15 g_14)) ∧ (¬ v4_10 = (-1000000005) → wp_X7_within F v4_10 0 9 g (fun r_13 g_12 => wp_X7_pour_83 F  Q (wp_X7_pour_26 F Q  n) v1 v2 v3 r_13 g_12)))))))
def wp_X7_pour (F : sv_Fr) (v1 : Int32) (g : sv_Mg) (Q : Int32 → sv_Mg → Prop) : Prop := wp_X7_isSheet F v1 g (fun r_17 g_16 => ((r_17 = 0 → Q (-1000000001) g_16) ∧ (¬ r_17 = 0 → vp_in v1 4 ∧ ((0 ≤ (g_16 73 v1.toNatClampNeg) → ∃ n_21, wp_X7_pour_26 F  Q  n_21 v1 0 0 g_16) ∧ (¬ 0 ≤ (g_16 73 v1.toNatClampNeg) → Q (-1000000011) g_16)))))
set_option maxRecDepth 100000 in
set_option maxHeartbeats 4000000 in
theorem aw_X7_pour_111 {x : sv_X} {b : Nat} {xt : sv_Xt} {F : sv_Fr} {Q : Int32 → sv_Mg → Prop} (G : sv_G x b xt RX7 cX7_pour 6) (RR : sv_R x 2 42 0 0) (T : sv_RT x (some .int)) (hL : sv_Lay F) {K26 : Int32 → Int32 → Int32 → sv_Mg → Prop} (hK26 : ∀ (v1 : Int32) (v2 : Int32) (v3 : Int32) (g : sv_Mg), K26 v1 v2 v3 g → sv_AW x (sv_Q x (sv_qI F Q) 0 0) F g 0 0 26 [(0, .ref (b + 58)), (1, .int v1), (2, .int v2), (3, .int v3)] []) : ∀ (v1 : Int32) (v3 : Int32) (s0 : Int32) (s1 : Int32) (g : sv_Mg), wp_X7_pour_111 F Q K26 v1 v3 s0 s1 g → sv_AW x (sv_Q x (sv_qI F Q) 0 0) F g 0 0 111 [(0, .ref (b + 58)), (1, .int v1), (3, .int v3)] [.int s0, .int s1] := by
  intro v1 v3 s0 s1 g h
  unfold wp_X7_pour_111 at h
  refine sv_iadd (pc := 111) G dX7_pour_111 ?_
  refine sv_topi (fun v2_1 ev2_1 => ?_)
  have h := h v2_1 ev2_1
  refine sv_istore_n (pc := 112) G dX7_pour_112 [(2, .int v2_1), (0, .ref (b + 58)), (1, .int v1), (3, .int v3)] (by decide) rfl ?_
  obtain ⟨v3_2, ev3_2⟩ : ∃ y : Int32, y = v3 + 1 := ⟨_, rfl⟩
  have h := h v3_2 ev3_2
  refine sv_iinc (pc := 113) G dX7_pour_113 3 v3_2 [(3, .int v3_2), (2, .int v2_1), (0, .ref (b + 58)), (1, .int v1)] (by rw [ev3_2, ic_1]) rfl (by decide) rfl ?_
  refine sv_goto (pc := 116) G dX7_pour_116 26 (by decide) ?_
  refine sv_locs [2, 3, 1, 0] [(0, .ref (b + 58)), (1, .int v1), (2, .int v2_1), (3, .int v3_2)] rfl ?_
  exact hK26 v1 v2_1 v3_2 g  h
set_option maxRecDepth 100000 in
set_option maxHeartbeats 4000000 in
theorem aw_X7_pour_83 {x : sv_X} {b : Nat} {xt : sv_Xt} {F : sv_Fr} {Q : Int32 → sv_Mg → Prop} (G : sv_G x b xt RX7 cX7_pour 6) (RR : sv_R x 2 42 0 0) (T : sv_RT x (some .int)) (hL : sv_Lay F) {K26 : Int32 → Int32 → Int32 → sv_Mg → Prop} (hK26 : ∀ (v1 : Int32) (v2 : Int32) (v3 : Int32) (g : sv_Mg), K26 v1 v2 v3 g → sv_AW x (sv_Q x (sv_qI F Q) 0 0) F g 0 0 26 [(0, .ref (b + 58)), (1, .int v1), (2, .int v2), (3, .int v3)] []) : ∀ (v1 : Int32) (v2 : Int32) (v3 : Int32) (s0 : Int32) (g : sv_Mg), wp_X7_pour_83 F Q K26 v1 v2 v3 s0 g → sv_AW x (sv_Q x (sv_qI F Q) 0 0) F g 0 0 83 [(0, .ref (b + 58)), (1, .int v1), (2, .int v2), (3, .int v3)] [.int s0] := by
  intro v1 v2 v3 s0 g h
  unfold wp_X7_pour_83 at h
  refine sv_istore (pc := 83) G dX7_pour_83 [(5, .int s0), (0, .ref (b + 58)), (1, .int v1), (2, .int v2), (3, .int v3)] (by decide) rfl ?_
  refine sv_iload_n (pc := 85) G dX7_pour_85 3 rfl ?_
  refine sv_aload_n (pc := 86) G dX7_pour_86 1 rfl ?_
  refine sv_bipush (pc := 87) G dX7_pour_87 11 bp_11 ?_
  refine sv_bipush (pc := 89) G dX7_pour_89 6 bp_6 ?_
  refine sv_iload_n (pc := 91) G dX7_pour_91 4 rfl ?_
  refine sv_imul (pc := 92) G dX7_pour_92 ?_
  refine sv_iadd (pc := 93) G dX7_pour_93 ?_
  refine sv_iconst (pc := 94) G dX7_pour_94 4 ic_4 ?_
  refine sv_iadd (pc := 95) G dX7_pour_95 ?_
  refine sv_iload (pc := 96) G dX7_pour_96 0 rfl ?_
  refine sv_callV (cs := 0) (sl := 0) (st := [.int v2]) (As := [.int ((11 + (6 * v3)) + 4), .int s0]) (a := 58) (pc := 98) G RR (c_X7_becomes hL  h) mw_X7_becomes lk_X7_154 (hL.sh rfl) (by decide) rfl rfl ⟨(Nat.le_of_ble_eq_true rfl), (Nat.le_of_ble_eq_true rfl)⟩ ⟨(Nat.le_of_ble_eq_true rfl), (Nat.le_of_ble_eq_true rfl)⟩ (Nat.le_of_ble_eq_true rfl) rfl dX7_pour_98 (sv_kI (fun r_4 g_3 h => ?_))
  refine sv_iload (pc := 101) G dX7_pour_101 0 rfl ?_
  refine sv_ic_ne (pc := 103) G 110 (by decide) dX7_pour_103 (fun c_5 => ?_) (fun c_5 => ?_)
  · have h := h.2 c_5
    refine sv_iconst (pc := 110) G dX7_pour_110 1 ic_1 ?_
    refine sv_locs [1, 2, 4] [(0, .ref (b + 58)), (1, .int v1), (3, .int v3)] rfl ?_
    exact aw_X7_pour_111 G RR T hL  hK26 v1 v3 1 v2 g_3  h
  · have h := h.1 c_5
    refine sv_iconst (pc := 106) G dX7_pour_106 0 ic_0 ?_
    refine sv_goto (pc := 107) G dX7_pour_107 111 (by decide) ?_
    refine sv_locs [1, 2, 4] [(0, .ref (b + 58)), (1, .int v1), (3, .int v3)] rfl ?_
    exact aw_X7_pour_111 G RR T hL  hK26 v1 v3 0 v2 g_3  h
set_option maxRecDepth 100000 in
set_option maxHeartbeats 4000000 in
theorem aw_X7_pour_26 {x : sv_X} {b : Nat} {xt : sv_Xt} {F : sv_Fr} {Q : Int32 → sv_Mg → Prop} (G : sv_G x b xt RX7 cX7_pour 6) (RR : sv_R x 2 42 0 0) (T : sv_RT x (some .int)) (hL : sv_Lay F) : ∀ (n : Nat) (v1 : Int32) (v2 : Int32) (v3 : Int32) (g : sv_Mg), wp_X7_pour_26 F Q  n v1 v2 v3 g → sv_AW x (sv_Q x (sv_qI F Q) 0 0) F g 0 0 26 [(0, .ref (b + 58)), (1, .int v1), (2, .int v2), (3, .int v3)] [] := by
  intro n
  induction n with
  | zero => intro v1 v2 v3 g h; exact h.elim
  | succ n ih =>
    intro v1 v2 v3 g h
    rw [wp_X7_pour_26] at h
    refine sv_iload_n (pc := 26) G dX7_pour_26 3 rfl ?_
    refine sv_aload_n (pc := 27) G dX7_pour_27 0 rfl ?_
    refine sv_getR (pc := 28) G fw_X7_57 (hL.sh rfl) rfl (hL.rf 75 rfl) dX7_pour_28 ?_
    refine sv_iload_n (pc := 31) G dX7_pour_31 1 rfl ?_
    obtain ⟨s_6, h⟩ := h
    refine sv_ialdK (pc := 32) G (hL.sh rfl) s_6 v1.toNatClampNeg rfl dX7_pour_32 ?_
    refine sv_ic_ge (pc := 33) G 119 (by decide) dX7_pour_33 (fun c_7 => ?_) (fun c_7 => ?_)
    · have h := h.1 c_7
      refine sv_iload_n (pc := 119) G dX7_pour_119 2 rfl ?_
      exact sv_ireturn (pc := 120) G T ⟨(Nat.le_of_ble_eq_true rfl), (Nat.le_of_ble_eq_true rfl)⟩ dX7_pour_120 ⟨_, rfl, rfl, h⟩
    · have h := h.2 c_7
      refine sv_iload_n (pc := 36) G dX7_pour_36 3 rfl ?_
      refine sv_aload_n (pc := 37) G dX7_pour_37 0 rfl ?_
      refine sv_getR (pc := 38) G fw_X7_9 (hL.sh rfl) rfl (hL.rf 60 rfl) dX7_pour_38 ?_
      refine sv_iconst (pc := 41) G dX7_pour_41 1 ic_1 ?_
      refine sv_ialdK (pc := 42) G (hL.sh rfl) vi_1_1443 1 tn_1 dX7_pour_42 ?_
      refine sv_ic_ge (pc := 43) G 119 (by decide) dX7_pour_43 (fun c_8 => ?_) (fun c_8 => ?_)
      · have h := h.1 c_8
        refine sv_iload_n (pc := 119) G dX7_pour_119 2 rfl ?_
        exact sv_ireturn (pc := 120) G T ⟨(Nat.le_of_ble_eq_true rfl), (Nat.le_of_ble_eq_true rfl)⟩ dX7_pour_120 ⟨_, rfl, rfl, h⟩
      · have h := h.2 c_8
        refine sv_aload_n (pc := 46) G dX7_pour_46 0 rfl ?_
        refine sv_getR (pc := 47) G fw_X7_60 (hL.sh rfl) rfl (hL.rf 76 rfl) dX7_pour_47 ?_
        refine sv_bipush (pc := 50) G dX7_pour_50 24 bp_24 ?_
        refine sv_iload_n (pc := 52) G dX7_pour_52 1 rfl ?_
        refine sv_imul (pc := 53) G dX7_pour_53 ?_
        refine sv_iload_n (pc := 54) G dX7_pour_54 3 rfl ?_
        refine sv_iadd (pc := 55) G dX7_pour_55 ?_
        obtain ⟨s_9, h⟩ := h
        refine sv_ialdK (pc := 56) G (hL.sh rfl) s_9 ((24 * v1) + v3).toNatClampNeg rfl dX7_pour_56 ?_
        refine sv_topi (fun v4_10 ev4_10 => ?_)
        have h := h v4_10 ev4_10
        refine sv_istore (pc := 57) G dX7_pour_57 [(4, .int v4_10), (0, .ref (b + 58)), (1, .int v1), (2, .int v2), (3, .int v3)] (by decide) rfl ?_
        refine sv_iload (pc := 59) G dX7_pour_59 0 rfl ?_
        refine sv_ldc (pc := 61) G dX7_pour_61 cn_X7_81 ?_
        refine sv_ic_ne (pc := 63) G 75 (by decide) dX7_pour_63 (fun c_11 => ?_) (fun c_11 => ?_)
        · have h := h.2 c_11
          refine sv_iload (pc := 75) G dX7_pour_75 0 rfl ?_
          refine sv_iconst (pc := 77) G dX7_pour_77 0 ic_0 ?_
          refine sv_bipush (pc := 78) G dX7_pour_78 9 bp_9 ?_
          refine sv_callS (cs := 0) (sl := 0) (st := []) (As := [.int v4_10, .int 0, .int 9]) (pc := 80) G RR (c_X7_within hL  h) mw_X7_within lk_X7_126 rfl ⟨(Nat.le_of_ble_eq_true rfl), (Nat.le_of_ble_eq_true rfl)⟩ ⟨(Nat.le_of_ble_eq_true rfl), (Nat.le_of_ble_eq_true rfl)⟩ (Nat.le_of_ble_eq_true rfl) rfl dX7_pour_80 (sv_kI (fun r_13 g_12 h => ?_))
          refine sv_locs [1, 2, 3, 4] [(0, .ref (b + 58)), (1, .int v1), (2, .int v2), (3, .int v3)] rfl ?_
          exact aw_X7_pour_83 G RR T hL  ih v1 v2 v3 r_13 g_12  h
        · have h := h.1 c_11
          refine sv_aload_n (pc := 66) G dX7_pour_66 1 rfl ?_
          refine sv_iload_n (pc := 67) G dX7_pour_67 4 rfl ?_
          refine sv_iconst (pc := 68) G dX7_pour_68 4 ic_4 ?_
          refine sv_callV (cs := 0) (sl := 0) (st := []) (As := [.int v3, .int 4]) (a := 58) (pc := 69) G RR (c_X7_of hL  h) mw_X7_of lk_X7_96 (hL.sh rfl) (by decide) rfl rfl ⟨(Nat.le_of_ble_eq_true rfl), (Nat.le_of_ble_eq_true rfl)⟩ ⟨(Nat.le_of_ble_eq_true rfl), (Nat.le_of_ble_eq_true rfl)⟩ (Nat.le_of_ble_eq_true rfl) rfl dX7_pour_69 (sv_kI (fun r_15 g_14 h => ?_))
          refine sv_goto (pc := 72) G dX7_pour_72 83 (by decide) ?_
          refine sv_locs [1, 2, 3, 4] [(0, .ref (b + 58)), (1, .int v1), (2, .int v2), (3, .int v3)] rfl ?_
          exact aw_X7_pour_83 G RR T hL  ih v1 v2 v3 r_15 g_14  h
set_option maxRecDepth 100000 in
set_option maxHeartbeats 4000000 in
theorem c_X7_pour {b : Nat} {xt : sv_Xt} {F : sv_Fr} {v1 : Int32} {g : sv_Mg} {Q : Int32 → sv_Mg → Prop} (hL : sv_Lay F) (h : wp_X7_pour F v1 g Q) : sv_Cal yX7_pour cX7_pour 6 (some .int) 2 42 0 0 b xt [.ref (b + 58), .int v1] F g (sv_qI F Q) := by
  refine sv_intro mw_X7_pour [(0, .ref (b + 58)), (1, .int v1)] rfl (Nat.le_of_ble_eq_true rfl) (fun x G RR T NM => ?_)
  have G : sv_G x b xt RX7 cX7_pour 6 := G
  unfold wp_X7_pour at h
  refine sv_iload_n (pc := 0) G dX7_pour_0 1 rfl ?_
  refine sv_callS (cs := 0) (sl := 0) (st := []) (As := [.int v1]) (pc := 1) G RR (c_X7_isSheet hL  h) mw_X7_isSheet lk_X7_189 rfl ⟨(Nat.le_of_ble_eq_true rfl), (Nat.le_of_ble_eq_true rfl)⟩ ⟨(Nat.le_of_ble_eq_true rfl), (Nat.le_of_ble_eq_true rfl)⟩ (Nat.le_of_ble_eq_true rfl) rfl dX7_pour_1 (sv_kI (fun r_17 g_16 h => ?_))
  refine sv_if_ne (pc := 4) G 10 (by decide) dX7_pour_4 (fun c_18 => ?_) (fun c_18 => ?_)
  · have h := h.2 c_18
    refine sv_aload_n (pc := 10) G dX7_pour_10 0 rfl ?_
    refine sv_getR (pc := 11) G fw_X7_54 (hL.sh rfl) rfl (hL.rf 74 rfl) dX7_pour_11 ?_
    refine sv_iload_n (pc := 14) G dX7_pour_14 1 rfl ?_
    obtain ⟨s_19, h⟩ := h
    refine sv_ialdK (pc := 15) G (hL.sh rfl) s_19 v1.toNatClampNeg rfl dX7_pour_15 ?_
    refine sv_if_ge (pc := 16) G 22 (by decide) dX7_pour_16 (fun c_20 => ?_) (fun c_20 => ?_)
    · have h := h.1 c_20
      refine sv_iconst (pc := 22) G dX7_pour_22 0 ic_0 ?_
      refine sv_istore_n (pc := 23) G dX7_pour_23 [(2, .int 0), (0, .ref (b + 58)), (1, .int v1)] (by decide) rfl ?_
      refine sv_iconst (pc := 24) G dX7_pour_24 0 ic_0 ?_
      refine sv_istore_n (pc := 25) G dX7_pour_25 [(3, .int 0), (2, .int 0), (0, .ref (b + 58)), (1, .int v1)] (by decide) rfl ?_
      refine sv_locs [2, 3, 1, 0] [(0, .ref (b + 58)), (1, .int v1), (2, .int 0), (3, .int 0)] rfl ?_
      obtain ⟨n_21, h⟩ := h
      exact aw_X7_pour_26 G RR T hL   n_21 v1 0 0 g_16  h
    · have h := h.2 c_20
      refine sv_ldc (pc := 19) G dX7_pour_19 cn_X7_192 ?_
      exact sv_ireturn (pc := 21) G T ⟨(Nat.le_of_ble_eq_true rfl), (Nat.le_of_ble_eq_true rfl)⟩ dX7_pour_21 ⟨_, rfl, rfl, h⟩
  · have h := h.1 c_18
    refine sv_ldc (pc := 7) G dX7_pour_7 cn_X7_90 ?_
    exact sv_ireturn (pc := 9) G T ⟨(Nat.le_of_ble_eq_true rfl), (Nat.le_of_ble_eq_true rfl)⟩ dX7_pour_9 ⟨_, rfl, rfl, h⟩
def wp_X7_reads_71 (F : sv_Fr) (Q : Int32 → sv_Mg → Prop) (K24 : Int32 → Int32 → sv_Mg → Prop) (v1 : Int32) (v2 : Int32) (g : sv_Mg) : Prop := ∀ v2_1 : Int32, v2_1 = v2 + 1 → K24 v1 v2_1 g
def wp_X7_reads_24 (F : sv_Fr) (Q : Int32 → sv_Mg → Prop) : Nat → Int32 → Int32 → sv_Mg → Prop
  | 0, _, _, _ => False
  | n + 1, v1, v2, g => vp_in v1 4 ∧ (((g 74 v1.toNatClampNeg) ≤ v2 → Q (-1000000005) g) ∧ (¬ (g 74 v1.toNatClampNeg) ≤ v2 → vp_in ((24 * v1) + v2) 96 ∧ ∀ v3_5 : Int32, v3_5 = (g 75 ((24 * v1) + v2).toNatClampNeg) → ((v3_5 = (-1000000005) → wp_X7_reads_71 F  Q (wp_X7_reads_24 F Q  n) v1 v2 g) ∧ (¬ v3_5 = (-1000000005) → wp_X7_isVoter F v2 g (fun r_8 g_7 => ((r_8 = 0 → Q v2 g_7) ∧ (¬ r_8 = 0 → wp_X7_has F v2 g_7 (fun r_11 g_10 => ((v3_5 = r_11 → wp_X7_reads_71 F  Q (wp_X7_reads_24 F Q  n) v1 v2 g_10) ∧ (¬ v3_5 = r_11 → Q v2 g_10))))))))))
def wp_X7_reads (F : sv_Fr) (v1 : Int32) (g : sv_Mg) (Q : Int32 → sv_Mg → Prop) : Prop := wp_X7_isSheet F v1 g (fun r_14 g_13 => ((r_14 = 0 → Q (-1000000001) g_13) ∧ (¬ r_14 = 0 → vp_in v1 4 ∧ ((0 ≤ (g_13 73 v1.toNatClampNeg) → ∃ n_18, wp_X7_reads_24 F  Q  n_18 v1 0 g_13) ∧ (¬ 0 ≤ (g_13 73 v1.toNatClampNeg) → Q (-1000000011) g_13)))))
set_option maxRecDepth 100000 in
set_option maxHeartbeats 4000000 in
theorem aw_X7_reads_71 {x : sv_X} {b : Nat} {xt : sv_Xt} {F : sv_Fr} {Q : Int32 → sv_Mg → Prop} (G : sv_G x b xt RX7 cX7_reads 4) (RR : sv_R x 3 66 0 0) (T : sv_RT x (some .int)) (hL : sv_Lay F) {K24 : Int32 → Int32 → sv_Mg → Prop} (hK24 : ∀ (v1 : Int32) (v2 : Int32) (g : sv_Mg), K24 v1 v2 g → sv_AW x (sv_Q x (sv_qI F Q) 0 0) F g 0 0 24 [(0, .ref (b + 58)), (1, .int v1), (2, .int v2)] []) : ∀ (v1 : Int32) (v2 : Int32) (g : sv_Mg), wp_X7_reads_71 F Q K24 v1 v2 g → sv_AW x (sv_Q x (sv_qI F Q) 0 0) F g 0 0 71 [(0, .ref (b + 58)), (1, .int v1), (2, .int v2)] [] := by
  intro v1 v2 g h
  unfold wp_X7_reads_71 at h
  obtain ⟨v2_1, ev2_1⟩ : ∃ y : Int32, y = v2 + 1 := ⟨_, rfl⟩
  have h := h v2_1 ev2_1
  refine sv_iinc (pc := 71) G dX7_reads_71 2 v2_1 [(2, .int v2_1), (0, .ref (b + 58)), (1, .int v1)] (by rw [ev2_1, ic_1]) rfl (by decide) rfl ?_
  refine sv_goto (pc := 74) G dX7_reads_74 24 (by decide) ?_
  refine sv_locs [1, 2, 0] [(0, .ref (b + 58)), (1, .int v1), (2, .int v2_1)] rfl ?_
  exact hK24 v1 v2_1 g  h
set_option maxRecDepth 100000 in
set_option maxHeartbeats 4000000 in
theorem aw_X7_reads_24 {x : sv_X} {b : Nat} {xt : sv_Xt} {F : sv_Fr} {Q : Int32 → sv_Mg → Prop} (G : sv_G x b xt RX7 cX7_reads 4) (RR : sv_R x 3 66 0 0) (T : sv_RT x (some .int)) (hL : sv_Lay F) : ∀ (n : Nat) (v1 : Int32) (v2 : Int32) (g : sv_Mg), wp_X7_reads_24 F Q  n v1 v2 g → sv_AW x (sv_Q x (sv_qI F Q) 0 0) F g 0 0 24 [(0, .ref (b + 58)), (1, .int v1), (2, .int v2)] [] := by
  intro n
  induction n with
  | zero => intro v1 v2 g h; exact h.elim
  | succ n ih =>
    intro v1 v2 g h
    rw [wp_X7_reads_24] at h
    refine sv_iload_n (pc := 24) G dX7_reads_24 2 rfl ?_
    refine sv_aload_n (pc := 25) G dX7_reads_25 0 rfl ?_
    refine sv_getR (pc := 26) G fw_X7_57 (hL.sh rfl) rfl (hL.rf 75 rfl) dX7_reads_26 ?_
    refine sv_iload_n (pc := 29) G dX7_reads_29 1 rfl ?_
    obtain ⟨s_2, h⟩ := h
    refine sv_ialdK (pc := 30) G (hL.sh rfl) s_2 v1.toNatClampNeg rfl dX7_reads_30 ?_
    refine sv_ic_ge (pc := 31) G 77 (by decide) dX7_reads_31 (fun c_3 => ?_) (fun c_3 => ?_)
    · have h := h.1 c_3
      refine sv_ldc (pc := 77) G dX7_reads_77 cn_X7_81 ?_
      exact sv_ireturn (pc := 79) G T ⟨(Nat.le_of_ble_eq_true rfl), (Nat.le_of_ble_eq_true rfl)⟩ dX7_reads_79 ⟨_, rfl, rfl, h⟩
    · have h := h.2 c_3
      refine sv_aload_n (pc := 34) G dX7_reads_34 0 rfl ?_
      refine sv_getR (pc := 35) G fw_X7_60 (hL.sh rfl) rfl (hL.rf 76 rfl) dX7_reads_35 ?_
      refine sv_bipush (pc := 38) G dX7_reads_38 24 bp_24 ?_
      refine sv_iload_n (pc := 40) G dX7_reads_40 1 rfl ?_
      refine sv_imul (pc := 41) G dX7_reads_41 ?_
      refine sv_iload_n (pc := 42) G dX7_reads_42 2 rfl ?_
      refine sv_iadd (pc := 43) G dX7_reads_43 ?_
      obtain ⟨s_4, h⟩ := h
      refine sv_ialdK (pc := 44) G (hL.sh rfl) s_4 ((24 * v1) + v2).toNatClampNeg rfl dX7_reads_44 ?_
      refine sv_topi (fun v3_5 ev3_5 => ?_)
      have h := h v3_5 ev3_5
      refine sv_istore_n (pc := 45) G dX7_reads_45 [(3, .int v3_5), (0, .ref (b + 58)), (1, .int v1), (2, .int v2)] (by decide) rfl ?_
      refine sv_iload_n (pc := 46) G dX7_reads_46 0 rfl ?_
      refine sv_ldc (pc := 47) G dX7_reads_47 cn_X7_81 ?_
      refine sv_ic_eq (pc := 49) G 71 (by decide) dX7_reads_49 (fun c_6 => ?_) (fun c_6 => ?_)
      · have h := h.1 c_6
        refine sv_locs [1, 2, 3] [(0, .ref (b + 58)), (1, .int v1), (2, .int v2)] rfl ?_
        exact aw_X7_reads_71 G RR T hL  ih v1 v2 g  h
      · have h := h.2 c_6
        refine sv_aload_n (pc := 52) G dX7_reads_52 1 rfl ?_
        refine sv_iload_n (pc := 53) G dX7_reads_53 3 rfl ?_
        refine sv_callV (cs := 0) (sl := 0) (st := []) (As := [.int v2]) (a := 58) (pc := 54) G RR (c_X7_isVoter hL  h) mw_X7_isVoter lk_X7_139 (hL.sh rfl) (by decide) rfl rfl ⟨(Nat.le_of_ble_eq_true rfl), (Nat.le_of_ble_eq_true rfl)⟩ ⟨(Nat.le_of_ble_eq_true rfl), (Nat.le_of_ble_eq_true rfl)⟩ (Nat.le_of_ble_eq_true rfl) rfl dX7_reads_54 (sv_kI (fun r_8 g_7 h => ?_))
        refine sv_if_eq (pc := 57) G 69 (by decide) dX7_reads_57 (fun c_9 => ?_) (fun c_9 => ?_)
        · have h := h.1 c_9
          refine sv_iload_n (pc := 69) G dX7_reads_69 3 rfl ?_
          exact sv_ireturn (pc := 70) G T ⟨(Nat.le_of_ble_eq_true rfl), (Nat.le_of_ble_eq_true rfl)⟩ dX7_reads_70 ⟨_, rfl, rfl, h⟩
        · have h := h.2 c_9
          refine sv_iload_n (pc := 60) G dX7_reads_60 0 rfl ?_
          refine sv_aload_n (pc := 61) G dX7_reads_61 1 rfl ?_
          refine sv_iload_n (pc := 62) G dX7_reads_62 3 rfl ?_
          refine sv_callV (cs := 0) (sl := 0) (st := [.int v3_5]) (As := [.int v2]) (a := 58) (pc := 63) G RR (c_X7_has hL  h) mw_X7_has lk_X7_104 (hL.sh rfl) (by decide) rfl rfl ⟨(Nat.le_of_ble_eq_true rfl), (Nat.le_of_ble_eq_true rfl)⟩ ⟨(Nat.le_of_ble_eq_true rfl), (Nat.le_of_ble_eq_true rfl)⟩ (Nat.le_of_ble_eq_true rfl) rfl dX7_reads_63 (sv_kI (fun r_11 g_10 h => ?_))
          refine sv_ic_eq (pc := 66) G 71 (by decide) dX7_reads_66 (fun c_12 => ?_) (fun c_12 => ?_)
          · have h := h.1 c_12
            refine sv_locs [1, 2, 3] [(0, .ref (b + 58)), (1, .int v1), (2, .int v2)] rfl ?_
            exact aw_X7_reads_71 G RR T hL  ih v1 v2 g_10  h
          · have h := h.2 c_12
            refine sv_iload_n (pc := 69) G dX7_reads_69 3 rfl ?_
            exact sv_ireturn (pc := 70) G T ⟨(Nat.le_of_ble_eq_true rfl), (Nat.le_of_ble_eq_true rfl)⟩ dX7_reads_70 ⟨_, rfl, rfl, h⟩
set_option maxRecDepth 100000 in
set_option maxHeartbeats 4000000 in
theorem c_X7_reads {b : Nat} {xt : sv_Xt} {F : sv_Fr} {v1 : Int32} {g : sv_Mg} {Q : Int32 → sv_Mg → Prop} (hL : sv_Lay F) (h : wp_X7_reads F v1 g Q) : sv_Cal yX7_reads cX7_reads 4 (some .int) 3 66 0 0 b xt [.ref (b + 58), .int v1] F g (sv_qI F Q) := by
  refine sv_intro mw_X7_reads [(0, .ref (b + 58)), (1, .int v1)] rfl (Nat.le_of_ble_eq_true rfl) (fun x G RR T NM => ?_)
  have G : sv_G x b xt RX7 cX7_reads 4 := G
  unfold wp_X7_reads at h
  refine sv_iload_n (pc := 0) G dX7_reads_0 1 rfl ?_
  refine sv_callS (cs := 0) (sl := 0) (st := []) (As := [.int v1]) (pc := 1) G RR (c_X7_isSheet hL  h) mw_X7_isSheet lk_X7_189 rfl ⟨(Nat.le_of_ble_eq_true rfl), (Nat.le_of_ble_eq_true rfl)⟩ ⟨(Nat.le_of_ble_eq_true rfl), (Nat.le_of_ble_eq_true rfl)⟩ (Nat.le_of_ble_eq_true rfl) rfl dX7_reads_1 (sv_kI (fun r_14 g_13 h => ?_))
  refine sv_if_ne (pc := 4) G 10 (by decide) dX7_reads_4 (fun c_15 => ?_) (fun c_15 => ?_)
  · have h := h.2 c_15
    refine sv_aload_n (pc := 10) G dX7_reads_10 0 rfl ?_
    refine sv_getR (pc := 11) G fw_X7_54 (hL.sh rfl) rfl (hL.rf 74 rfl) dX7_reads_11 ?_
    refine sv_iload_n (pc := 14) G dX7_reads_14 1 rfl ?_
    obtain ⟨s_16, h⟩ := h
    refine sv_ialdK (pc := 15) G (hL.sh rfl) s_16 v1.toNatClampNeg rfl dX7_reads_15 ?_
    refine sv_if_ge (pc := 16) G 22 (by decide) dX7_reads_16 (fun c_17 => ?_) (fun c_17 => ?_)
    · have h := h.1 c_17
      refine sv_iconst (pc := 22) G dX7_reads_22 0 ic_0 ?_
      refine sv_istore_n (pc := 23) G dX7_reads_23 [(2, .int 0), (0, .ref (b + 58)), (1, .int v1)] (by decide) rfl ?_
      refine sv_locs [1, 2, 0] [(0, .ref (b + 58)), (1, .int v1), (2, .int 0)] rfl ?_
      obtain ⟨n_18, h⟩ := h
      exact aw_X7_reads_24 G RR T hL   n_18 v1 0 g_13  h
    · have h := h.2 c_17
      refine sv_ldc (pc := 19) G dX7_reads_19 cn_X7_192 ?_
      exact sv_ireturn (pc := 21) G T ⟨(Nat.le_of_ble_eq_true rfl), (Nat.le_of_ble_eq_true rfl)⟩ dX7_reads_21 ⟨_, rfl, rfl, h⟩
  · have h := h.1 c_15
    refine sv_ldc (pc := 7) G dX7_reads_7 cn_X7_90 ?_
    exact sv_ireturn (pc := 9) G T ⟨(Nat.le_of_ble_eq_true rfl), (Nat.le_of_ble_eq_true rfl)⟩ dX7_reads_9 ⟨_, rfl, rfl, h⟩
def wp_X7_copy_141 (F : sv_Fr) (Q : Int32 → sv_Mg → Prop) : Nat → Int32 → Int32 → Int32 → Int32 → sv_Mg → Prop
  | 0, _, _, _, _, _ => False
  | n + 1, v3, v4, v5, v6, g => ((v5 ≤ v6 → Q v5 g) ∧ (¬ v5 ≤ v6 → vp_in v6 24 ∧ vp_in (((24 * v3) + v4) + v6) 96 ∧ ∀ g_4, g_4 = sv_st g 75 (((24 * v3) + v4) + v6).toNatClampNeg (g 80 v6.toNatClampNeg) → ∀ v6_5 : Int32, v6_5 = v6 + 1 → (wp_X7_copy_141 F Q  n) v3 v4 v5 v6_5 g_4))
def wp_X7_copy_104 (F : sv_Fr) (Q : Int32 → sv_Mg → Prop) : Nat → Int32 → Int32 → Int32 → Int32 → Int32 → Int32 → sv_Mg → Prop
  | 0, _, _, _, _, _, _, _ => False
  | n + 1, v1, v2, v3, v4, v5, v6, g => ((v5 ≤ v6 → ∃ n_7, wp_X7_copy_141 F  Q  n_7 v3 v4 v5 0 g) ∧ (¬ v5 ≤ v6 → vp_in (((24 * v1) + v2) + v6) 96 ∧ vp_in v6 24 ∧ ∀ g_10, g_10 = sv_st g 80 v6.toNatClampNeg (g 75 (((24 * v1) + v2) + v6).toNatClampNeg) → ∀ v6_11 : Int32, v6_11 = v6 + 1 → (wp_X7_copy_104 F Q  n) v1 v2 v3 v4 v5 v6_11 g_10))
def wp_X7_copy (F : sv_Fr) (v1 : Int32) (v2 : Int32) (v3 : Int32) (v4 : Int32) (v5 : Int32) (g : sv_Mg) (Q : Int32 → sv_Mg → Prop) : Prop := wp_X7_isSheet F v1 g (fun r_13 g_12 => ((r_13 = 0 → Q (-1000000001) g_12) ∧ (¬ r_13 = 0 → wp_X7_isSheet F v3 g_12 (fun r_16 g_15 => ((r_16 = 0 → Q (-1000000001) g_15) ∧ (¬ r_16 = 0 → vp_in v1 4 ∧ (((g_15 73 v1.toNatClampNeg) < 0 → Q (-1000000011) g_15) ∧ (¬ (g_15 73 v1.toNatClampNeg) < 0 → vp_in v3 4 ∧ ((0 ≤ (g_15 73 v3.toNatClampNeg) → vp_in v1 4 ∧ vp_in v3 4 ∧ (((g_15 73 v1.toNatClampNeg) = (g_15 73 v3.toNatClampNeg) → ((v2 < 0 → Q (-1000000013) g_15) ∧ (¬ v2 < 0 → ((v4 < 0 → Q (-1000000013) g_15) ∧ (¬ v4 < 0 → ((v5 < 0 → Q (-1000000013) g_15) ∧ (¬ v5 < 0 → vp_in v1 4 ∧ ((((g_15 74 v1.toNatClampNeg) - v5) < v2 → Q (-1000000013) g_15) ∧ (¬ ((g_15 74 v1.toNatClampNeg) - v5) < v2 → vp_in v3 4 ∧ ((v4 ≤ ((g_15 74 v3.toNatClampNeg) - v5) → ∃ n_32, wp_X7_copy_104 F  Q  n_32 v1 v2 v3 v4 v5 0 g_15) ∧ (¬ v4 ≤ ((g_15 74 v3.toNatClampNeg) - v5) → Q (-1000000013) g_15))))))))))) ∧ (¬ (g_15 73 v1.toNatClampNeg) = (g_15 73 v3.toNatClampNeg) → Q (-1000000012) g_15))) ∧ (¬ 0 ≤ (g_15 73 v3.toNatClampNeg) → Q (-1000000011) g_15))))))))))
set_option maxRecDepth 100000 in
set_option maxHeartbeats 4000000 in
theorem aw_X7_copy_141 {x : sv_X} {b : Nat} {xt : sv_Xt} {F : sv_Fr} {Q : Int32 → sv_Mg → Prop} (G : sv_G x b xt RX7 cX7_copy 7) (RR : sv_R x 2 42 0 0) (T : sv_RT x (some .int)) (hL : sv_Lay F) : ∀ (n : Nat) (v3 : Int32) (v4 : Int32) (v5 : Int32) (v6 : Int32) (g : sv_Mg), wp_X7_copy_141 F Q  n v3 v4 v5 v6 g → sv_AW x (sv_Q x (sv_qI F Q) 0 0) F g 0 0 141 [(0, .ref (b + 58)), (3, .int v3), (4, .int v4), (5, .int v5), (6, .int v6)] [] := by
  intro n
  induction n with
  | zero => intro v3 v4 v5 v6 g h; exact h.elim
  | succ n ih =>
    intro v3 v4 v5 v6 g h
    rw [wp_X7_copy_141] at h
    refine sv_iload (pc := 141) G dX7_copy_141 4 rfl ?_
    refine sv_iload (pc := 143) G dX7_copy_143 3 rfl ?_
    refine sv_ic_ge (pc := 145) G 176 (by decide) dX7_copy_145 (fun c_1 => ?_) (fun c_1 => ?_)
    · have h := h.1 c_1
      refine sv_iload (pc := 176) G dX7_copy_176 3 rfl ?_
      exact sv_ireturn (pc := 178) G T ⟨(Nat.le_of_ble_eq_true rfl), (Nat.le_of_ble_eq_true rfl)⟩ dX7_copy_178 ⟨_, rfl, rfl, h⟩
    · have h := h.2 c_1
      refine sv_aload_n (pc := 148) G dX7_copy_148 0 rfl ?_
      refine sv_getR (pc := 149) G fw_X7_60 (hL.sh rfl) rfl (hL.rf 76 rfl) dX7_copy_149 ?_
      refine sv_bipush (pc := 152) G dX7_copy_152 24 bp_24 ?_
      refine sv_iload_n (pc := 154) G dX7_copy_154 1 rfl ?_
      refine sv_imul (pc := 155) G dX7_copy_155 ?_
      refine sv_iload (pc := 156) G dX7_copy_156 2 rfl ?_
      refine sv_iadd (pc := 158) G dX7_copy_158 ?_
      refine sv_iload (pc := 159) G dX7_copy_159 4 rfl ?_
      refine sv_iadd (pc := 161) G dX7_copy_161 ?_
      refine sv_aload_n (pc := 162) G dX7_copy_162 0 rfl ?_
      refine sv_getR (pc := 163) G fw_X7_75 (hL.sh rfl) rfl (hL.rf 81 rfl) dX7_copy_163 ?_
      refine sv_iload (pc := 166) G dX7_copy_166 4 rfl ?_
      obtain ⟨s_2, h⟩ := h
      refine sv_ialdK (pc := 168) G (hL.sh rfl) s_2 v6.toNatClampNeg rfl dX7_copy_168 ?_
      obtain ⟨s_3, h⟩ := h
      refine sv_iastK (pc := 169) G (hL.sh rfl) s_3 (((24 * v3) + v4) + v6).toNatClampNeg rfl dX7_copy_169 (fun g_4 eg_4 => ?_)
      have h := h g_4 eg_4
      obtain ⟨v6_5, ev6_5⟩ : ∃ y : Int32, y = v6 + 1 := ⟨_, rfl⟩
      have h := h v6_5 ev6_5
      refine sv_iinc (pc := 170) G dX7_copy_170 4 v6_5 [(6, .int v6_5), (0, .ref (b + 58)), (3, .int v3), (4, .int v4), (5, .int v5)] (by rw [ev6_5, ic_1]) rfl (by decide) rfl ?_
      refine sv_goto (pc := 173) G dX7_copy_173 141 (by decide) ?_
      refine sv_locs [1, 2, 3, 4, 0] [(0, .ref (b + 58)), (3, .int v3), (4, .int v4), (5, .int v5), (6, .int v6_5)] rfl ?_
      exact ih v3 v4 v5 v6_5 g_4  h
set_option maxRecDepth 100000 in
set_option maxHeartbeats 4000000 in
theorem aw_X7_copy_104 {x : sv_X} {b : Nat} {xt : sv_Xt} {F : sv_Fr} {Q : Int32 → sv_Mg → Prop} (G : sv_G x b xt RX7 cX7_copy 7) (RR : sv_R x 2 42 0 0) (T : sv_RT x (some .int)) (hL : sv_Lay F) : ∀ (n : Nat) (v1 : Int32) (v2 : Int32) (v3 : Int32) (v4 : Int32) (v5 : Int32) (v6 : Int32) (g : sv_Mg), wp_X7_copy_104 F Q  n v1 v2 v3 v4 v5 v6 g → sv_AW x (sv_Q x (sv_qI F Q) 0 0) F g 0 0 104 [(0, .ref (b + 58)), (1, .int v1), (2, .int v2), (3, .int v3), (4, .int v4), (5, .int v5), (6, .int v6)] [] := by
  intro n
  induction n with
  | zero => intro v1 v2 v3 v4 v5 v6 g h; exact h.elim
  | succ n ih =>
    intro v1 v2 v3 v4 v5 v6 g h
    rw [wp_X7_copy_104] at h
    refine sv_iload (pc := 104) G dX7_copy_104 6 rfl ?_
    refine sv_iload (pc := 106) G dX7_copy_106 5 rfl ?_
    refine sv_ic_ge (pc := 108) G 138 (by decide) dX7_copy_108 (fun c_6 => ?_) (fun c_6 => ?_)
    · have h := h.1 c_6
      refine sv_iconst (pc := 138) G dX7_copy_138 0 ic_0 ?_
      refine sv_istore (pc := 139) G dX7_copy_139 [(6, .int 0), (0, .ref (b + 58)), (1, .int v1), (2, .int v2), (3, .int v3), (4, .int v4), (5, .int v5)] (by decide) rfl ?_
      refine sv_locs [1, 4, 5, 6, 0] [(0, .ref (b + 58)), (3, .int v3), (4, .int v4), (5, .int v5), (6, .int 0)] rfl ?_
      obtain ⟨n_7, h⟩ := h
      exact aw_X7_copy_141 G RR T hL   n_7 v3 v4 v5 0 g  h
    · have h := h.2 c_6
      refine sv_aload_n (pc := 111) G dX7_copy_111 0 rfl ?_
      refine sv_getR (pc := 112) G fw_X7_75 (hL.sh rfl) rfl (hL.rf 81 rfl) dX7_copy_112 ?_
      refine sv_iload (pc := 115) G dX7_copy_115 6 rfl ?_
      refine sv_aload_n (pc := 117) G dX7_copy_117 0 rfl ?_
      refine sv_getR (pc := 118) G fw_X7_60 (hL.sh rfl) rfl (hL.rf 76 rfl) dX7_copy_118 ?_
      refine sv_bipush (pc := 121) G dX7_copy_121 24 bp_24 ?_
      refine sv_iload_n (pc := 123) G dX7_copy_123 1 rfl ?_
      refine sv_imul (pc := 124) G dX7_copy_124 ?_
      refine sv_iload_n (pc := 125) G dX7_copy_125 2 rfl ?_
      refine sv_iadd (pc := 126) G dX7_copy_126 ?_
      refine sv_iload (pc := 127) G dX7_copy_127 6 rfl ?_
      refine sv_iadd (pc := 129) G dX7_copy_129 ?_
      obtain ⟨s_8, h⟩ := h
      refine sv_ialdK (pc := 130) G (hL.sh rfl) s_8 (((24 * v1) + v2) + v6).toNatClampNeg rfl dX7_copy_130 ?_
      obtain ⟨s_9, h⟩ := h
      refine sv_iastK (pc := 131) G (hL.sh rfl) s_9 v6.toNatClampNeg rfl dX7_copy_131 (fun g_10 eg_10 => ?_)
      have h := h g_10 eg_10
      obtain ⟨v6_11, ev6_11⟩ : ∃ y : Int32, y = v6 + 1 := ⟨_, rfl⟩
      have h := h v6_11 ev6_11
      refine sv_iinc (pc := 132) G dX7_copy_132 6 v6_11 [(6, .int v6_11), (0, .ref (b + 58)), (1, .int v1), (2, .int v2), (3, .int v3), (4, .int v4), (5, .int v5)] (by rw [ev6_11, ic_1]) rfl (by decide) rfl ?_
      refine sv_goto (pc := 135) G dX7_copy_135 104 (by decide) ?_
      refine sv_locs [1, 2, 3, 4, 5, 6, 0] [(0, .ref (b + 58)), (1, .int v1), (2, .int v2), (3, .int v3), (4, .int v4), (5, .int v5), (6, .int v6_11)] rfl ?_
      exact ih v1 v2 v3 v4 v5 v6_11 g_10  h
set_option maxRecDepth 100000 in
set_option maxHeartbeats 4000000 in
theorem c_X7_copy {b : Nat} {xt : sv_Xt} {F : sv_Fr} {v1 : Int32} {v2 : Int32} {v3 : Int32} {v4 : Int32} {v5 : Int32} {g : sv_Mg} {Q : Int32 → sv_Mg → Prop} (hL : sv_Lay F) (h : wp_X7_copy F v1 v2 v3 v4 v5 g Q) : sv_Cal yX7_copy cX7_copy 7 (some .int) 2 42 0 0 b xt [.ref (b + 58), .int v1, .int v2, .int v3, .int v4, .int v5] F g (sv_qI F Q) := by
  refine sv_intro mw_X7_copy [(0, .ref (b + 58)), (1, .int v1), (2, .int v2), (3, .int v3), (4, .int v4), (5, .int v5)] rfl (Nat.le_of_ble_eq_true rfl) (fun x G RR T NM => ?_)
  have G : sv_G x b xt RX7 cX7_copy 7 := G
  unfold wp_X7_copy at h
  refine sv_iload_n (pc := 0) G dX7_copy_0 1 rfl ?_
  refine sv_callS (cs := 0) (sl := 0) (st := []) (As := [.int v1]) (pc := 1) G RR (c_X7_isSheet hL  h) mw_X7_isSheet lk_X7_189 rfl ⟨(Nat.le_of_ble_eq_true rfl), (Nat.le_of_ble_eq_true rfl)⟩ ⟨(Nat.le_of_ble_eq_true rfl), (Nat.le_of_ble_eq_true rfl)⟩ (Nat.le_of_ble_eq_true rfl) rfl dX7_copy_1 (sv_kI (fun r_13 g_12 h => ?_))
  refine sv_if_eq (pc := 4) G 14 (by decide) dX7_copy_4 (fun c_14 => ?_) (fun c_14 => ?_)
  · have h := h.1 c_14
    refine sv_ldc (pc := 14) G dX7_copy_14 cn_X7_90 ?_
    exact sv_ireturn (pc := 16) G T ⟨(Nat.le_of_ble_eq_true rfl), (Nat.le_of_ble_eq_true rfl)⟩ dX7_copy_16 ⟨_, rfl, rfl, h⟩
  · have h := h.2 c_14
    refine sv_iload_n (pc := 7) G dX7_copy_7 3 rfl ?_
    refine sv_callS (cs := 0) (sl := 0) (st := []) (As := [.int v3]) (pc := 8) G RR (c_X7_isSheet hL  h) mw_X7_isSheet lk_X7_189 rfl ⟨(Nat.le_of_ble_eq_true rfl), (Nat.le_of_ble_eq_true rfl)⟩ ⟨(Nat.le_of_ble_eq_true rfl), (Nat.le_of_ble_eq_true rfl)⟩ (Nat.le_of_ble_eq_true rfl) rfl dX7_copy_8 (sv_kI (fun r_16 g_15 h => ?_))
    refine sv_if_ne (pc := 11) G 17 (by decide) dX7_copy_11 (fun c_17 => ?_) (fun c_17 => ?_)
    · have h := h.2 c_17
      refine sv_aload_n (pc := 17) G dX7_copy_17 0 rfl ?_
      refine sv_getR (pc := 18) G fw_X7_54 (hL.sh rfl) rfl (hL.rf 74 rfl) dX7_copy_18 ?_
      refine sv_iload_n (pc := 21) G dX7_copy_21 1 rfl ?_
      obtain ⟨s_18, h⟩ := h
      refine sv_ialdK (pc := 22) G (hL.sh rfl) s_18 v1.toNatClampNeg rfl dX7_copy_22 ?_
      refine sv_if_lt (pc := 23) G 35 (by decide) dX7_copy_23 (fun c_19 => ?_) (fun c_19 => ?_)
      · have h := h.1 c_19
        refine sv_ldc (pc := 35) G dX7_copy_35 cn_X7_192 ?_
        exact sv_ireturn (pc := 37) G T ⟨(Nat.le_of_ble_eq_true rfl), (Nat.le_of_ble_eq_true rfl)⟩ dX7_copy_37 ⟨_, rfl, rfl, h⟩
      · have h := h.2 c_19
        refine sv_aload_n (pc := 26) G dX7_copy_26 0 rfl ?_
        refine sv_getR (pc := 27) G fw_X7_54 (hL.sh rfl) rfl (hL.rf 74 rfl) dX7_copy_27 ?_
        refine sv_iload_n (pc := 30) G dX7_copy_30 3 rfl ?_
        obtain ⟨s_20, h⟩ := h
        refine sv_ialdK (pc := 31) G (hL.sh rfl) s_20 v3.toNatClampNeg rfl dX7_copy_31 ?_
        refine sv_if_ge (pc := 32) G 38 (by decide) dX7_copy_32 (fun c_21 => ?_) (fun c_21 => ?_)
        · have h := h.1 c_21
          refine sv_aload_n (pc := 38) G dX7_copy_38 0 rfl ?_
          refine sv_getR (pc := 39) G fw_X7_54 (hL.sh rfl) rfl (hL.rf 74 rfl) dX7_copy_39 ?_
          refine sv_iload_n (pc := 42) G dX7_copy_42 1 rfl ?_
          obtain ⟨s_22, h⟩ := h
          refine sv_ialdK (pc := 43) G (hL.sh rfl) s_22 v1.toNatClampNeg rfl dX7_copy_43 ?_
          refine sv_aload_n (pc := 44) G dX7_copy_44 0 rfl ?_
          refine sv_getR (pc := 45) G fw_X7_54 (hL.sh rfl) rfl (hL.rf 74 rfl) dX7_copy_45 ?_
          refine sv_iload_n (pc := 48) G dX7_copy_48 3 rfl ?_
          obtain ⟨s_23, h⟩ := h
          refine sv_ialdK (pc := 49) G (hL.sh rfl) s_23 v3.toNatClampNeg rfl dX7_copy_49 ?_
          refine sv_ic_eq (pc := 50) G 56 (by decide) dX7_copy_50 (fun c_24 => ?_) (fun c_24 => ?_)
          · have h := h.1 c_24
            refine sv_iload_n (pc := 56) G dX7_copy_56 2 rfl ?_
            refine sv_if_lt (pc := 57) G 97 (by decide) dX7_copy_57 (fun c_25 => ?_) (fun c_25 => ?_)
            · have h := h.1 c_25
              refine sv_ldcw (pc := 97) G dX7_copy_97 cn_X7_266 ?_
              exact sv_ireturn (pc := 100) G T ⟨(Nat.le_of_ble_eq_true rfl), (Nat.le_of_ble_eq_true rfl)⟩ dX7_copy_100 ⟨_, rfl, rfl, h⟩
            · have h := h.2 c_25
              refine sv_iload (pc := 60) G dX7_copy_60 4 rfl ?_
              refine sv_if_lt (pc := 62) G 97 (by decide) dX7_copy_62 (fun c_26 => ?_) (fun c_26 => ?_)
              · have h := h.1 c_26
                refine sv_ldcw (pc := 97) G dX7_copy_97 cn_X7_266 ?_
                exact sv_ireturn (pc := 100) G T ⟨(Nat.le_of_ble_eq_true rfl), (Nat.le_of_ble_eq_true rfl)⟩ dX7_copy_100 ⟨_, rfl, rfl, h⟩
              · have h := h.2 c_26
                refine sv_iload (pc := 65) G dX7_copy_65 5 rfl ?_
                refine sv_if_lt (pc := 67) G 97 (by decide) dX7_copy_67 (fun c_27 => ?_) (fun c_27 => ?_)
                · have h := h.1 c_27
                  refine sv_ldcw (pc := 97) G dX7_copy_97 cn_X7_266 ?_
                  exact sv_ireturn (pc := 100) G T ⟨(Nat.le_of_ble_eq_true rfl), (Nat.le_of_ble_eq_true rfl)⟩ dX7_copy_100 ⟨_, rfl, rfl, h⟩
                · have h := h.2 c_27
                  refine sv_iload_n (pc := 70) G dX7_copy_70 2 rfl ?_
                  refine sv_aload_n (pc := 71) G dX7_copy_71 0 rfl ?_
                  refine sv_getR (pc := 72) G fw_X7_57 (hL.sh rfl) rfl (hL.rf 75 rfl) dX7_copy_72 ?_
                  refine sv_iload_n (pc := 75) G dX7_copy_75 1 rfl ?_
                  obtain ⟨s_28, h⟩ := h
                  refine sv_ialdK (pc := 76) G (hL.sh rfl) s_28 v1.toNatClampNeg rfl dX7_copy_76 ?_
                  refine sv_iload (pc := 77) G dX7_copy_77 5 rfl ?_
                  refine sv_isub (pc := 79) G dX7_copy_79 ?_
                  refine sv_ic_gt (pc := 80) G 97 (by decide) dX7_copy_80 (fun c_29 => ?_) (fun c_29 => ?_)
                  · have h := h.1 c_29
                    refine sv_ldcw (pc := 97) G dX7_copy_97 cn_X7_266 ?_
                    exact sv_ireturn (pc := 100) G T ⟨(Nat.le_of_ble_eq_true rfl), (Nat.le_of_ble_eq_true rfl)⟩ dX7_copy_100 ⟨_, rfl, rfl, h⟩
                  · have h := h.2 c_29
                    refine sv_iload (pc := 83) G dX7_copy_83 4 rfl ?_
                    refine sv_aload_n (pc := 85) G dX7_copy_85 0 rfl ?_
                    refine sv_getR (pc := 86) G fw_X7_57 (hL.sh rfl) rfl (hL.rf 75 rfl) dX7_copy_86 ?_
                    refine sv_iload_n (pc := 89) G dX7_copy_89 3 rfl ?_
                    obtain ⟨s_30, h⟩ := h
                    refine sv_ialdK (pc := 90) G (hL.sh rfl) s_30 v3.toNatClampNeg rfl dX7_copy_90 ?_
                    refine sv_iload (pc := 91) G dX7_copy_91 5 rfl ?_
                    refine sv_isub (pc := 93) G dX7_copy_93 ?_
                    refine sv_ic_le (pc := 94) G 101 (by decide) dX7_copy_94 (fun c_31 => ?_) (fun c_31 => ?_)
                    · have h := h.1 c_31
                      refine sv_iconst (pc := 101) G dX7_copy_101 0 ic_0 ?_
                      refine sv_istore (pc := 102) G dX7_copy_102 [(6, .int 0), (0, .ref (b + 58)), (1, .int v1), (2, .int v2), (3, .int v3), (4, .int v4), (5, .int v5)] (by decide) rfl ?_
                      refine sv_locs [1, 2, 3, 4, 5, 6, 0] [(0, .ref (b + 58)), (1, .int v1), (2, .int v2), (3, .int v3), (4, .int v4), (5, .int v5), (6, .int 0)] rfl ?_
                      obtain ⟨n_32, h⟩ := h
                      exact aw_X7_copy_104 G RR T hL   n_32 v1 v2 v3 v4 v5 0 g_15  h
                    · have h := h.2 c_31
                      refine sv_ldcw (pc := 97) G dX7_copy_97 cn_X7_266 ?_
                      exact sv_ireturn (pc := 100) G T ⟨(Nat.le_of_ble_eq_true rfl), (Nat.le_of_ble_eq_true rfl)⟩ dX7_copy_100 ⟨_, rfl, rfl, h⟩
          · have h := h.2 c_24
            refine sv_ldc (pc := 53) G dX7_copy_53 cn_X7_153 ?_
            exact sv_ireturn (pc := 55) G T ⟨(Nat.le_of_ble_eq_true rfl), (Nat.le_of_ble_eq_true rfl)⟩ dX7_copy_55 ⟨_, rfl, rfl, h⟩
        · have h := h.2 c_21
          refine sv_ldc (pc := 35) G dX7_copy_35 cn_X7_192 ?_
          exact sv_ireturn (pc := 37) G T ⟨(Nat.le_of_ble_eq_true rfl), (Nat.le_of_ble_eq_true rfl)⟩ dX7_copy_37 ⟨_, rfl, rfl, h⟩
    · have h := h.1 c_17
      refine sv_ldc (pc := 14) G dX7_copy_14 cn_X7_90 ?_
      exact sv_ireturn (pc := 16) G T ⟨(Nat.le_of_ble_eq_true rfl), (Nat.le_of_ble_eq_true rfl)⟩ dX7_copy_16 ⟨_, rfl, rfl, h⟩
def wp_X7_lay_134 (F : sv_Fr) (Q : Int32 → sv_Mg → Prop) : Nat → Int32 → Int32 → Int32 → Int32 → Int32 → sv_Mg → Prop
  | 0, _, _, _, _, _, _ => False
  | n + 1, v1, v2, v3, v4, v5, g => ((24 ≤ v5 → Q v4 g) ∧ (¬ 24 ≤ v5 → ((v2 = 2 → vp_in ((24 * v3) + v5) 96 ∧ vp_in ((24 * v1) + v5) 120 ∧ ∀ g_5, g_5 = sv_st g 79 ((24 * v1) + v5).toNatClampNeg (g 75 ((24 * v3) + v5).toNatClampNeg) → ∀ v5_6 : Int32, v5_6 = v5 + 1 → (wp_X7_lay_134 F Q  n) v1 v2 v3 v4 v5_6 g_5) ∧ (¬ v2 = 2 → Q v4 g))))
def wp_X7_lay_130 (F : sv_Fr) (Q : Int32 → sv_Mg → Prop) (v1 : Int32) (v2 : Int32) (v3 : Int32) (v4 : Int32) (s0 : Int32) (s1 : Int32) (g : sv_Mg) : Prop := vp_in s1 5 ∧ ∀ g_8, g_8 = sv_st g 78 s1.toNatClampNeg s0 → ∃ n_9, wp_X7_lay_134 F  Q  n_9 v1 v2 v3 v4 0 g_8
def wp_X7_lay_110 (F : sv_Fr) (Q : Int32 → sv_Mg → Prop) (v1 : Int32) (v2 : Int32) (v3 : Int32) (v4 : Int32) (s0 : Int32) (s1 : Int32) (g : sv_Mg) : Prop := vp_in s1 5 ∧ ∀ g_11, g_11 = sv_st g 77 s1.toNatClampNeg s0 → ((v2 = 1 → wp_X7_worthOf F v3 g_11 (fun r_14 g_13 => wp_X7_lay_130 F  Q  v1 v2 v3 v4 r_14 v1 g_13)) ∧ (¬ v2 = 1 → wp_X7_lay_130 F  Q  v1 v2 v3 v4 0 v1 g_11))
def wp_X7_lay_61 (F : sv_Fr) (Q : Int32 → sv_Mg → Prop) (v1 : Int32) (v2 : Int32) (v3 : Int32) (g : sv_Mg) : Prop := vp_in v1 5 ∧ ∀ v4_16 : Int32, v4_16 = (g 76 v1.toNatClampNeg) → vp_in v1 5 ∧ ∀ g_18, g_18 = sv_st g 76 v1.toNatClampNeg v2 → ((v2 = 1 → wp_X7_of F v3 0 g_18 (fun r_23 g_22 => wp_X7_lay_110 F  Q  v1 v2 v3 v4_16 r_23 v1 g_22)) ∧ (¬ v2 = 1 → ((v2 = 2 → vp_in v3 4 ∧ wp_X7_lay_110 F  Q  v1 v2 v3 v4_16 (g_18 74 v3.toNatClampNeg) v1 g_18) ∧ (¬ v2 = 2 → wp_X7_lay_110 F  Q  v1 v2 v3 v4_16 v3 v1 g_18))))
def wp_X7_lay_44 (F : sv_Fr) (Q : Int32 → sv_Mg → Prop) (v1 : Int32) (v2 : Int32) (v3 : Int32) (g : sv_Mg) : Prop := ((v2 = 2 → vp_in v3 4 ∧ ((0 ≤ (g 73 v3.toNatClampNeg) → wp_X7_lay_61 F  Q  v1 v2 v3 g) ∧ (¬ 0 ≤ (g 73 v3.toNatClampNeg) → Q (-1000000011) g))) ∧ (¬ v2 = 2 → wp_X7_lay_61 F  Q  v1 v2 v3 g))
def wp_X7_lay_29 (F : sv_Fr) (Q : Int32 → sv_Mg → Prop) (v1 : Int32) (v2 : Int32) (v3 : Int32) (g : sv_Mg) : Prop := ((v2 = 2 → wp_X7_isSheet F v3 g (fun r_29 g_28 => ((r_29 = 0 → Q (-1000000001) g_28) ∧ (¬ r_29 = 0 → wp_X7_lay_44 F  Q  v1 v2 v3 g_28)))) ∧ (¬ v2 = 2 → wp_X7_lay_44 F  Q  v1 v2 v3 g))
def wp_X7_lay (F : sv_Fr) (v1 : Int32) (v2 : Int32) (v3 : Int32) (g : sv_Mg) (Q : Int32 → sv_Mg → Prop) : Prop := wp_X7_isSlot F v1 g (fun r_32 g_31 => ((r_32 = 0 → Q (-1000000001) g_31) ∧ (¬ r_32 = 0 → wp_X7_in F v2 0 3 g_31 (fun r_35 g_34 => ((r_35 = 0 → Q (-1000000001) g_34) ∧ (¬ r_35 = 0 → ((v2 = 1 → wp_X7_isVoter F v3 g_34 (fun r_39 g_38 => ((r_39 = 0 → Q (-1000000001) g_38) ∧ (¬ r_39 = 0 → wp_X7_lay_29 F  Q  v1 v2 v3 g_38)))) ∧ (¬ v2 = 1 → wp_X7_lay_29 F  Q  v1 v2 v3 g_34))))))))
set_option maxRecDepth 100000 in
set_option maxHeartbeats 4000000 in
theorem aw_X7_lay_134 {x : sv_X} {b : Nat} {xt : sv_Xt} {F : sv_Fr} {Q : Int32 → sv_Mg → Prop} (G : sv_G x b xt RX7 cX7_lay 6) (RR : sv_R x 2 44 0 0) (T : sv_RT x (some .int)) (hL : sv_Lay F) : ∀ (n : Nat) (v1 : Int32) (v2 : Int32) (v3 : Int32) (v4 : Int32) (v5 : Int32) (g : sv_Mg), wp_X7_lay_134 F Q  n v1 v2 v3 v4 v5 g → sv_AW x (sv_Q x (sv_qI F Q) 0 0) F g 0 0 134 [(0, .ref (b + 58)), (1, .int v1), (2, .int v2), (3, .int v3), (4, .int v4), (5, .int v5)] [] := by
  intro n
  induction n with
  | zero => intro v1 v2 v3 v4 v5 g h; exact h.elim
  | succ n ih =>
    intro v1 v2 v3 v4 v5 g h
    rw [wp_X7_lay_134] at h
    refine sv_iload (pc := 134) G dX7_lay_134 5 rfl ?_
    refine sv_bipush (pc := 136) G dX7_lay_136 24 bp_24 ?_
    refine sv_ic_ge (pc := 138) G 176 (by decide) dX7_lay_138 (fun c_1 => ?_) (fun c_1 => ?_)
    · have h := h.1 c_1
      refine sv_iload (pc := 176) G dX7_lay_176 4 rfl ?_
      exact sv_ireturn (pc := 178) G T ⟨(Nat.le_of_ble_eq_true rfl), (Nat.le_of_ble_eq_true rfl)⟩ dX7_lay_178 ⟨_, rfl, rfl, h⟩
    · have h := h.2 c_1
      refine sv_iload_n (pc := 141) G dX7_lay_141 2 rfl ?_
      refine sv_iconst (pc := 142) G dX7_lay_142 2 ic_2 ?_
      refine sv_ic_ne (pc := 143) G 176 (by decide) dX7_lay_143 (fun c_2 => ?_) (fun c_2 => ?_)
      · have h := h.2 c_2
        refine sv_iload (pc := 176) G dX7_lay_176 4 rfl ?_
        exact sv_ireturn (pc := 178) G T ⟨(Nat.le_of_ble_eq_true rfl), (Nat.le_of_ble_eq_true rfl)⟩ dX7_lay_178 ⟨_, rfl, rfl, h⟩
      · have h := h.1 c_2
        refine sv_aload_n (pc := 146) G dX7_lay_146 0 rfl ?_
        refine sv_getR (pc := 147) G fw_X7_72 (hL.sh rfl) rfl (hL.rf 80 rfl) dX7_lay_147 ?_
        refine sv_bipush (pc := 150) G dX7_lay_150 24 bp_24 ?_
        refine sv_iload_n (pc := 152) G dX7_lay_152 1 rfl ?_
        refine sv_imul (pc := 153) G dX7_lay_153 ?_
        refine sv_iload (pc := 154) G dX7_lay_154 5 rfl ?_
        refine sv_iadd (pc := 156) G dX7_lay_156 ?_
        refine sv_aload_n (pc := 157) G dX7_lay_157 0 rfl ?_
        refine sv_getR (pc := 158) G fw_X7_60 (hL.sh rfl) rfl (hL.rf 76 rfl) dX7_lay_158 ?_
        refine sv_bipush (pc := 161) G dX7_lay_161 24 bp_24 ?_
        refine sv_iload_n (pc := 163) G dX7_lay_163 3 rfl ?_
        refine sv_imul (pc := 164) G dX7_lay_164 ?_
        refine sv_iload (pc := 165) G dX7_lay_165 5 rfl ?_
        refine sv_iadd (pc := 167) G dX7_lay_167 ?_
        obtain ⟨s_3, h⟩ := h
        refine sv_ialdK (pc := 168) G (hL.sh rfl) s_3 ((24 * v3) + v5).toNatClampNeg rfl dX7_lay_168 ?_
        obtain ⟨s_4, h⟩ := h
        refine sv_iastK (pc := 169) G (hL.sh rfl) s_4 ((24 * v1) + v5).toNatClampNeg rfl dX7_lay_169 (fun g_5 eg_5 => ?_)
        have h := h g_5 eg_5
        obtain ⟨v5_6, ev5_6⟩ : ∃ y : Int32, y = v5 + 1 := ⟨_, rfl⟩
        have h := h v5_6 ev5_6
        refine sv_iinc (pc := 170) G dX7_lay_170 5 v5_6 [(5, .int v5_6), (0, .ref (b + 58)), (1, .int v1), (2, .int v2), (3, .int v3), (4, .int v4)] (by rw [ev5_6, ic_1]) rfl (by decide) rfl ?_
        refine sv_goto (pc := 173) G dX7_lay_173 134 (by decide) ?_
        refine sv_locs [1, 2, 3, 4, 5, 0] [(0, .ref (b + 58)), (1, .int v1), (2, .int v2), (3, .int v3), (4, .int v4), (5, .int v5_6)] rfl ?_
        exact ih v1 v2 v3 v4 v5_6 g_5  h
set_option maxRecDepth 100000 in
set_option maxHeartbeats 4000000 in
theorem aw_X7_lay_130 {x : sv_X} {b : Nat} {xt : sv_Xt} {F : sv_Fr} {Q : Int32 → sv_Mg → Prop} (G : sv_G x b xt RX7 cX7_lay 6) (RR : sv_R x 2 44 0 0) (T : sv_RT x (some .int)) (hL : sv_Lay F) : ∀ (v1 : Int32) (v2 : Int32) (v3 : Int32) (v4 : Int32) (s0 : Int32) (s1 : Int32) (g : sv_Mg), wp_X7_lay_130 F Q  v1 v2 v3 v4 s0 s1 g → sv_AW x (sv_Q x (sv_qI F Q) 0 0) F g 0 0 130 [(0, .ref (b + 58)), (1, .int v1), (2, .int v2), (3, .int v3), (4, .int v4)] [.int s0, .int s1, .ref (b + 78)] := by
  intro v1 v2 v3 v4 s0 s1 g h
  unfold wp_X7_lay_130 at h
  obtain ⟨s_7, h⟩ := h
  refine sv_iastK (pc := 130) G (hL.sh rfl) s_7 s1.toNatClampNeg rfl dX7_lay_130 (fun g_8 eg_8 => ?_)
  have h := h g_8 eg_8
  refine sv_iconst (pc := 131) G dX7_lay_131 0 ic_0 ?_
  refine sv_istore (pc := 132) G dX7_lay_132 [(5, .int 0), (0, .ref (b + 58)), (1, .int v1), (2, .int v2), (3, .int v3), (4, .int v4)] (by decide) rfl ?_
  refine sv_locs [1, 2, 3, 4, 5, 0] [(0, .ref (b + 58)), (1, .int v1), (2, .int v2), (3, .int v3), (4, .int v4), (5, .int 0)] rfl ?_
  obtain ⟨n_9, h⟩ := h
  exact aw_X7_lay_134 G RR T hL   n_9 v1 v2 v3 v4 0 g_8  h
set_option maxRecDepth 100000 in
set_option maxHeartbeats 4000000 in
theorem aw_X7_lay_110 {x : sv_X} {b : Nat} {xt : sv_Xt} {F : sv_Fr} {Q : Int32 → sv_Mg → Prop} (G : sv_G x b xt RX7 cX7_lay 6) (RR : sv_R x 2 44 0 0) (T : sv_RT x (some .int)) (hL : sv_Lay F) : ∀ (v1 : Int32) (v2 : Int32) (v3 : Int32) (v4 : Int32) (s0 : Int32) (s1 : Int32) (g : sv_Mg), wp_X7_lay_110 F Q  v1 v2 v3 v4 s0 s1 g → sv_AW x (sv_Q x (sv_qI F Q) 0 0) F g 0 0 110 [(0, .ref (b + 58)), (1, .int v1), (2, .int v2), (3, .int v3), (4, .int v4)] [.int s0, .int s1, .ref (b + 77)] := by
  intro v1 v2 v3 v4 s0 s1 g h
  unfold wp_X7_lay_110 at h
  obtain ⟨s_10, h⟩ := h
  refine sv_iastK (pc := 110) G (hL.sh rfl) s_10 s1.toNatClampNeg rfl dX7_lay_110 (fun g_11 eg_11 => ?_)
  have h := h g_11 eg_11
  refine sv_aload_n (pc := 111) G dX7_lay_111 0 rfl ?_
  refine sv_getR (pc := 112) G fw_X7_69 (hL.sh rfl) rfl (hL.rf 79 rfl) dX7_lay_112 ?_
  refine sv_iload_n (pc := 115) G dX7_lay_115 1 rfl ?_
  refine sv_iload_n (pc := 116) G dX7_lay_116 2 rfl ?_
  refine sv_iconst (pc := 117) G dX7_lay_117 1 ic_1 ?_
  refine sv_ic_ne (pc := 118) G 129 (by decide) dX7_lay_118 (fun c_12 => ?_) (fun c_12 => ?_)
  · have h := h.2 c_12
    refine sv_iconst (pc := 129) G dX7_lay_129 0 ic_0 ?_
    refine sv_locs [0, 1, 2, 3, 4] [(0, .ref (b + 58)), (1, .int v1), (2, .int v2), (3, .int v3), (4, .int v4)] rfl ?_
    exact aw_X7_lay_130 G RR T hL   v1 v2 v3 v4 0 v1 g_11  h
  · have h := h.1 c_12
    refine sv_aload_n (pc := 121) G dX7_lay_121 0 rfl ?_
    refine sv_iload_n (pc := 122) G dX7_lay_122 3 rfl ?_
    refine sv_callV (cs := 0) (sl := 0) (st := [.int v1, .ref (b + 78)]) (As := [.int v3]) (a := 58) (pc := 123) G RR (c_X7_worthOf hL  h) mw_X7_worthOf lk_X7_146 (hL.sh rfl) (by decide) rfl rfl ⟨(Nat.le_of_ble_eq_true rfl), (Nat.le_of_ble_eq_true rfl)⟩ ⟨(Nat.le_of_ble_eq_true rfl), (Nat.le_of_ble_eq_true rfl)⟩ (Nat.le_of_ble_eq_true rfl) rfl dX7_lay_123 (sv_kI (fun r_14 g_13 h => ?_))
    refine sv_goto (pc := 126) G dX7_lay_126 130 (by decide) ?_
    refine sv_locs [0, 1, 2, 3, 4] [(0, .ref (b + 58)), (1, .int v1), (2, .int v2), (3, .int v3), (4, .int v4)] rfl ?_
    exact aw_X7_lay_130 G RR T hL   v1 v2 v3 v4 r_14 v1 g_13  h
set_option maxRecDepth 100000 in
set_option maxHeartbeats 4000000 in
theorem aw_X7_lay_61 {x : sv_X} {b : Nat} {xt : sv_Xt} {F : sv_Fr} {Q : Int32 → sv_Mg → Prop} (G : sv_G x b xt RX7 cX7_lay 6) (RR : sv_R x 2 44 0 0) (T : sv_RT x (some .int)) (hL : sv_Lay F) : ∀ (v1 : Int32) (v2 : Int32) (v3 : Int32) (g : sv_Mg), wp_X7_lay_61 F Q  v1 v2 v3 g → sv_AW x (sv_Q x (sv_qI F Q) 0 0) F g 0 0 61 [(0, .ref (b + 58)), (1, .int v1), (2, .int v2), (3, .int v3)] [] := by
  intro v1 v2 v3 g h
  unfold wp_X7_lay_61 at h
  refine sv_aload_n (pc := 61) G dX7_lay_61 0 rfl ?_
  refine sv_getR (pc := 62) G fw_X7_63 (hL.sh rfl) rfl (hL.rf 77 rfl) dX7_lay_62 ?_
  refine sv_iload_n (pc := 65) G dX7_lay_65 1 rfl ?_
  obtain ⟨s_15, h⟩ := h
  refine sv_ialdK (pc := 66) G (hL.sh rfl) s_15 v1.toNatClampNeg rfl dX7_lay_66 ?_
  refine sv_topi (fun v4_16 ev4_16 => ?_)
  have h := h v4_16 ev4_16
  refine sv_istore (pc := 67) G dX7_lay_67 [(4, .int v4_16), (0, .ref (b + 58)), (1, .int v1), (2, .int v2), (3, .int v3)] (by decide) rfl ?_
  refine sv_aload_n (pc := 69) G dX7_lay_69 1 rfl ?_
  refine sv_getR (pc := 70) G fw_X7_63 (hL.sh rfl) rfl (hL.rf 77 rfl) dX7_lay_70 ?_
  refine sv_iload_n (pc := 73) G dX7_lay_73 2 rfl ?_
  refine sv_iload_n (pc := 74) G dX7_lay_74 3 rfl ?_
  obtain ⟨s_17, h⟩ := h
  refine sv_iastK (pc := 75) G (hL.sh rfl) s_17 v1.toNatClampNeg rfl dX7_lay_75 (fun g_18 eg_18 => ?_)
  have h := h g_18 eg_18
  refine sv_aload_n (pc := 76) G dX7_lay_76 1 rfl ?_
  refine sv_getR (pc := 77) G fw_X7_66 (hL.sh rfl) rfl (hL.rf 78 rfl) dX7_lay_77 ?_
  refine sv_iload_n (pc := 80) G dX7_lay_80 2 rfl ?_
  refine sv_iload_n (pc := 81) G dX7_lay_81 3 rfl ?_
  refine sv_iconst (pc := 82) G dX7_lay_82 1 ic_1 ?_
  refine sv_ic_ne (pc := 83) G 95 (by decide) dX7_lay_83 (fun c_19 => ?_) (fun c_19 => ?_)
  · have h := h.2 c_19
    refine sv_iload_n (pc := 95) G dX7_lay_95 3 rfl ?_
    refine sv_iconst (pc := 96) G dX7_lay_96 2 ic_2 ?_
    refine sv_ic_ne (pc := 97) G 109 (by decide) dX7_lay_97 (fun c_20 => ?_) (fun c_20 => ?_)
    · have h := h.2 c_20
      refine sv_iload_n (pc := 109) G dX7_lay_109 4 rfl ?_
      refine sv_locs [1, 2, 3, 4, 0] [(0, .ref (b + 58)), (1, .int v1), (2, .int v2), (3, .int v3), (4, .int v4_16)] rfl ?_
      exact aw_X7_lay_110 G RR T hL   v1 v2 v3 v4_16 v3 v1 g_18  h
    · have h := h.1 c_20
      refine sv_aload_n (pc := 100) G dX7_lay_100 1 rfl ?_
      refine sv_getR (pc := 101) G fw_X7_57 (hL.sh rfl) rfl (hL.rf 75 rfl) dX7_lay_101 ?_
      refine sv_iload_n (pc := 104) G dX7_lay_104 4 rfl ?_
      obtain ⟨s_21, h⟩ := h
      refine sv_ialdK (pc := 105) G (hL.sh rfl) s_21 v3.toNatClampNeg rfl dX7_lay_105 ?_
      refine sv_goto (pc := 106) G dX7_lay_106 110 (by decide) ?_
      refine sv_locs [1, 2, 3, 4, 0] [(0, .ref (b + 58)), (1, .int v1), (2, .int v2), (3, .int v3), (4, .int v4_16)] rfl ?_
      exact aw_X7_lay_110 G RR T hL   v1 v2 v3 v4_16 (g_18 74 v3.toNatClampNeg) v1 g_18  h
  · have h := h.1 c_19
    refine sv_aload_n (pc := 86) G dX7_lay_86 1 rfl ?_
    refine sv_iload_n (pc := 87) G dX7_lay_87 4 rfl ?_
    refine sv_iconst (pc := 88) G dX7_lay_88 0 ic_0 ?_
    refine sv_callV (cs := 0) (sl := 0) (st := [.int v1, .ref (b + 77)]) (As := [.int v3, .int 0]) (a := 58) (pc := 89) G RR (c_X7_of hL  h) mw_X7_of lk_X7_96 (hL.sh rfl) (by decide) rfl rfl ⟨(Nat.le_of_ble_eq_true rfl), (Nat.le_of_ble_eq_true rfl)⟩ ⟨(Nat.le_of_ble_eq_true rfl), (Nat.le_of_ble_eq_true rfl)⟩ (Nat.le_of_ble_eq_true rfl) rfl dX7_lay_89 (sv_kI (fun r_23 g_22 h => ?_))
    refine sv_goto (pc := 92) G dX7_lay_92 110 (by decide) ?_
    refine sv_locs [1, 2, 3, 4, 0] [(0, .ref (b + 58)), (1, .int v1), (2, .int v2), (3, .int v3), (4, .int v4_16)] rfl ?_
    exact aw_X7_lay_110 G RR T hL   v1 v2 v3 v4_16 r_23 v1 g_22  h
set_option maxRecDepth 100000 in
set_option maxHeartbeats 4000000 in
theorem aw_X7_lay_44 {x : sv_X} {b : Nat} {xt : sv_Xt} {F : sv_Fr} {Q : Int32 → sv_Mg → Prop} (G : sv_G x b xt RX7 cX7_lay 6) (RR : sv_R x 2 44 0 0) (T : sv_RT x (some .int)) (hL : sv_Lay F) : ∀ (v1 : Int32) (v2 : Int32) (v3 : Int32) (g : sv_Mg), wp_X7_lay_44 F Q  v1 v2 v3 g → sv_AW x (sv_Q x (sv_qI F Q) 0 0) F g 0 0 44 [(0, .ref (b + 58)), (1, .int v1), (2, .int v2), (3, .int v3)] [] := by
  intro v1 v2 v3 g h
  unfold wp_X7_lay_44 at h
  refine sv_iload_n (pc := 44) G dX7_lay_44 2 rfl ?_
  refine sv_iconst (pc := 45) G dX7_lay_45 2 ic_2 ?_
  refine sv_ic_ne (pc := 46) G 61 (by decide) dX7_lay_46 (fun c_24 => ?_) (fun c_24 => ?_)
  · have h := h.2 c_24
    refine sv_locs [0, 1, 2, 3] [(0, .ref (b + 58)), (1, .int v1), (2, .int v2), (3, .int v3)] rfl ?_
    exact aw_X7_lay_61 G RR T hL   v1 v2 v3 g  h
  · have h := h.1 c_24
    refine sv_aload_n (pc := 49) G dX7_lay_49 0 rfl ?_
    refine sv_getR (pc := 50) G fw_X7_54 (hL.sh rfl) rfl (hL.rf 74 rfl) dX7_lay_50 ?_
    refine sv_iload_n (pc := 53) G dX7_lay_53 3 rfl ?_
    obtain ⟨s_25, h⟩ := h
    refine sv_ialdK (pc := 54) G (hL.sh rfl) s_25 v3.toNatClampNeg rfl dX7_lay_54 ?_
    refine sv_if_ge (pc := 55) G 61 (by decide) dX7_lay_55 (fun c_26 => ?_) (fun c_26 => ?_)
    · have h := h.1 c_26
      refine sv_locs [0, 1, 2, 3] [(0, .ref (b + 58)), (1, .int v1), (2, .int v2), (3, .int v3)] rfl ?_
      exact aw_X7_lay_61 G RR T hL   v1 v2 v3 g  h
    · have h := h.2 c_26
      refine sv_ldc (pc := 58) G dX7_lay_58 cn_X7_192 ?_
      exact sv_ireturn (pc := 60) G T ⟨(Nat.le_of_ble_eq_true rfl), (Nat.le_of_ble_eq_true rfl)⟩ dX7_lay_60 ⟨_, rfl, rfl, h⟩
set_option maxRecDepth 100000 in
set_option maxHeartbeats 4000000 in
theorem aw_X7_lay_29 {x : sv_X} {b : Nat} {xt : sv_Xt} {F : sv_Fr} {Q : Int32 → sv_Mg → Prop} (G : sv_G x b xt RX7 cX7_lay 6) (RR : sv_R x 2 44 0 0) (T : sv_RT x (some .int)) (hL : sv_Lay F) : ∀ (v1 : Int32) (v2 : Int32) (v3 : Int32) (g : sv_Mg), wp_X7_lay_29 F Q  v1 v2 v3 g → sv_AW x (sv_Q x (sv_qI F Q) 0 0) F g 0 0 29 [(0, .ref (b + 58)), (1, .int v1), (2, .int v2), (3, .int v3)] [] := by
  intro v1 v2 v3 g h
  unfold wp_X7_lay_29 at h
  refine sv_iload_n (pc := 29) G dX7_lay_29 2 rfl ?_
  refine sv_iconst (pc := 30) G dX7_lay_30 2 ic_2 ?_
  refine sv_ic_ne (pc := 31) G 44 (by decide) dX7_lay_31 (fun c_27 => ?_) (fun c_27 => ?_)
  · have h := h.2 c_27
    refine sv_locs [0, 1, 2, 3] [(0, .ref (b + 58)), (1, .int v1), (2, .int v2), (3, .int v3)] rfl ?_
    exact aw_X7_lay_44 G RR T hL   v1 v2 v3 g  h
  · have h := h.1 c_27
    refine sv_iload_n (pc := 34) G dX7_lay_34 3 rfl ?_
    refine sv_callS (cs := 0) (sl := 0) (st := []) (As := [.int v3]) (pc := 35) G RR (c_X7_isSheet hL  h) mw_X7_isSheet lk_X7_189 rfl ⟨(Nat.le_of_ble_eq_true rfl), (Nat.le_of_ble_eq_true rfl)⟩ ⟨(Nat.le_of_ble_eq_true rfl), (Nat.le_of_ble_eq_true rfl)⟩ (Nat.le_of_ble_eq_true rfl) rfl dX7_lay_35 (sv_kI (fun r_29 g_28 h => ?_))
    refine sv_if_ne (pc := 38) G 44 (by decide) dX7_lay_38 (fun c_30 => ?_) (fun c_30 => ?_)
    · have h := h.2 c_30
      refine sv_locs [0, 1, 2, 3] [(0, .ref (b + 58)), (1, .int v1), (2, .int v2), (3, .int v3)] rfl ?_
      exact aw_X7_lay_44 G RR T hL   v1 v2 v3 g_28  h
    · have h := h.1 c_30
      refine sv_ldc (pc := 41) G dX7_lay_41 cn_X7_90 ?_
      exact sv_ireturn (pc := 43) G T ⟨(Nat.le_of_ble_eq_true rfl), (Nat.le_of_ble_eq_true rfl)⟩ dX7_lay_43 ⟨_, rfl, rfl, h⟩
set_option maxRecDepth 100000 in
set_option maxHeartbeats 4000000 in
theorem c_X7_lay {b : Nat} {xt : sv_Xt} {F : sv_Fr} {v1 : Int32} {v2 : Int32} {v3 : Int32} {g : sv_Mg} {Q : Int32 → sv_Mg → Prop} (hL : sv_Lay F) (h : wp_X7_lay F v1 v2 v3 g Q) : sv_Cal yX7_lay cX7_lay 6 (some .int) 2 44 0 0 b xt [.ref (b + 58), .int v1, .int v2, .int v3] F g (sv_qI F Q) := by
  refine sv_intro mw_X7_lay [(0, .ref (b + 58)), (1, .int v1), (2, .int v2), (3, .int v3)] rfl (Nat.le_of_ble_eq_true rfl) (fun x G RR T NM => ?_)
  have G : sv_G x b xt RX7 cX7_lay 6 := G
  unfold wp_X7_lay at h
  refine sv_iload_n (pc := 0) G dX7_lay_0 1 rfl ?_
  refine sv_callS (cs := 0) (sl := 0) (st := []) (As := [.int v1]) (pc := 1) G RR (c_X7_isSlot hL  h) mw_X7_isSlot lk_X7_269 rfl ⟨(Nat.le_of_ble_eq_true rfl), (Nat.le_of_ble_eq_true rfl)⟩ ⟨(Nat.le_of_ble_eq_true rfl), (Nat.le_of_ble_eq_true rfl)⟩ (Nat.le_of_ble_eq_true rfl) rfl dX7_lay_1 (sv_kI (fun r_32 g_31 h => ?_))
  refine sv_if_eq (pc := 4) G 41 (by decide) dX7_lay_4 (fun c_33 => ?_) (fun c_33 => ?_)
  · have h := h.1 c_33
    refine sv_ldc (pc := 41) G dX7_lay_41 cn_X7_90 ?_
    exact sv_ireturn (pc := 43) G T ⟨(Nat.le_of_ble_eq_true rfl), (Nat.le_of_ble_eq_true rfl)⟩ dX7_lay_43 ⟨_, rfl, rfl, h⟩
  · have h := h.2 c_33
    refine sv_iload_n (pc := 7) G dX7_lay_7 2 rfl ?_
    refine sv_iconst (pc := 8) G dX7_lay_8 0 ic_0 ?_
    refine sv_iconst (pc := 9) G dX7_lay_9 3 ic_3 ?_
    refine sv_callS (cs := 0) (sl := 0) (st := []) (As := [.int v2, .int 0, .int 3]) (pc := 10) G RR (c_X7_in hL  h) mw_X7_in lk_X7_82 rfl ⟨(Nat.le_of_ble_eq_true rfl), (Nat.le_of_ble_eq_true rfl)⟩ ⟨(Nat.le_of_ble_eq_true rfl), (Nat.le_of_ble_eq_true rfl)⟩ (Nat.le_of_ble_eq_true rfl) rfl dX7_lay_10 (sv_kI (fun r_35 g_34 h => ?_))
    refine sv_if_eq (pc := 13) G 41 (by decide) dX7_lay_13 (fun c_36 => ?_) (fun c_36 => ?_)
    · have h := h.1 c_36
      refine sv_ldc (pc := 41) G dX7_lay_41 cn_X7_90 ?_
      exact sv_ireturn (pc := 43) G T ⟨(Nat.le_of_ble_eq_true rfl), (Nat.le_of_ble_eq_true rfl)⟩ dX7_lay_43 ⟨_, rfl, rfl, h⟩
    · have h := h.2 c_36
      refine sv_iload_n (pc := 16) G dX7_lay_16 2 rfl ?_
      refine sv_iconst (pc := 17) G dX7_lay_17 1 ic_1 ?_
      refine sv_ic_ne (pc := 18) G 29 (by decide) dX7_lay_18 (fun c_37 => ?_) (fun c_37 => ?_)
      · have h := h.2 c_37
        refine sv_locs [0, 1, 2, 3] [(0, .ref (b + 58)), (1, .int v1), (2, .int v2), (3, .int v3)] rfl ?_
        exact aw_X7_lay_29 G RR T hL   v1 v2 v3 g_34  h
      · have h := h.1 c_37
        refine sv_aload_n (pc := 21) G dX7_lay_21 0 rfl ?_
        refine sv_iload_n (pc := 22) G dX7_lay_22 3 rfl ?_
        refine sv_callV (cs := 0) (sl := 0) (st := []) (As := [.int v3]) (a := 58) (pc := 23) G RR (c_X7_isVoter hL  h) mw_X7_isVoter lk_X7_139 (hL.sh rfl) (by decide) rfl rfl ⟨(Nat.le_of_ble_eq_true rfl), (Nat.le_of_ble_eq_true rfl)⟩ ⟨(Nat.le_of_ble_eq_true rfl), (Nat.le_of_ble_eq_true rfl)⟩ (Nat.le_of_ble_eq_true rfl) rfl dX7_lay_23 (sv_kI (fun r_39 g_38 h => ?_))
        refine sv_if_eq (pc := 26) G 41 (by decide) dX7_lay_26 (fun c_40 => ?_) (fun c_40 => ?_)
        · have h := h.1 c_40
          refine sv_ldc (pc := 41) G dX7_lay_41 cn_X7_90 ?_
          exact sv_ireturn (pc := 43) G T ⟨(Nat.le_of_ble_eq_true rfl), (Nat.le_of_ble_eq_true rfl)⟩ dX7_lay_43 ⟨_, rfl, rfl, h⟩
        · have h := h.2 c_40
          refine sv_locs [0, 1, 2, 3] [(0, .ref (b + 58)), (1, .int v1), (2, .int v2), (3, .int v3)] rfl ?_
          exact aw_X7_lay_29 G RR T hL   v1 v2 v3 g_38  h
def wp_X7_ask (F : sv_Fr) (v1 : Int32) (v2 : Int32) (g : sv_Mg) (Q : Int32 → sv_Mg → Prop) : Prop := wp_X7_isSlot F v1 g (fun r_2 g_1 => ((r_2 = 0 → Q (-1000000001) g_1) ∧ (¬ r_2 = 0 → wp_X7_in F v2 0 5 g_1 (fun r_5 g_4 => ((r_5 = 0 → Q (-1000000001) g_4) ∧ (¬ r_5 = 0 → vp_in v1 5 ∧ (((g_4 76 v1.toNatClampNeg) = 0 → Q (-1000000011) g_4) ∧ (¬ (g_4 76 v1.toNatClampNeg) = 0 → vp_in v1 5 ∧ (((g_4 76 v1.toNatClampNeg) = 1 → vp_in v1 5 ∧ wp_X7_isUnder F (g_4 77 v1.toNatClampNeg) v2 g_4 (fun r_13 g_12 => ((r_13 = 0 → Q (-1000000012) g_12) ∧ (¬ r_13 = 0 → vp_in v1 5 ∧ Q (g_12 78 v1.toNatClampNeg) g_12)))) ∧ (¬ (g_4 76 v1.toNatClampNeg) = 1 → Q (-1000000012) g_4))))))))))
set_option maxRecDepth 100000 in
set_option maxHeartbeats 4000000 in
theorem c_X7_ask {b : Nat} {xt : sv_Xt} {F : sv_Fr} {v1 : Int32} {v2 : Int32} {g : sv_Mg} {Q : Int32 → sv_Mg → Prop} (hL : sv_Lay F) (h : wp_X7_ask F v1 v2 g Q) : sv_Cal yX7_ask cX7_ask 3 (some .int) 2 42 0 0 b xt [.ref (b + 58), .int v1, .int v2] F g (sv_qI F Q) := by
  refine sv_intro mw_X7_ask [(0, .ref (b + 58)), (1, .int v1), (2, .int v2)] rfl (Nat.le_of_ble_eq_true rfl) (fun x G RR T NM => ?_)
  have G : sv_G x b xt RX7 cX7_ask 3 := G
  unfold wp_X7_ask at h
  refine sv_iload_n (pc := 0) G dX7_ask_0 1 rfl ?_
  refine sv_callS (cs := 0) (sl := 0) (st := []) (As := [.int v1]) (pc := 1) G RR (c_X7_isSlot hL  h) mw_X7_isSlot lk_X7_269 rfl ⟨(Nat.le_of_ble_eq_true rfl), (Nat.le_of_ble_eq_true rfl)⟩ ⟨(Nat.le_of_ble_eq_true rfl), (Nat.le_of_ble_eq_true rfl)⟩ (Nat.le_of_ble_eq_true rfl) rfl dX7_ask_1 (sv_kI (fun r_2 g_1 h => ?_))
  refine sv_if_eq (pc := 4) G 16 (by decide) dX7_ask_4 (fun c_3 => ?_) (fun c_3 => ?_)
  · have h := h.1 c_3
    refine sv_ldc (pc := 16) G dX7_ask_16 cn_X7_90 ?_
    exact sv_ireturn (pc := 18) G T ⟨(Nat.le_of_ble_eq_true rfl), (Nat.le_of_ble_eq_true rfl)⟩ dX7_ask_18 ⟨_, rfl, rfl, h⟩
  · have h := h.2 c_3
    refine sv_iload_n (pc := 7) G dX7_ask_7 2 rfl ?_
    refine sv_iconst (pc := 8) G dX7_ask_8 0 ic_0 ?_
    refine sv_iconst (pc := 9) G dX7_ask_9 5 ic_5 ?_
    refine sv_callS (cs := 0) (sl := 0) (st := []) (As := [.int v2, .int 0, .int 5]) (pc := 10) G RR (c_X7_in hL  h) mw_X7_in lk_X7_82 rfl ⟨(Nat.le_of_ble_eq_true rfl), (Nat.le_of_ble_eq_true rfl)⟩ ⟨(Nat.le_of_ble_eq_true rfl), (Nat.le_of_ble_eq_true rfl)⟩ (Nat.le_of_ble_eq_true rfl) rfl dX7_ask_10 (sv_kI (fun r_5 g_4 h => ?_))
    refine sv_if_ne (pc := 13) G 19 (by decide) dX7_ask_13 (fun c_6 => ?_) (fun c_6 => ?_)
    · have h := h.2 c_6
      refine sv_aload_n (pc := 19) G dX7_ask_19 0 rfl ?_
      refine sv_getR (pc := 20) G fw_X7_63 (hL.sh rfl) rfl (hL.rf 77 rfl) dX7_ask_20 ?_
      refine sv_iload_n (pc := 23) G dX7_ask_23 1 rfl ?_
      obtain ⟨s_7, h⟩ := h
      refine sv_ialdK (pc := 24) G (hL.sh rfl) s_7 v1.toNatClampNeg rfl dX7_ask_24 ?_
      refine sv_if_ne (pc := 25) G 31 (by decide) dX7_ask_25 (fun c_8 => ?_) (fun c_8 => ?_)
      · have h := h.2 c_8
        refine sv_aload_n (pc := 31) G dX7_ask_31 0 rfl ?_
        refine sv_getR (pc := 32) G fw_X7_63 (hL.sh rfl) rfl (hL.rf 77 rfl) dX7_ask_32 ?_
        refine sv_iload_n (pc := 35) G dX7_ask_35 1 rfl ?_
        obtain ⟨s_9, h⟩ := h
        refine sv_ialdK (pc := 36) G (hL.sh rfl) s_9 v1.toNatClampNeg rfl dX7_ask_36 ?_
        refine sv_iconst (pc := 37) G dX7_ask_37 1 ic_1 ?_
        refine sv_ic_ne (pc := 38) G 63 (by decide) dX7_ask_38 (fun c_10 => ?_) (fun c_10 => ?_)
        · have h := h.2 c_10
          refine sv_ldc (pc := 63) G dX7_ask_63 cn_X7_153 ?_
          exact sv_ireturn (pc := 65) G T ⟨(Nat.le_of_ble_eq_true rfl), (Nat.le_of_ble_eq_true rfl)⟩ dX7_ask_65 ⟨_, rfl, rfl, h⟩
        · have h := h.1 c_10
          refine sv_aload_n (pc := 41) G dX7_ask_41 0 rfl ?_
          refine sv_getR (pc := 42) G fw_X7_66 (hL.sh rfl) rfl (hL.rf 78 rfl) dX7_ask_42 ?_
          refine sv_iload_n (pc := 45) G dX7_ask_45 1 rfl ?_
          obtain ⟨s_11, h⟩ := h
          refine sv_ialdK (pc := 46) G (hL.sh rfl) s_11 v1.toNatClampNeg rfl dX7_ask_46 ?_
          refine sv_iload_n (pc := 47) G dX7_ask_47 2 rfl ?_
          refine sv_callS (cs := 0) (sl := 0) (st := []) (As := [.int (g_4 77 v1.toNatClampNeg), .int v2]) (pc := 48) G RR (c_X7_isUnder hL  h) mw_X7_isUnder lk_X7_149 rfl ⟨(Nat.le_of_ble_eq_true rfl), (Nat.le_of_ble_eq_true rfl)⟩ ⟨(Nat.le_of_ble_eq_true rfl), (Nat.le_of_ble_eq_true rfl)⟩ (Nat.le_of_ble_eq_true rfl) rfl dX7_ask_48 (sv_kI (fun r_13 g_12 h => ?_))
          refine sv_if_eq (pc := 51) G 63 (by decide) dX7_ask_51 (fun c_14 => ?_) (fun c_14 => ?_)
          · have h := h.1 c_14
            refine sv_ldc (pc := 63) G dX7_ask_63 cn_X7_153 ?_
            exact sv_ireturn (pc := 65) G T ⟨(Nat.le_of_ble_eq_true rfl), (Nat.le_of_ble_eq_true rfl)⟩ dX7_ask_65 ⟨_, rfl, rfl, h⟩
          · have h := h.2 c_14
            refine sv_aload_n (pc := 54) G dX7_ask_54 0 rfl ?_
            refine sv_getR (pc := 55) G fw_X7_69 (hL.sh rfl) rfl (hL.rf 79 rfl) dX7_ask_55 ?_
            refine sv_iload_n (pc := 58) G dX7_ask_58 1 rfl ?_
            obtain ⟨s_15, h⟩ := h
            refine sv_ialdK (pc := 59) G (hL.sh rfl) s_15 v1.toNatClampNeg rfl dX7_ask_59 ?_
            refine sv_goto (pc := 60) G dX7_ask_60 65 (by decide) ?_
            exact sv_ireturn (pc := 65) G T ⟨(Nat.le_of_ble_eq_true rfl), (Nat.le_of_ble_eq_true rfl)⟩ dX7_ask_65 ⟨_, rfl, rfl, h⟩
      · have h := h.1 c_8
        refine sv_ldc (pc := 28) G dX7_ask_28 cn_X7_192 ?_
        exact sv_ireturn (pc := 30) G T ⟨(Nat.le_of_ble_eq_true rfl), (Nat.le_of_ble_eq_true rfl)⟩ dX7_ask_30 ⟨_, rfl, rfl, h⟩
    · have h := h.1 c_6
      refine sv_ldc (pc := 16) G dX7_ask_16 cn_X7_90 ?_
      exact sv_ireturn (pc := 18) G T ⟨(Nat.le_of_ble_eq_true rfl), (Nat.le_of_ble_eq_true rfl)⟩ dX7_ask_18 ⟨_, rfl, rfl, h⟩
def wp_X7_item (F : sv_Fr) (v1 : Int32) (v2 : Int32) (g : sv_Mg) (Q : Int32 → sv_Mg → Prop) : Prop := wp_X7_isSlot F v1 g (fun r_2 g_1 => ((r_2 = 0 → Q (-1000000001) g_1) ∧ (¬ r_2 = 0 → vp_in v1 5 ∧ (((g_1 76 v1.toNatClampNeg) = 0 → Q (-1000000011) g_1) ∧ (¬ (g_1 76 v1.toNatClampNeg) = 0 → vp_in v1 5 ∧ (((g_1 76 v1.toNatClampNeg) = 2 → vp_in v1 5 ∧ wp_X7_in F v2 0 ((g_1 77 v1.toNatClampNeg) - 1) g_1 (fun r_10 g_9 => ((r_10 = 0 → Q (-1000000013) g_9) ∧ (¬ r_10 = 0 → vp_in ((24 * v1) + v2) 120 ∧ ∀ v3_13 : Int32, v3_13 = (g_9 79 ((24 * v1) + v2).toNatClampNeg) → ((v3_13 = (-1000000005) → Q (-1000000012) g_9) ∧ (¬ v3_13 = (-1000000005) → Q v3_13 g_9)))))) ∧ (¬ (g_1 76 v1.toNatClampNeg) = 2 → Q (-1000000012) g_1)))))))
set_option maxRecDepth 100000 in
set_option maxHeartbeats 4000000 in
theorem c_X7_item {b : Nat} {xt : sv_Xt} {F : sv_Fr} {v1 : Int32} {v2 : Int32} {g : sv_Mg} {Q : Int32 → sv_Mg → Prop} (hL : sv_Lay F) (h : wp_X7_item F v1 v2 g Q) : sv_Cal yX7_item cX7_item 4 (some .int) 2 42 0 0 b xt [.ref (b + 58), .int v1, .int v2] F g (sv_qI F Q) := by
  refine sv_intro mw_X7_item [(0, .ref (b + 58)), (1, .int v1), (2, .int v2)] rfl (Nat.le_of_ble_eq_true rfl) (fun x G RR T NM => ?_)
  have G : sv_G x b xt RX7 cX7_item 4 := G
  unfold wp_X7_item at h
  refine sv_iload_n (pc := 0) G dX7_item_0 1 rfl ?_
  refine sv_callS (cs := 0) (sl := 0) (st := []) (As := [.int v1]) (pc := 1) G RR (c_X7_isSlot hL  h) mw_X7_isSlot lk_X7_269 rfl ⟨(Nat.le_of_ble_eq_true rfl), (Nat.le_of_ble_eq_true rfl)⟩ ⟨(Nat.le_of_ble_eq_true rfl), (Nat.le_of_ble_eq_true rfl)⟩ (Nat.le_of_ble_eq_true rfl) rfl dX7_item_1 (sv_kI (fun r_2 g_1 h => ?_))
  refine sv_if_ne (pc := 4) G 10 (by decide) dX7_item_4 (fun c_3 => ?_) (fun c_3 => ?_)
  · have h := h.2 c_3
    refine sv_aload_n (pc := 10) G dX7_item_10 0 rfl ?_
    refine sv_getR (pc := 11) G fw_X7_63 (hL.sh rfl) rfl (hL.rf 77 rfl) dX7_item_11 ?_
    refine sv_iload_n (pc := 14) G dX7_item_14 1 rfl ?_
    obtain ⟨s_4, h⟩ := h
    refine sv_ialdK (pc := 15) G (hL.sh rfl) s_4 v1.toNatClampNeg rfl dX7_item_15 ?_
    refine sv_if_ne (pc := 16) G 22 (by decide) dX7_item_16 (fun c_5 => ?_) (fun c_5 => ?_)
    · have h := h.2 c_5
      refine sv_aload_n (pc := 22) G dX7_item_22 0 rfl ?_
      refine sv_getR (pc := 23) G fw_X7_63 (hL.sh rfl) rfl (hL.rf 77 rfl) dX7_item_23 ?_
      refine sv_iload_n (pc := 26) G dX7_item_26 1 rfl ?_
      obtain ⟨s_6, h⟩ := h
      refine sv_ialdK (pc := 27) G (hL.sh rfl) s_6 v1.toNatClampNeg rfl dX7_item_27 ?_
      refine sv_iconst (pc := 28) G dX7_item_28 2 ic_2 ?_
      refine sv_ic_eq (pc := 29) G 35 (by decide) dX7_item_29 (fun c_7 => ?_) (fun c_7 => ?_)
      · have h := h.1 c_7
        refine sv_iload_n (pc := 35) G dX7_item_35 2 rfl ?_
        refine sv_iconst (pc := 36) G dX7_item_36 0 ic_0 ?_
        refine sv_aload_n (pc := 37) G dX7_item_37 0 rfl ?_
        refine sv_getR (pc := 38) G fw_X7_66 (hL.sh rfl) rfl (hL.rf 78 rfl) dX7_item_38 ?_
        refine sv_iload_n (pc := 41) G dX7_item_41 1 rfl ?_
        obtain ⟨s_8, h⟩ := h
        refine sv_ialdK (pc := 42) G (hL.sh rfl) s_8 v1.toNatClampNeg rfl dX7_item_42 ?_
        refine sv_iconst (pc := 43) G dX7_item_43 1 ic_1 ?_
        refine sv_isub (pc := 44) G dX7_item_44 ?_
        refine sv_callS (cs := 0) (sl := 0) (st := []) (As := [.int v2, .int 0, .int ((g_1 77 v1.toNatClampNeg) - 1)]) (pc := 45) G RR (c_X7_in hL  h) mw_X7_in lk_X7_82 rfl ⟨(Nat.le_of_ble_eq_true rfl), (Nat.le_of_ble_eq_true rfl)⟩ ⟨(Nat.le_of_ble_eq_true rfl), (Nat.le_of_ble_eq_true rfl)⟩ (Nat.le_of_ble_eq_true rfl) rfl dX7_item_45 (sv_kI (fun r_10 g_9 h => ?_))
        refine sv_if_ne (pc := 48) G 55 (by decide) dX7_item_48 (fun c_11 => ?_) (fun c_11 => ?_)
        · have h := h.2 c_11
          refine sv_aload_n (pc := 55) G dX7_item_55 0 rfl ?_
          refine sv_getR (pc := 56) G fw_X7_72 (hL.sh rfl) rfl (hL.rf 80 rfl) dX7_item_56 ?_
          refine sv_bipush (pc := 59) G dX7_item_59 24 bp_24 ?_
          refine sv_iload_n (pc := 61) G dX7_item_61 1 rfl ?_
          refine sv_imul (pc := 62) G dX7_item_62 ?_
          refine sv_iload_n (pc := 63) G dX7_item_63 2 rfl ?_
          refine sv_iadd (pc := 64) G dX7_item_64 ?_
          obtain ⟨s_12, h⟩ := h
          refine sv_ialdK (pc := 65) G (hL.sh rfl) s_12 ((24 * v1) + v2).toNatClampNeg rfl dX7_item_65 ?_
          refine sv_topi (fun v3_13 ev3_13 => ?_)
          have h := h v3_13 ev3_13
          refine sv_istore_n (pc := 66) G dX7_item_66 [(3, .int v3_13), (0, .ref (b + 58)), (1, .int v1), (2, .int v2)] (by decide) rfl ?_
          refine sv_iload_n (pc := 67) G dX7_item_67 0 rfl ?_
          refine sv_ldc (pc := 68) G dX7_item_68 cn_X7_81 ?_
          refine sv_ic_ne (pc := 70) G 78 (by decide) dX7_item_70 (fun c_14 => ?_) (fun c_14 => ?_)
          · have h := h.2 c_14
            refine sv_iload_n (pc := 78) G dX7_item_78 0 rfl ?_
            exact sv_ireturn (pc := 79) G T ⟨(Nat.le_of_ble_eq_true rfl), (Nat.le_of_ble_eq_true rfl)⟩ dX7_item_79 ⟨_, rfl, rfl, h⟩
          · have h := h.1 c_14
            refine sv_ldc (pc := 73) G dX7_item_73 cn_X7_153 ?_
            refine sv_goto (pc := 75) G dX7_item_75 79 (by decide) ?_
            exact sv_ireturn (pc := 79) G T ⟨(Nat.le_of_ble_eq_true rfl), (Nat.le_of_ble_eq_true rfl)⟩ dX7_item_79 ⟨_, rfl, rfl, h⟩
        · have h := h.1 c_11
          refine sv_ldcw (pc := 51) G dX7_item_51 cn_X7_266 ?_
          exact sv_ireturn (pc := 54) G T ⟨(Nat.le_of_ble_eq_true rfl), (Nat.le_of_ble_eq_true rfl)⟩ dX7_item_54 ⟨_, rfl, rfl, h⟩
      · have h := h.2 c_7
        refine sv_ldc (pc := 32) G dX7_item_32 cn_X7_153 ?_
        exact sv_ireturn (pc := 34) G T ⟨(Nat.le_of_ble_eq_true rfl), (Nat.le_of_ble_eq_true rfl)⟩ dX7_item_34 ⟨_, rfl, rfl, h⟩
    · have h := h.1 c_5
      refine sv_ldc (pc := 19) G dX7_item_19 cn_X7_192 ?_
      exact sv_ireturn (pc := 21) G T ⟨(Nat.le_of_ble_eq_true rfl), (Nat.le_of_ble_eq_true rfl)⟩ dX7_item_21 ⟨_, rfl, rfl, h⟩
  · have h := h.1 c_3
    refine sv_ldc (pc := 7) G dX7_item_7 cn_X7_90 ?_
    exact sv_ireturn (pc := 9) G T ⟨(Nat.le_of_ble_eq_true rfl), (Nat.le_of_ble_eq_true rfl)⟩ dX7_item_9 ⟨_, rfl, rfl, h⟩
def wp_X7_rest (F : sv_Fr) (v1 : Int32) (v2 : Int32) (g : sv_Mg) (Q : Int32 → sv_Mg → Prop) : Prop := wp_X7_isSlot F v1 g (fun r_2 g_1 => ((r_2 = 0 → Q (-1000000001) g_1) ∧ (¬ r_2 = 0 → vp_in v1 5 ∧ (((g_1 76 v1.toNatClampNeg) = 0 → Q (-1000000011) g_1) ∧ (¬ (g_1 76 v1.toNatClampNeg) = 0 → vp_in v1 5 ∧ (((g_1 76 v1.toNatClampNeg) = 3 → ((v2 = 0 → Q (-1000000002) g_1) ∧ (¬ v2 = 0 → ((v2 = (-1) → Q 0 g_1) ∧ (¬ v2 = (-1) → vp_in v1 5 ∧ ¬ v2 = 0 ∧ Q ((g_1 77 v1.toNatClampNeg) - (g_1 77 v1.toNatClampNeg) / v2 * v2) g_1))))) ∧ (¬ (g_1 76 v1.toNatClampNeg) = 3 → Q (-1000000012) g_1)))))))
set_option maxRecDepth 100000 in
set_option maxHeartbeats 4000000 in
theorem c_X7_rest {b : Nat} {xt : sv_Xt} {F : sv_Fr} {v1 : Int32} {v2 : Int32} {g : sv_Mg} {Q : Int32 → sv_Mg → Prop} (hL : sv_Lay F) (h : wp_X7_rest F v1 v2 g Q) : sv_Cal yX7_rest cX7_rest 3 (some .int) 2 42 0 0 b xt [.ref (b + 58), .int v1, .int v2] F g (sv_qI F Q) := by
  refine sv_intro mw_X7_rest [(0, .ref (b + 58)), (1, .int v1), (2, .int v2)] rfl (Nat.le_of_ble_eq_true rfl) (fun x G RR T NM => ?_)
  have G : sv_G x b xt RX7 cX7_rest 3 := G
  unfold wp_X7_rest at h
  refine sv_iload_n (pc := 0) G dX7_rest_0 1 rfl ?_
  refine sv_callS (cs := 0) (sl := 0) (st := []) (As := [.int v1]) (pc := 1) G RR (c_X7_isSlot hL  h) mw_X7_isSlot lk_X7_269 rfl ⟨(Nat.le_of_ble_eq_true rfl), (Nat.le_of_ble_eq_true rfl)⟩ ⟨(Nat.le_of_ble_eq_true rfl), (Nat.le_of_ble_eq_true rfl)⟩ (Nat.le_of_ble_eq_true rfl) rfl dX7_rest_1 (sv_kI (fun r_2 g_1 h => ?_))
  refine sv_if_ne (pc := 4) G 10 (by decide) dX7_rest_4 (fun c_3 => ?_) (fun c_3 => ?_)
  · have h := h.2 c_3
    refine sv_aload_n (pc := 10) G dX7_rest_10 0 rfl ?_
    refine sv_getR (pc := 11) G fw_X7_63 (hL.sh rfl) rfl (hL.rf 77 rfl) dX7_rest_11 ?_
    refine sv_iload_n (pc := 14) G dX7_rest_14 1 rfl ?_
    obtain ⟨s_4, h⟩ := h
    refine sv_ialdK (pc := 15) G (hL.sh rfl) s_4 v1.toNatClampNeg rfl dX7_rest_15 ?_
    refine sv_if_ne (pc := 16) G 22 (by decide) dX7_rest_16 (fun c_5 => ?_) (fun c_5 => ?_)
    · have h := h.2 c_5
      refine sv_aload_n (pc := 22) G dX7_rest_22 0 rfl ?_
      refine sv_getR (pc := 23) G fw_X7_63 (hL.sh rfl) rfl (hL.rf 77 rfl) dX7_rest_23 ?_
      refine sv_iload_n (pc := 26) G dX7_rest_26 1 rfl ?_
      obtain ⟨s_6, h⟩ := h
      refine sv_ialdK (pc := 27) G (hL.sh rfl) s_6 v1.toNatClampNeg rfl dX7_rest_27 ?_
      refine sv_iconst (pc := 28) G dX7_rest_28 3 ic_3 ?_
      refine sv_ic_eq (pc := 29) G 35 (by decide) dX7_rest_29 (fun c_7 => ?_) (fun c_7 => ?_)
      · have h := h.1 c_7
        refine sv_iload_n (pc := 35) G dX7_rest_35 2 rfl ?_
        refine sv_if_ne (pc := 36) G 45 (by decide) dX7_rest_36 (fun c_8 => ?_) (fun c_8 => ?_)
        · have h := h.2 c_8
          refine sv_iload_n (pc := 45) G dX7_rest_45 2 rfl ?_
          refine sv_iconst (pc := 46) G dX7_rest_46 (-1) ic_m1 ?_
          refine sv_ic_ne (pc := 47) G 54 (by decide) dX7_rest_47 (fun c_9 => ?_) (fun c_9 => ?_)
          · have h := h.2 c_9
            refine sv_aload_n (pc := 54) G dX7_rest_54 0 rfl ?_
            refine sv_getR (pc := 55) G fw_X7_66 (hL.sh rfl) rfl (hL.rf 78 rfl) dX7_rest_55 ?_
            refine sv_iload_n (pc := 58) G dX7_rest_58 1 rfl ?_
            obtain ⟨s_10, h⟩ := h
            refine sv_ialdK (pc := 59) G (hL.sh rfl) s_10 v1.toNatClampNeg rfl dX7_rest_59 ?_
            refine sv_iload_n (pc := 60) G dX7_rest_60 2 rfl ?_
            obtain ⟨s_11, h⟩ := h
            refine sv_irem (pc := 61) G dX7_rest_61 s_11 ?_
            exact sv_ireturn (pc := 62) G T ⟨(Nat.le_of_ble_eq_true rfl), (Nat.le_of_ble_eq_true rfl)⟩ dX7_rest_62 ⟨_, rfl, rfl, h⟩
          · have h := h.1 c_9
            refine sv_iconst (pc := 50) G dX7_rest_50 0 ic_0 ?_
            refine sv_goto (pc := 51) G dX7_rest_51 62 (by decide) ?_
            exact sv_ireturn (pc := 62) G T ⟨(Nat.le_of_ble_eq_true rfl), (Nat.le_of_ble_eq_true rfl)⟩ dX7_rest_62 ⟨_, rfl, rfl, h⟩
        · have h := h.1 c_8
          refine sv_ldcw (pc := 39) G dX7_rest_39 cn_X7_272 ?_
          refine sv_goto (pc := 42) G dX7_rest_42 62 (by decide) ?_
          exact sv_ireturn (pc := 62) G T ⟨(Nat.le_of_ble_eq_true rfl), (Nat.le_of_ble_eq_true rfl)⟩ dX7_rest_62 ⟨_, rfl, rfl, h⟩
      · have h := h.2 c_7
        refine sv_ldc (pc := 32) G dX7_rest_32 cn_X7_153 ?_
        exact sv_ireturn (pc := 34) G T ⟨(Nat.le_of_ble_eq_true rfl), (Nat.le_of_ble_eq_true rfl)⟩ dX7_rest_34 ⟨_, rfl, rfl, h⟩
    · have h := h.1 c_5
      refine sv_ldc (pc := 19) G dX7_rest_19 cn_X7_192 ?_
      exact sv_ireturn (pc := 21) G T ⟨(Nat.le_of_ble_eq_true rfl), (Nat.le_of_ble_eq_true rfl)⟩ dX7_rest_21 ⟨_, rfl, rfl, h⟩
  · have h := h.1 c_3
    refine sv_ldc (pc := 7) G dX7_rest_7 cn_X7_90 ?_
    exact sv_ireturn (pc := 9) G T ⟨(Nat.le_of_ble_eq_true rfl), (Nat.le_of_ble_eq_true rfl)⟩ dX7_rest_9 ⟨_, rfl, rfl, h⟩
def wp_X7_tell (F : sv_Fr) (v1 : Int32) (g : sv_Mg) (Q : Int32 → sv_Mg → Prop) : Prop := (((g 58 34) = 60 → Q (-1000000003) g) ∧ (¬ (g 58 34) = 60 → vp_in (g 58 34) 60 ∧ ∀ g_3, g_3 = sv_st g 81 (g 58 34).toNatClampNeg v1 → ∀ g_4, g_4 = sv_st g_3 58 34 ((g_3 58 34) + 1) → Q (g_4 58 34) g_4))
set_option maxRecDepth 100000 in
set_option maxHeartbeats 4000000 in
theorem c_X7_tell {b : Nat} {xt : sv_Xt} {F : sv_Fr} {v1 : Int32} {g : sv_Mg} {Q : Int32 → sv_Mg → Prop} (hL : sv_Lay F) (h : wp_X7_tell F v1 g Q) : sv_Cal yX7_tell cX7_tell 2 (some .int) 0 0 0 0 b xt [.ref (b + 58), .int v1] F g (sv_qI F Q) := by
  refine sv_intro mw_X7_tell [(0, .ref (b + 58)), (1, .int v1)] rfl (Nat.le_of_ble_eq_true rfl) (fun x G RR T NM => ?_)
  have G : sv_G x b xt RX7 cX7_tell 2 := G
  unfold wp_X7_tell at h
  refine sv_aload_n (pc := 0) G dX7_tell_0 0 rfl ?_
  refine sv_getI (pc := 1) G fw_X7_273 (hL.sh rfl) rfl dX7_tell_1 ?_
  refine sv_bipush (pc := 4) G dX7_tell_4 60 bp_60 ?_
  refine sv_ic_ne (pc := 6) G 12 (by decide) dX7_tell_6 (fun c_1 => ?_) (fun c_1 => ?_)
  · have h := h.2 c_1
    refine sv_aload_n (pc := 12) G dX7_tell_12 0 rfl ?_
    refine sv_getR (pc := 13) G fw_X7_78 (hL.sh rfl) rfl (hL.rf 82 rfl) dX7_tell_13 ?_
    refine sv_aload_n (pc := 16) G dX7_tell_16 0 rfl ?_
    refine sv_getI (pc := 17) G fw_X7_273 (hL.sh rfl) rfl dX7_tell_17 ?_
    refine sv_iload_n (pc := 20) G dX7_tell_20 1 rfl ?_
    obtain ⟨s_2, h⟩ := h
    refine sv_iastK (pc := 21) G (hL.sh rfl) s_2 (g 58 34).toNatClampNeg rfl dX7_tell_21 (fun g_3 eg_3 => ?_)
    have h := h g_3 eg_3
    refine sv_aload_n (pc := 22) G dX7_tell_22 0 rfl ?_
    refine sv_dup (pc := 23) G dX7_tell_23 rfl ?_
    refine sv_getI (pc := 24) G fw_X7_273 (hL.sh rfl) rfl dX7_tell_24 ?_
    refine sv_iconst (pc := 27) G dX7_tell_27 1 ic_1 ?_
    refine sv_iadd (pc := 28) G dX7_tell_28 ?_
    refine sv_putI (pc := 29) G fw_X7_273 (hL.sh rfl) rfl dX7_tell_29 (fun g_4 eg_4 => ?_)
    have h := h g_4 eg_4
    refine sv_aload_n (pc := 32) G dX7_tell_32 0 rfl ?_
    refine sv_getI (pc := 33) G fw_X7_273 (hL.sh rfl) rfl dX7_tell_33 ?_
    exact sv_ireturn (pc := 36) G T ⟨(Nat.le_of_ble_eq_true rfl), (Nat.le_of_ble_eq_true rfl)⟩ dX7_tell_36 ⟨_, rfl, rfl, h⟩
  · have h := h.1 c_1
    refine sv_ldc (pc := 9) G dX7_tell_9 cn_X7_91 ?_
    exact sv_ireturn (pc := 11) G T ⟨(Nat.le_of_ble_eq_true rfl), (Nat.le_of_ble_eq_true rfl)⟩ dX7_tell_11 ⟨_, rfl, rfl, h⟩
def wp_X7_check_181 (F : sv_Fr) (Q : Int32 → sv_Mg → Prop) (v2 : Int32) (v3 : Int32) (v4 : Int32) (g : sv_Mg) : Prop := wp_X7_copyAll F 61 1443 59 1443 g (fun g_1 => ((v4 = v2 → ((v4 = v3 → Q 0 g_1) ∧ (¬ v4 = v3 → Q (1 + v4) g_1))) ∧ (¬ v4 = v2 → Q (1 + v4) g_1)))
def wp_X7_check_172 (F : sv_Fr) (Q : Int32 → sv_Mg → Prop) (K80 : Int32 → Int32 → Int32 → Int32 → sv_Mg → Prop) (v2 : Int32) (v3 : Int32) (v5 : Int32) (s0 : Int32) (s1 : Int32) (g : sv_Mg) : Prop := ∀ v4_4 : Int32, v4_4 = (s1 + s0) → ∀ v5_5 : Int32, v5_5 = v5 + 1 → K80 v2 v3 v4_4 v5_5 g
def wp_X7_check_171 (F : sv_Fr) (Q : Int32 → sv_Mg → Prop) (K80 : Int32 → Int32 → Int32 → Int32 → sv_Mg → Prop) (v2 : Int32) (v3 : Int32) (v5 : Int32) (s0 : Int32) (g : sv_Mg) : Prop := wp_X7_check_172 F  Q K80 v2 v3 v5 0 s0 g
def wp_X7_check_131 (F : sv_Fr) (Q : Int32 → sv_Mg → Prop) (K80 : Int32 → Int32 → Int32 → Int32 → sv_Mg → Prop) (v2 : Int32) (v3 : Int32) (v5 : Int32) (s0 : Int32) (s1 : Int32) (g : sv_Mg) : Prop := ∀ v4_6 : Int32, v4_6 = (s1 + s0) → ((v4_6 = ((2 * v5) + 1) → ((v2 ≤ v4_6 → wp_X7_check_171 F  Q K80 v2 v3 v5 v4_6 g) ∧ (¬ v2 ≤ v4_6 → vp_in v4_6 60 ∧ wp_X7_mostHad F  g (fun r_11 g_10 => (((g 81 v4_6.toNatClampNeg) = r_11 → wp_X7_check_172 F  Q K80 v2 v3 v5 1 v4_6 g_10) ∧ (¬ (g 81 v4_6.toNatClampNeg) = r_11 → wp_X7_check_171 F  Q K80 v2 v3 v5 v4_6 g_10)))))) ∧ (¬ v4_6 = ((2 * v5) + 1) → wp_X7_check_171 F  Q K80 v2 v3 v5 v4_6 g))
def wp_X7_check_130 (F : sv_Fr) (Q : Int32 → sv_Mg → Prop) (K80 : Int32 → Int32 → Int32 → Int32 → sv_Mg → Prop) (v2 : Int32) (v3 : Int32) (v5 : Int32) (s0 : Int32) (g : sv_Mg) : Prop := wp_X7_check_131 F  Q K80 v2 v3 v5 0 s0 g
def wp_X7_check_80 (F : sv_Fr) (Q : Int32 → sv_Mg → Prop) : Nat → Int32 → Int32 → Int32 → Int32 → sv_Mg → Prop
  | 0, _, _, _, _, _ => False
  | n + 1, v2, v3, v4, v5, g => ((v3 ≤ (2 * v5) → wp_X7_check_181 F  Q  v2 v3 v4 g) ∧ (¬ v3 ≤ (2 * v5) → ((v4 = (2 * v5) → wp_X7_round F  g (fun g_15 => ((v2 ≤ v4 → wp_X7_check_130 F  Q (wp_X7_check_80 F Q  n) v2 v3 v5 v4 g_15) ∧ (¬ v2 ≤ v4 → vp_in v4 60 ∧ (((g_15 81 v4.toNatClampNeg) = (g_15 59 8) → wp_X7_check_131 F  Q (wp_X7_check_80 F Q  n) v2 v3 v5 1 v4 g_15) ∧ (¬ (g_15 81 v4.toNatClampNeg) = (g_15 59 8) → wp_X7_check_130 F  Q (wp_X7_check_80 F Q  n) v2 v3 v5 v4 g_15)))))) ∧ (¬ v4 = (2 * v5) → wp_X7_check_181 F  Q  v2 v3 v4 g))))
def wp_X7_check (F : sv_Fr) (v1 : Int32) (g : sv_Mg) (Q : Int32 → sv_Mg → Prop) : Prop := ∀ v2_19 : Int32, v2_19 = (g 58 34) → ∀ g_20, g_20 = sv_st g 58 34 0 → wp_X7_in F v1 1 30 g_20 (fun r_22 g_21 => ((r_22 = 0 → Q (-1000000001) g_21) ∧ (¬ r_22 = 0 → (((g_21 58 3) = 0 → Q (-1000000002) g_21) ∧ (¬ (g_21 58 3) = 0 → wp_X7_copyAll F 59 1443 61 1443 g_21 (fun g_25 => wp_X7_copyAll F 60 1443 59 1443 g_25 (fun g_26 => wp_X7_within F (9999 - (g_26 59 2)) 0 v1 g_26 (fun r_28 g_27 => ∀ v3_29 : Int32, v3_29 = (2 * r_28) → ∃ n_30, wp_X7_check_80 F  Q  n_30 v2_19 v3_29 0 0 g_27))))))))
set_option maxRecDepth 100000 in
set_option maxHeartbeats 4000000 in
theorem aw_X7_check_181 {x : sv_X} {b : Nat} {xt : sv_Xt} {F : sv_Fr} {Q : Int32 → sv_Mg → Prop} (G : sv_G x b xt RX7 cX7_check 6) (RR : sv_R x 9 200 0 0) (T : sv_RT x (some .int)) (hL : sv_Lay F) : ∀ (v2 : Int32) (v3 : Int32) (v4 : Int32) (g : sv_Mg), wp_X7_check_181 F Q  v2 v3 v4 g → sv_AW x (sv_Q x (sv_qI F Q) 0 0) F g 0 0 181 [(0, .ref (b + 58)), (2, .int v2), (3, .int v3), (4, .int v4)] [] := by
  intro v2 v3 v4 g h
  unfold wp_X7_check_181 at h
  refine sv_aload_n (pc := 181) G dX7_check_181 0 rfl ?_
  refine sv_getR (pc := 182) G fw_X7_16 (hL.sh rfl) rfl (hL.rf 62 rfl) dX7_check_182 ?_
  refine sv_aload_n (pc := 185) G dX7_check_185 0 rfl ?_
  refine sv_getR (pc := 186) G fw_X7_9 (hL.sh rfl) rfl (hL.rf 60 rfl) dX7_check_186 ?_
  refine sv_callS (cs := 0) (sl := 0) (st := []) (As := [.ref (b + 61), .ref (b + 59)]) (pc := 189) G RR (c_X7_copyAll hL (hL.sh rfl) (hL.sh rfl) h) mw_X7_copyAll lk_X7_280 rfl ⟨(Nat.le_of_ble_eq_true rfl), (Nat.le_of_ble_eq_true rfl)⟩ ⟨(Nat.le_of_ble_eq_true rfl), (Nat.le_of_ble_eq_true rfl)⟩ (Nat.le_of_ble_eq_true rfl) rfl dX7_check_189 (sv_kV (fun g_1 h => ?_))
  refine sv_iload (pc := 192) G dX7_check_192 3 rfl ?_
  refine sv_iload_n (pc := 194) G dX7_check_194 1 rfl ?_
  refine sv_ic_ne (pc := 195) G 208 (by decide) dX7_check_195 (fun c_2 => ?_) (fun c_2 => ?_)
  · have h := h.2 c_2
    refine sv_iconst (pc := 208) G dX7_check_208 1 ic_1 ?_
    refine sv_iload (pc := 209) G dX7_check_209 3 rfl ?_
    refine sv_iadd (pc := 211) G dX7_check_211 ?_
    exact sv_ireturn (pc := 212) G T ⟨(Nat.le_of_ble_eq_true rfl), (Nat.le_of_ble_eq_true rfl)⟩ dX7_check_212 ⟨_, rfl, rfl, h⟩
  · have h := h.1 c_2
    refine sv_iload (pc := 198) G dX7_check_198 3 rfl ?_
    refine sv_iload_n (pc := 200) G dX7_check_200 2 rfl ?_
    refine sv_ic_ne (pc := 201) G 208 (by decide) dX7_check_201 (fun c_3 => ?_) (fun c_3 => ?_)
    · have h := h.2 c_3
      refine sv_iconst (pc := 208) G dX7_check_208 1 ic_1 ?_
      refine sv_iload (pc := 209) G dX7_check_209 3 rfl ?_
      refine sv_iadd (pc := 211) G dX7_check_211 ?_
      exact sv_ireturn (pc := 212) G T ⟨(Nat.le_of_ble_eq_true rfl), (Nat.le_of_ble_eq_true rfl)⟩ dX7_check_212 ⟨_, rfl, rfl, h⟩
    · have h := h.1 c_3
      refine sv_iconst (pc := 204) G dX7_check_204 0 ic_0 ?_
      refine sv_goto (pc := 205) G dX7_check_205 212 (by decide) ?_
      exact sv_ireturn (pc := 212) G T ⟨(Nat.le_of_ble_eq_true rfl), (Nat.le_of_ble_eq_true rfl)⟩ dX7_check_212 ⟨_, rfl, rfl, h⟩
set_option maxRecDepth 100000 in
set_option maxHeartbeats 4000000 in
theorem aw_X7_check_172 {x : sv_X} {b : Nat} {xt : sv_Xt} {F : sv_Fr} {Q : Int32 → sv_Mg → Prop} (G : sv_G x b xt RX7 cX7_check 6) (RR : sv_R x 9 200 0 0) (T : sv_RT x (some .int)) (hL : sv_Lay F) {K80 : Int32 → Int32 → Int32 → Int32 → sv_Mg → Prop} (hK80 : ∀ (v2 : Int32) (v3 : Int32) (v4 : Int32) (v5 : Int32) (g : sv_Mg), K80 v2 v3 v4 v5 g → sv_AW x (sv_Q x (sv_qI F Q) 0 0) F g 0 0 80 [(0, .ref (b + 58)), (2, .int v2), (3, .int v3), (4, .int v4), (5, .int v5)] []) : ∀ (v2 : Int32) (v3 : Int32) (v5 : Int32) (s0 : Int32) (s1 : Int32) (g : sv_Mg), wp_X7_check_172 F Q K80 v2 v3 v5 s0 s1 g → sv_AW x (sv_Q x (sv_qI F Q) 0 0) F g 0 0 172 [(0, .ref (b + 58)), (2, .int v2), (3, .int v3), (5, .int v5)] [.int s0, .int s1] := by
  intro v2 v3 v5 s0 s1 g h
  unfold wp_X7_check_172 at h
  refine sv_iadd (pc := 172) G dX7_check_172 ?_
  refine sv_topi (fun v4_4 ev4_4 => ?_)
  have h := h v4_4 ev4_4
  refine sv_istore (pc := 173) G dX7_check_173 [(4, .int v4_4), (0, .ref (b + 58)), (2, .int v2), (3, .int v3), (5, .int v5)] (by decide) rfl ?_
  obtain ⟨v5_5, ev5_5⟩ : ∃ y : Int32, y = v5 + 1 := ⟨_, rfl⟩
  have h := h v5_5 ev5_5
  refine sv_iinc (pc := 175) G dX7_check_175 4 v5_5 [(5, .int v5_5), (4, .int v4_4), (0, .ref (b + 58)), (2, .int v2), (3, .int v3)] (by rw [ev5_5, ic_1]) rfl (by decide) rfl ?_
  refine sv_goto (pc := 178) G dX7_check_178 80 (by decide) ?_
  refine sv_locs [2, 3, 4, 1, 0] [(0, .ref (b + 58)), (2, .int v2), (3, .int v3), (4, .int v4_4), (5, .int v5_5)] rfl ?_
  exact hK80 v2 v3 v4_4 v5_5 g  h
set_option maxRecDepth 100000 in
set_option maxHeartbeats 4000000 in
theorem aw_X7_check_171 {x : sv_X} {b : Nat} {xt : sv_Xt} {F : sv_Fr} {Q : Int32 → sv_Mg → Prop} (G : sv_G x b xt RX7 cX7_check 6) (RR : sv_R x 9 200 0 0) (T : sv_RT x (some .int)) (hL : sv_Lay F) {K80 : Int32 → Int32 → Int32 → Int32 → sv_Mg → Prop} (hK80 : ∀ (v2 : Int32) (v3 : Int32) (v4 : Int32) (v5 : Int32) (g : sv_Mg), K80 v2 v3 v4 v5 g → sv_AW x (sv_Q x (sv_qI F Q) 0 0) F g 0 0 80 [(0, .ref (b + 58)), (2, .int v2), (3, .int v3), (4, .int v4), (5, .int v5)] []) : ∀ (v2 : Int32) (v3 : Int32) (v5 : Int32) (s0 : Int32) (g : sv_Mg), wp_X7_check_171 F Q K80 v2 v3 v5 s0 g → sv_AW x (sv_Q x (sv_qI F Q) 0 0) F g 0 0 171 [(0, .ref (b + 58)), (2, .int v2), (3, .int v3), (5, .int v5)] [.int s0] := by
  intro v2 v3 v5 s0 g h
  unfold wp_X7_check_171 at h
  refine sv_iconst (pc := 171) G dX7_check_171 0 ic_0 ?_
  refine sv_locs [0, 1, 2, 3] [(0, .ref (b + 58)), (2, .int v2), (3, .int v3), (5, .int v5)] rfl ?_
  exact aw_X7_check_172 G RR T hL  hK80 v2 v3 v5 0 s0 g  h
set_option maxRecDepth 100000 in
set_option maxHeartbeats 4000000 in
theorem aw_X7_check_131 {x : sv_X} {b : Nat} {xt : sv_Xt} {F : sv_Fr} {Q : Int32 → sv_Mg → Prop} (G : sv_G x b xt RX7 cX7_check 6) (RR : sv_R x 9 200 0 0) (T : sv_RT x (some .int)) (hL : sv_Lay F) {K80 : Int32 → Int32 → Int32 → Int32 → sv_Mg → Prop} (hK80 : ∀ (v2 : Int32) (v3 : Int32) (v4 : Int32) (v5 : Int32) (g : sv_Mg), K80 v2 v3 v4 v5 g → sv_AW x (sv_Q x (sv_qI F Q) 0 0) F g 0 0 80 [(0, .ref (b + 58)), (2, .int v2), (3, .int v3), (4, .int v4), (5, .int v5)] []) : ∀ (v2 : Int32) (v3 : Int32) (v5 : Int32) (s0 : Int32) (s1 : Int32) (g : sv_Mg), wp_X7_check_131 F Q K80 v2 v3 v5 s0 s1 g → sv_AW x (sv_Q x (sv_qI F Q) 0 0) F g 0 0 131 [(0, .ref (b + 58)), (2, .int v2), (3, .int v3), (5, .int v5)] [.int s0, .int s1] := by
  intro v2 v3 v5 s0 s1 g h
  unfold wp_X7_check_131 at h
  refine sv_iadd (pc := 131) G dX7_check_131 ?_
  refine sv_topi (fun v4_6 ev4_6 => ?_)
  have h := h v4_6 ev4_6
  refine sv_istore (pc := 132) G dX7_check_132 [(4, .int v4_6), (0, .ref (b + 58)), (2, .int v2), (3, .int v3), (5, .int v5)] (by decide) rfl ?_
  refine sv_iload (pc := 134) G dX7_check_134 0 rfl ?_
  refine sv_iload (pc := 136) G dX7_check_136 0 rfl ?_
  refine sv_iconst (pc := 138) G dX7_check_138 2 ic_2 ?_
  refine sv_iload (pc := 139) G dX7_check_139 4 rfl ?_
  refine sv_imul (pc := 141) G dX7_check_141 ?_
  refine sv_iconst (pc := 142) G dX7_check_142 1 ic_1 ?_
  refine sv_iadd (pc := 143) G dX7_check_143 ?_
  refine sv_ic_ne (pc := 144) G 171 (by decide) dX7_check_144 (fun c_7 => ?_) (fun c_7 => ?_)
  · have h := h.2 c_7
    refine sv_locs [1, 2, 3, 4] [(0, .ref (b + 58)), (2, .int v2), (3, .int v3), (5, .int v5)] rfl ?_
    exact aw_X7_check_171 G RR T hL  hK80 v2 v3 v5 v4_6 g  h
  · have h := h.1 c_7
    refine sv_iload (pc := 147) G dX7_check_147 0 rfl ?_
    refine sv_iload_n (pc := 149) G dX7_check_149 2 rfl ?_
    refine sv_ic_ge (pc := 150) G 171 (by decide) dX7_check_150 (fun c_8 => ?_) (fun c_8 => ?_)
    · have h := h.1 c_8
      refine sv_locs [1, 2, 3, 4] [(0, .ref (b + 58)), (2, .int v2), (3, .int v3), (5, .int v5)] rfl ?_
      exact aw_X7_check_171 G RR T hL  hK80 v2 v3 v5 v4_6 g  h
    · have h := h.2 c_8
      refine sv_aload_n (pc := 153) G dX7_check_153 1 rfl ?_
      refine sv_getR (pc := 154) G fw_X7_78 (hL.sh rfl) rfl (hL.rf 82 rfl) dX7_check_154 ?_
      refine sv_iload (pc := 157) G dX7_check_157 0 rfl ?_
      obtain ⟨s_9, h⟩ := h
      refine sv_ialdK (pc := 159) G (hL.sh rfl) s_9 v4_6.toNatClampNeg rfl dX7_check_159 ?_
      refine sv_aload_n (pc := 160) G dX7_check_160 1 rfl ?_
      refine sv_callV (cs := 0) (sl := 0) (st := [.int (g 81 v4_6.toNatClampNeg), .int v4_6]) (As := []) (a := 58) (pc := 161) G RR (c_X7_mostHad hL  h) mw_X7_mostHad lk_X7_183 (hL.sh rfl) (by decide) rfl rfl ⟨(Nat.le_of_ble_eq_true rfl), (Nat.le_of_ble_eq_true rfl)⟩ ⟨(Nat.le_of_ble_eq_true rfl), (Nat.le_of_ble_eq_true rfl)⟩ (Nat.le_of_ble_eq_true rfl) rfl dX7_check_161 (sv_kI (fun r_11 g_10 h => ?_))
      refine sv_ic_ne (pc := 164) G 171 (by decide) dX7_check_164 (fun c_12 => ?_) (fun c_12 => ?_)
      · have h := h.2 c_12
        refine sv_locs [1, 2, 3, 4] [(0, .ref (b + 58)), (2, .int v2), (3, .int v3), (5, .int v5)] rfl ?_
        exact aw_X7_check_171 G RR T hL  hK80 v2 v3 v5 v4_6 g_10  h
      · have h := h.1 c_12
        refine sv_iconst (pc := 167) G dX7_check_167 1 ic_1 ?_
        refine sv_goto (pc := 168) G dX7_check_168 172 (by decide) ?_
        refine sv_locs [1, 2, 3, 4] [(0, .ref (b + 58)), (2, .int v2), (3, .int v3), (5, .int v5)] rfl ?_
        exact aw_X7_check_172 G RR T hL  hK80 v2 v3 v5 1 v4_6 g_10  h
set_option maxRecDepth 100000 in
set_option maxHeartbeats 4000000 in
theorem aw_X7_check_130 {x : sv_X} {b : Nat} {xt : sv_Xt} {F : sv_Fr} {Q : Int32 → sv_Mg → Prop} (G : sv_G x b xt RX7 cX7_check 6) (RR : sv_R x 9 200 0 0) (T : sv_RT x (some .int)) (hL : sv_Lay F) {K80 : Int32 → Int32 → Int32 → Int32 → sv_Mg → Prop} (hK80 : ∀ (v2 : Int32) (v3 : Int32) (v4 : Int32) (v5 : Int32) (g : sv_Mg), K80 v2 v3 v4 v5 g → sv_AW x (sv_Q x (sv_qI F Q) 0 0) F g 0 0 80 [(0, .ref (b + 58)), (2, .int v2), (3, .int v3), (4, .int v4), (5, .int v5)] []) : ∀ (v2 : Int32) (v3 : Int32) (v5 : Int32) (s0 : Int32) (g : sv_Mg), wp_X7_check_130 F Q K80 v2 v3 v5 s0 g → sv_AW x (sv_Q x (sv_qI F Q) 0 0) F g 0 0 130 [(0, .ref (b + 58)), (2, .int v2), (3, .int v3), (5, .int v5)] [.int s0] := by
  intro v2 v3 v5 s0 g h
  unfold wp_X7_check_130 at h
  refine sv_iconst (pc := 130) G dX7_check_130 0 ic_0 ?_
  refine sv_locs [0, 1, 2, 3] [(0, .ref (b + 58)), (2, .int v2), (3, .int v3), (5, .int v5)] rfl ?_
  exact aw_X7_check_131 G RR T hL  hK80 v2 v3 v5 0 s0 g  h
set_option maxRecDepth 100000 in
set_option maxHeartbeats 4000000 in
theorem aw_X7_check_80 {x : sv_X} {b : Nat} {xt : sv_Xt} {F : sv_Fr} {Q : Int32 → sv_Mg → Prop} (G : sv_G x b xt RX7 cX7_check 6) (RR : sv_R x 9 200 0 0) (T : sv_RT x (some .int)) (hL : sv_Lay F) : ∀ (n : Nat) (v2 : Int32) (v3 : Int32) (v4 : Int32) (v5 : Int32) (g : sv_Mg), wp_X7_check_80 F Q  n v2 v3 v4 v5 g → sv_AW x (sv_Q x (sv_qI F Q) 0 0) F g 0 0 80 [(0, .ref (b + 58)), (2, .int v2), (3, .int v3), (4, .int v4), (5, .int v5)] [] := by
  intro n
  induction n with
  | zero => intro v2 v3 v4 v5 g h; exact h.elim
  | succ n ih =>
    intro v2 v3 v4 v5 g h
    rw [wp_X7_check_80] at h
    refine sv_iconst (pc := 80) G dX7_check_80 2 ic_2 ?_
    refine sv_iload (pc := 81) G dX7_check_81 4 rfl ?_
    refine sv_imul (pc := 83) G dX7_check_83 ?_
    refine sv_iload_n (pc := 84) G dX7_check_84 2 rfl ?_
    refine sv_ic_ge (pc := 85) G 181 (by decide) dX7_check_85 (fun c_13 => ?_) (fun c_13 => ?_)
    · have h := h.1 c_13
      refine sv_locs [0, 1, 2, 3] [(0, .ref (b + 58)), (2, .int v2), (3, .int v3), (4, .int v4)] rfl ?_
      exact aw_X7_check_181 G RR T hL   v2 v3 v4 g  h
    · have h := h.2 c_13
      refine sv_iload (pc := 88) G dX7_check_88 3 rfl ?_
      refine sv_iconst (pc := 90) G dX7_check_90 2 ic_2 ?_
      refine sv_iload (pc := 91) G dX7_check_91 4 rfl ?_
      refine sv_imul (pc := 93) G dX7_check_93 ?_
      refine sv_ic_ne (pc := 94) G 181 (by decide) dX7_check_94 (fun c_14 => ?_) (fun c_14 => ?_)
      · have h := h.2 c_14
        refine sv_locs [0, 1, 2, 3] [(0, .ref (b + 58)), (2, .int v2), (3, .int v3), (4, .int v4)] rfl ?_
        exact aw_X7_check_181 G RR T hL   v2 v3 v4 g  h
      · have h := h.1 c_14
        refine sv_aload_n (pc := 97) G dX7_check_97 0 rfl ?_
        refine sv_callV (cs := 0) (sl := 0) (st := []) (As := []) (a := 58) (pc := 98) G RR (c_X7_round hL  h) mw_X7_round lk_X7_167 (hL.sh rfl) (by decide) rfl rfl ⟨(Nat.le_of_ble_eq_true rfl), (Nat.le_of_ble_eq_true rfl)⟩ ⟨(Nat.le_of_ble_eq_true rfl), (Nat.le_of_ble_eq_true rfl)⟩ (Nat.le_of_ble_eq_true rfl) rfl dX7_check_98 (sv_kV (fun g_15 h => ?_))
        refine sv_iload (pc := 101) G dX7_check_101 3 rfl ?_
        refine sv_iload (pc := 103) G dX7_check_103 3 rfl ?_
        refine sv_iload_n (pc := 105) G dX7_check_105 1 rfl ?_
        refine sv_ic_ge (pc := 106) G 130 (by decide) dX7_check_106 (fun c_16 => ?_) (fun c_16 => ?_)
        · have h := h.1 c_16
          refine sv_locs [0, 1, 2, 4] [(0, .ref (b + 58)), (2, .int v2), (3, .int v3), (5, .int v5)] rfl ?_
          exact aw_X7_check_130 G RR T hL  ih v2 v3 v5 v4 g_15  h
        · have h := h.2 c_16
          refine sv_aload_n (pc := 109) G dX7_check_109 0 rfl ?_
          refine sv_getR (pc := 110) G fw_X7_78 (hL.sh rfl) rfl (hL.rf 82 rfl) dX7_check_110 ?_
          refine sv_iload (pc := 113) G dX7_check_113 3 rfl ?_
          obtain ⟨s_17, h⟩ := h
          refine sv_ialdK (pc := 115) G (hL.sh rfl) s_17 v4.toNatClampNeg rfl dX7_check_115 ?_
          refine sv_aload_n (pc := 116) G dX7_check_116 0 rfl ?_
          refine sv_getR (pc := 117) G fw_X7_9 (hL.sh rfl) rfl (hL.rf 60 rfl) dX7_check_117 ?_
          refine sv_bipush (pc := 120) G dX7_check_120 8 bp_8 ?_
          refine sv_ialdK (pc := 122) G (hL.sh rfl) vi_8_1443 8 tn_8 dX7_check_122 ?_
          refine sv_ic_ne (pc := 123) G 130 (by decide) dX7_check_123 (fun c_18 => ?_) (fun c_18 => ?_)
          · have h := h.2 c_18
            refine sv_locs [0, 1, 2, 4] [(0, .ref (b + 58)), (2, .int v2), (3, .int v3), (5, .int v5)] rfl ?_
            exact aw_X7_check_130 G RR T hL  ih v2 v3 v5 v4 g_15  h
          · have h := h.1 c_18
            refine sv_iconst (pc := 126) G dX7_check_126 1 ic_1 ?_
            refine sv_goto (pc := 127) G dX7_check_127 131 (by decide) ?_
            refine sv_locs [0, 1, 2, 4] [(0, .ref (b + 58)), (2, .int v2), (3, .int v3), (5, .int v5)] rfl ?_
            exact aw_X7_check_131 G RR T hL  ih v2 v3 v5 1 v4 g_15  h
set_option maxRecDepth 100000 in
set_option maxHeartbeats 4000000 in
theorem c_X7_check {b : Nat} {xt : sv_Xt} {F : sv_Fr} {v1 : Int32} {g : sv_Mg} {Q : Int32 → sv_Mg → Prop} (hL : sv_Lay F) (h : wp_X7_check F v1 g Q) : sv_Cal yX7_check cX7_check 6 (some .int) 9 200 0 0 b xt [.ref (b + 58), .int v1] F g (sv_qI F Q) := by
  refine sv_intro mw_X7_check [(0, .ref (b + 58)), (1, .int v1)] rfl (Nat.le_of_ble_eq_true rfl) (fun x G RR T NM => ?_)
  have G : sv_G x b xt RX7 cX7_check 6 := G
  unfold wp_X7_check at h
  refine sv_aload_n (pc := 0) G dX7_check_0 0 rfl ?_
  refine sv_getI (pc := 1) G fw_X7_273 (hL.sh rfl) rfl dX7_check_1 ?_
  refine sv_topi (fun v2_19 ev2_19 => ?_)
  have h := h v2_19 ev2_19
  refine sv_istore_n (pc := 4) G dX7_check_4 [(2, .int v2_19), (0, .ref (b + 58)), (1, .int v1)] (by decide) rfl ?_
  refine sv_aload_n (pc := 5) G dX7_check_5 1 rfl ?_
  refine sv_iconst (pc := 6) G dX7_check_6 0 ic_0 ?_
  refine sv_putI (pc := 7) G fw_X7_273 (hL.sh rfl) rfl dX7_check_7 (fun g_20 eg_20 => ?_)
  have h := h g_20 eg_20
  refine sv_iload_n (pc := 10) G dX7_check_10 2 rfl ?_
  refine sv_iconst (pc := 11) G dX7_check_11 1 ic_1 ?_
  refine sv_bipush (pc := 12) G dX7_check_12 30 bp_30 ?_
  refine sv_callS (cs := 0) (sl := 0) (st := []) (As := [.int v1, .int 1, .int 30]) (pc := 14) G RR (c_X7_in hL  h) mw_X7_in lk_X7_82 rfl ⟨(Nat.le_of_ble_eq_true rfl), (Nat.le_of_ble_eq_true rfl)⟩ ⟨(Nat.le_of_ble_eq_true rfl), (Nat.le_of_ble_eq_true rfl)⟩ (Nat.le_of_ble_eq_true rfl) rfl dX7_check_14 (sv_kI (fun r_22 g_21 h => ?_))
  refine sv_if_ne (pc := 17) G 23 (by decide) dX7_check_17 (fun c_23 => ?_) (fun c_23 => ?_)
  · have h := h.2 c_23
    refine sv_aload_n (pc := 23) G dX7_check_23 1 rfl ?_
    refine sv_getI (pc := 24) G fw_X7_276 (hL.sh rfl) rfl dX7_check_24 ?_
    refine sv_if_ne (pc := 27) G 34 (by decide) dX7_check_27 (fun c_24 => ?_) (fun c_24 => ?_)
    · have h := h.2 c_24
      refine sv_aload_n (pc := 34) G dX7_check_34 1 rfl ?_
      refine sv_getR (pc := 35) G fw_X7_9 (hL.sh rfl) rfl (hL.rf 60 rfl) dX7_check_35 ?_
      refine sv_aload_n (pc := 38) G dX7_check_38 1 rfl ?_
      refine sv_getR (pc := 39) G fw_X7_16 (hL.sh rfl) rfl (hL.rf 62 rfl) dX7_check_39 ?_
      refine sv_callS (cs := 0) (sl := 0) (st := []) (As := [.ref (b + 59), .ref (b + 61)]) (pc := 42) G RR (c_X7_copyAll hL (hL.sh rfl) (hL.sh rfl) h) mw_X7_copyAll lk_X7_280 rfl ⟨(Nat.le_of_ble_eq_true rfl), (Nat.le_of_ble_eq_true rfl)⟩ ⟨(Nat.le_of_ble_eq_true rfl), (Nat.le_of_ble_eq_true rfl)⟩ (Nat.le_of_ble_eq_true rfl) rfl dX7_check_42 (sv_kV (fun g_25 h => ?_))
      refine sv_aload_n (pc := 45) G dX7_check_45 1 rfl ?_
      refine sv_getR (pc := 46) G fw_X7_13 (hL.sh rfl) rfl (hL.rf 61 rfl) dX7_check_46 ?_
      refine sv_aload_n (pc := 49) G dX7_check_49 1 rfl ?_
      refine sv_getR (pc := 50) G fw_X7_9 (hL.sh rfl) rfl (hL.rf 60 rfl) dX7_check_50 ?_
      refine sv_callS (cs := 0) (sl := 0) (st := []) (As := [.ref (b + 60), .ref (b + 59)]) (pc := 53) G RR (c_X7_copyAll hL (hL.sh rfl) (hL.sh rfl) h) mw_X7_copyAll lk_X7_280 rfl ⟨(Nat.le_of_ble_eq_true rfl), (Nat.le_of_ble_eq_true rfl)⟩ ⟨(Nat.le_of_ble_eq_true rfl), (Nat.le_of_ble_eq_true rfl)⟩ (Nat.le_of_ble_eq_true rfl) rfl dX7_check_53 (sv_kV (fun g_26 h => ?_))
      refine sv_iconst (pc := 56) G dX7_check_56 2 ic_2 ?_
      refine sv_sipush (pc := 57) G dX7_check_57 9999 sp_9999 ?_
      refine sv_aload_n (pc := 60) G dX7_check_60 1 rfl ?_
      refine sv_getR (pc := 61) G fw_X7_9 (hL.sh rfl) rfl (hL.rf 60 rfl) dX7_check_61 ?_
      refine sv_iconst (pc := 64) G dX7_check_64 2 ic_2 ?_
      refine sv_ialdK (pc := 65) G (hL.sh rfl) vi_2_1443 2 tn_2 dX7_check_65 ?_
      refine sv_isub (pc := 66) G dX7_check_66 ?_
      refine sv_iconst (pc := 67) G dX7_check_67 0 ic_0 ?_
      refine sv_iload_n (pc := 68) G dX7_check_68 2 rfl ?_
      refine sv_callS (cs := 0) (sl := 0) (st := [.int 2]) (As := [.int (9999 - (g_26 59 2)), .int 0, .int v1]) (pc := 69) G RR (c_X7_within hL  h) mw_X7_within lk_X7_126 rfl ⟨(Nat.le_of_ble_eq_true rfl), (Nat.le_of_ble_eq_true rfl)⟩ ⟨(Nat.le_of_ble_eq_true rfl), (Nat.le_of_ble_eq_true rfl)⟩ (Nat.le_of_ble_eq_true rfl) rfl dX7_check_69 (sv_kI (fun r_28 g_27 h => ?_))
      refine sv_imul (pc := 72) G dX7_check_72 ?_
      refine sv_topi (fun v3_29 ev3_29 => ?_)
      have h := h v3_29 ev3_29
      refine sv_istore_n (pc := 73) G dX7_check_73 [(3, .int v3_29), (2, .int v2_19), (0, .ref (b + 58)), (1, .int v1)] (by decide) rfl ?_
      refine sv_iconst (pc := 74) G dX7_check_74 0 ic_0 ?_
      refine sv_istore (pc := 75) G dX7_check_75 [(4, .int 0), (3, .int v3_29), (2, .int v2_19), (0, .ref (b + 58)), (1, .int v1)] (by decide) rfl ?_
      refine sv_iconst (pc := 77) G dX7_check_77 0 ic_0 ?_
      refine sv_istore (pc := 78) G dX7_check_78 [(5, .int 0), (4, .int 0), (3, .int v3_29), (2, .int v2_19), (0, .ref (b + 58)), (1, .int v1)] (by decide) rfl ?_
      refine sv_locs [4, 3, 2, 1, 0] [(0, .ref (b + 58)), (2, .int v2_19), (3, .int v3_29), (4, .int 0), (5, .int 0)] rfl ?_
      obtain ⟨n_30, h⟩ := h
      exact aw_X7_check_80 G RR T hL   n_30 v2_19 v3_29 0 0 g_27  h
    · have h := h.1 c_24
      refine sv_ldcw (pc := 30) G dX7_check_30 cn_X7_272 ?_
      exact sv_ireturn (pc := 33) G T ⟨(Nat.le_of_ble_eq_true rfl), (Nat.le_of_ble_eq_true rfl)⟩ dX7_check_33 ⟨_, rfl, rfl, h⟩
  · have h := h.1 c_23
    refine sv_ldc (pc := 20) G dX7_check_20 cn_X7_90 ?_
    exact sv_ireturn (pc := 22) G T ⟨(Nat.le_of_ble_eq_true rfl), (Nat.le_of_ble_eq_true rfl)⟩ dX7_check_22 ⟨_, rfl, rfl, h⟩
def wp_X7_keep (F : sv_Fr) (g : sv_Mg) (Q : Int32 → sv_Mg → Prop) : Prop := wp_X7_copyAll F 59 1443 60 1443 g (fun g_1 => ∀ g_2, g_2 = sv_st g_1 58 3 1 → Q (g_2 59 1) g_2)
set_option maxRecDepth 100000 in
set_option maxHeartbeats 4000000 in
theorem c_X7_keep {b : Nat} {xt : sv_Xt} {F : sv_Fr} {g : sv_Mg} {Q : Int32 → sv_Mg → Prop} (hL : sv_Lay F) (h : wp_X7_keep F g Q) : sv_Cal yX7_keep cX7_keep 1 (some .int) 1 22 0 0 b xt [.ref (b + 58)] F g (sv_qI F Q) := by
  refine sv_intro mw_X7_keep [(0, .ref (b + 58))] rfl (Nat.le_of_ble_eq_true rfl) (fun x G RR T NM => ?_)
  have G : sv_G x b xt RX7 cX7_keep 1 := G
  unfold wp_X7_keep at h
  refine sv_aload_n (pc := 0) G dX7_keep_0 0 rfl ?_
  refine sv_getR (pc := 1) G fw_X7_9 (hL.sh rfl) rfl (hL.rf 60 rfl) dX7_keep_1 ?_
  refine sv_aload_n (pc := 4) G dX7_keep_4 0 rfl ?_
  refine sv_getR (pc := 5) G fw_X7_13 (hL.sh rfl) rfl (hL.rf 61 rfl) dX7_keep_5 ?_
  refine sv_callS (cs := 0) (sl := 0) (st := []) (As := [.ref (b + 59), .ref (b + 60)]) (pc := 8) G RR (c_X7_copyAll hL (hL.sh rfl) (hL.sh rfl) h) mw_X7_copyAll lk_X7_280 rfl ⟨(Nat.le_of_ble_eq_true rfl), (Nat.le_of_ble_eq_true rfl)⟩ ⟨(Nat.le_of_ble_eq_true rfl), (Nat.le_of_ble_eq_true rfl)⟩ (Nat.le_of_ble_eq_true rfl) rfl dX7_keep_8 (sv_kV (fun g_1 h => ?_))
  refine sv_aload_n (pc := 11) G dX7_keep_11 0 rfl ?_
  refine sv_iconst (pc := 12) G dX7_keep_12 1 ic_1 ?_
  refine sv_putZ (pc := 13) G fw_X7_276 (hL.sh rfl) (Or.inr rfl) rfl dX7_keep_13 (fun g_2 eg_2 => ?_)
  have h := h g_2 eg_2
  refine sv_aload_n (pc := 16) G dX7_keep_16 0 rfl ?_
  refine sv_getR (pc := 17) G fw_X7_9 (hL.sh rfl) rfl (hL.rf 60 rfl) dX7_keep_17 ?_
  refine sv_iconst (pc := 20) G dX7_keep_20 1 ic_1 ?_
  refine sv_ialdK (pc := 21) G (hL.sh rfl) vi_1_1443 1 tn_1 dX7_keep_21 ?_
  exact sv_ireturn (pc := 22) G T ⟨(Nat.le_of_ble_eq_true rfl), (Nat.le_of_ble_eq_true rfl)⟩ dX7_keep_22 ⟨_, rfl, rfl, h⟩
def wp_X7_back (F : sv_Fr) (g : sv_Mg) (Q : Int32 → sv_Mg → Prop) : Prop := (((g 58 3) = 0 → Q (-1000000002) g) ∧ (¬ (g 58 3) = 0 → wp_X7_copyAll F 60 1443 59 1443 g (fun g_2 => Q (g_2 59 1) g_2)))
set_option maxRecDepth 100000 in
set_option maxHeartbeats 4000000 in
theorem c_X7_back {b : Nat} {xt : sv_Xt} {F : sv_Fr} {g : sv_Mg} {Q : Int32 → sv_Mg → Prop} (hL : sv_Lay F) (h : wp_X7_back F g Q) : sv_Cal yX7_back cX7_back 1 (some .int) 1 22 0 0 b xt [.ref (b + 58)] F g (sv_qI F Q) := by
  refine sv_intro mw_X7_back [(0, .ref (b + 58))] rfl (Nat.le_of_ble_eq_true rfl) (fun x G RR T NM => ?_)
  have G : sv_G x b xt RX7 cX7_back 1 := G
  unfold wp_X7_back at h
  refine sv_aload_n (pc := 0) G dX7_back_0 0 rfl ?_
  refine sv_getI (pc := 1) G fw_X7_276 (hL.sh rfl) rfl dX7_back_1 ?_
  refine sv_if_ne (pc := 4) G 11 (by decide) dX7_back_4 (fun c_1 => ?_) (fun c_1 => ?_)
  · have h := h.2 c_1
    refine sv_aload_n (pc := 11) G dX7_back_11 0 rfl ?_
    refine sv_getR (pc := 12) G fw_X7_13 (hL.sh rfl) rfl (hL.rf 61 rfl) dX7_back_12 ?_
    refine sv_aload_n (pc := 15) G dX7_back_15 0 rfl ?_
    refine sv_getR (pc := 16) G fw_X7_9 (hL.sh rfl) rfl (hL.rf 60 rfl) dX7_back_16 ?_
    refine sv_callS (cs := 0) (sl := 0) (st := []) (As := [.ref (b + 60), .ref (b + 59)]) (pc := 19) G RR (c_X7_copyAll hL (hL.sh rfl) (hL.sh rfl) h) mw_X7_copyAll lk_X7_280 rfl ⟨(Nat.le_of_ble_eq_true rfl), (Nat.le_of_ble_eq_true rfl)⟩ ⟨(Nat.le_of_ble_eq_true rfl), (Nat.le_of_ble_eq_true rfl)⟩ (Nat.le_of_ble_eq_true rfl) rfl dX7_back_19 (sv_kV (fun g_2 h => ?_))
    refine sv_aload_n (pc := 22) G dX7_back_22 0 rfl ?_
    refine sv_getR (pc := 23) G fw_X7_9 (hL.sh rfl) rfl (hL.rf 60 rfl) dX7_back_23 ?_
    refine sv_iconst (pc := 26) G dX7_back_26 1 ic_1 ?_
    refine sv_ialdK (pc := 27) G (hL.sh rfl) vi_1_1443 1 tn_1 dX7_back_27 ?_
    exact sv_ireturn (pc := 28) G T ⟨(Nat.le_of_ble_eq_true rfl), (Nat.le_of_ble_eq_true rfl)⟩ dX7_back_28 ⟨_, rfl, rfl, h⟩
  · have h := h.1 c_1
    refine sv_ldcw (pc := 7) G dX7_back_7 cn_X7_272 ?_
    exact sv_ireturn (pc := 10) G T ⟨(Nat.le_of_ble_eq_true rfl), (Nat.le_of_ble_eq_true rfl)⟩ dX7_back_10 ⟨_, rfl, rfl, h⟩
def wp_X7_count (F : sv_Fr) (v1 : Int32) (g : sv_Mg) (Q : Int32 → sv_Mg → Prop) : Prop := ((v1 = 0 → Q (g 59 1) g) ∧ (¬ v1 = 0 → ((v1 = 1 → vp_in ((2 + v1) - 1) 1443 ∧ Q (g 59 ((2 + v1) - 1).toNatClampNeg) g) ∧ (¬ v1 = 1 → ((v1 = 2 → vp_in ((2 + v1) - 1) 1443 ∧ Q (g 59 ((2 + v1) - 1).toNatClampNeg) g) ∧ (¬ v1 = 2 → ((v1 = 3 → vp_in ((2 + v1) - 1) 1443 ∧ Q (g 59 ((2 + v1) - 1).toNatClampNeg) g) ∧ (¬ v1 = 3 → ((v1 = 4 → vp_in ((2 + v1) - 1) 1443 ∧ Q (g 59 ((2 + v1) - 1).toNatClampNeg) g) ∧ (¬ v1 = 4 → ((v1 = 5 → vp_in ((2 + v1) - 1) 1443 ∧ Q (g 59 ((2 + v1) - 1).toNatClampNeg) g) ∧ (¬ v1 = 5 → ((v1 = 6 → Q (g 59 10) g) ∧ (¬ v1 = 6 → ((v1 = 7 → Q (g 58 34) g) ∧ (¬ v1 = 7 → ((v1 = 8 → Q (g 58 8) g) ∧ (¬ v1 = 8 → ((v1 = 9 → Q (g 59 0) g) ∧ (¬ v1 = 9 → Q (-1000000001) g))))))))))))))))))))
set_option maxRecDepth 100000 in
set_option maxHeartbeats 4000000 in
theorem c_X7_count {b : Nat} {xt : sv_Xt} {F : sv_Fr} {v1 : Int32} {g : sv_Mg} {Q : Int32 → sv_Mg → Prop} (hL : sv_Lay F) (h : wp_X7_count F v1 g Q) : sv_Cal yX7_count cX7_count 2 (some .int) 0 0 0 0 b xt [.ref (b + 58), .int v1] F g (sv_qI F Q) := by
  refine sv_intro mw_X7_count [(0, .ref (b + 58)), (1, .int v1)] rfl (Nat.le_of_ble_eq_true rfl) (fun x G RR T NM => ?_)
  have G : sv_G x b xt RX7 cX7_count 2 := G
  unfold wp_X7_count at h
  refine sv_iload_n (pc := 0) G dX7_count_0 1 rfl ?_
  by_cases c_1 : v1 = 0
  · have h := h.1 c_1
    refine sv_tsw (pc := 1) G dX7_count_1 0 (by rw [c_1]; decide) 56 (by decide) (by decide) rfl (by decide) ?_
    refine sv_aload_n (pc := 56) G dX7_count_56 0 rfl ?_
    refine sv_getR (pc := 57) G fw_X7_9 (hL.sh rfl) rfl (hL.rf 60 rfl) dX7_count_57 ?_
    refine sv_iconst (pc := 60) G dX7_count_60 1 ic_1 ?_
    refine sv_ialdK (pc := 61) G (hL.sh rfl) vi_1_1443 1 tn_1 dX7_count_61 ?_
    exact sv_ireturn (pc := 62) G T ⟨(Nat.le_of_ble_eq_true rfl), (Nat.le_of_ble_eq_true rfl)⟩ dX7_count_62 ⟨_, rfl, rfl, h⟩
  · have h := h.2 c_1
    by_cases c_2 : v1 = 1
    · have h := h.1 c_2
      refine sv_tsw (pc := 1) G dX7_count_1 1 (by rw [c_2]; decide) 63 (by decide) (by decide) rfl (by decide) ?_
      refine sv_aload_n (pc := 63) G dX7_count_63 0 rfl ?_
      refine sv_getR (pc := 64) G fw_X7_9 (hL.sh rfl) rfl (hL.rf 60 rfl) dX7_count_64 ?_
      refine sv_iconst (pc := 67) G dX7_count_67 2 ic_2 ?_
      refine sv_iload_n (pc := 68) G dX7_count_68 1 rfl ?_
      refine sv_iadd (pc := 69) G dX7_count_69 ?_
      refine sv_iconst (pc := 70) G dX7_count_70 1 ic_1 ?_
      refine sv_isub (pc := 71) G dX7_count_71 ?_
      obtain ⟨s_3, h⟩ := h
      refine sv_ialdK (pc := 72) G (hL.sh rfl) s_3 ((2 + v1) - 1).toNatClampNeg rfl dX7_count_72 ?_
      exact sv_ireturn (pc := 73) G T ⟨(Nat.le_of_ble_eq_true rfl), (Nat.le_of_ble_eq_true rfl)⟩ dX7_count_73 ⟨_, rfl, rfl, h⟩
    · have h := h.2 c_2
      by_cases c_4 : v1 = 2
      · have h := h.1 c_4
        refine sv_tsw (pc := 1) G dX7_count_1 2 (by rw [c_4]; decide) 63 (by decide) (by decide) rfl (by decide) ?_
        refine sv_aload_n (pc := 63) G dX7_count_63 0 rfl ?_
        refine sv_getR (pc := 64) G fw_X7_9 (hL.sh rfl) rfl (hL.rf 60 rfl) dX7_count_64 ?_
        refine sv_iconst (pc := 67) G dX7_count_67 2 ic_2 ?_
        refine sv_iload_n (pc := 68) G dX7_count_68 1 rfl ?_
        refine sv_iadd (pc := 69) G dX7_count_69 ?_
        refine sv_iconst (pc := 70) G dX7_count_70 1 ic_1 ?_
        refine sv_isub (pc := 71) G dX7_count_71 ?_
        obtain ⟨s_5, h⟩ := h
        refine sv_ialdK (pc := 72) G (hL.sh rfl) s_5 ((2 + v1) - 1).toNatClampNeg rfl dX7_count_72 ?_
        exact sv_ireturn (pc := 73) G T ⟨(Nat.le_of_ble_eq_true rfl), (Nat.le_of_ble_eq_true rfl)⟩ dX7_count_73 ⟨_, rfl, rfl, h⟩
      · have h := h.2 c_4
        by_cases c_6 : v1 = 3
        · have h := h.1 c_6
          refine sv_tsw (pc := 1) G dX7_count_1 3 (by rw [c_6]; decide) 63 (by decide) (by decide) rfl (by decide) ?_
          refine sv_aload_n (pc := 63) G dX7_count_63 0 rfl ?_
          refine sv_getR (pc := 64) G fw_X7_9 (hL.sh rfl) rfl (hL.rf 60 rfl) dX7_count_64 ?_
          refine sv_iconst (pc := 67) G dX7_count_67 2 ic_2 ?_
          refine sv_iload_n (pc := 68) G dX7_count_68 1 rfl ?_
          refine sv_iadd (pc := 69) G dX7_count_69 ?_
          refine sv_iconst (pc := 70) G dX7_count_70 1 ic_1 ?_
          refine sv_isub (pc := 71) G dX7_count_71 ?_
          obtain ⟨s_7, h⟩ := h
          refine sv_ialdK (pc := 72) G (hL.sh rfl) s_7 ((2 + v1) - 1).toNatClampNeg rfl dX7_count_72 ?_
          exact sv_ireturn (pc := 73) G T ⟨(Nat.le_of_ble_eq_true rfl), (Nat.le_of_ble_eq_true rfl)⟩ dX7_count_73 ⟨_, rfl, rfl, h⟩
        · have h := h.2 c_6
          by_cases c_8 : v1 = 4
          · have h := h.1 c_8
            refine sv_tsw (pc := 1) G dX7_count_1 4 (by rw [c_8]; decide) 63 (by decide) (by decide) rfl (by decide) ?_
            refine sv_aload_n (pc := 63) G dX7_count_63 0 rfl ?_
            refine sv_getR (pc := 64) G fw_X7_9 (hL.sh rfl) rfl (hL.rf 60 rfl) dX7_count_64 ?_
            refine sv_iconst (pc := 67) G dX7_count_67 2 ic_2 ?_
            refine sv_iload_n (pc := 68) G dX7_count_68 1 rfl ?_
            refine sv_iadd (pc := 69) G dX7_count_69 ?_
            refine sv_iconst (pc := 70) G dX7_count_70 1 ic_1 ?_
            refine sv_isub (pc := 71) G dX7_count_71 ?_
            obtain ⟨s_9, h⟩ := h
            refine sv_ialdK (pc := 72) G (hL.sh rfl) s_9 ((2 + v1) - 1).toNatClampNeg rfl dX7_count_72 ?_
            exact sv_ireturn (pc := 73) G T ⟨(Nat.le_of_ble_eq_true rfl), (Nat.le_of_ble_eq_true rfl)⟩ dX7_count_73 ⟨_, rfl, rfl, h⟩
          · have h := h.2 c_8
            by_cases c_10 : v1 = 5
            · have h := h.1 c_10
              refine sv_tsw (pc := 1) G dX7_count_1 5 (by rw [c_10]; decide) 63 (by decide) (by decide) rfl (by decide) ?_
              refine sv_aload_n (pc := 63) G dX7_count_63 0 rfl ?_
              refine sv_getR (pc := 64) G fw_X7_9 (hL.sh rfl) rfl (hL.rf 60 rfl) dX7_count_64 ?_
              refine sv_iconst (pc := 67) G dX7_count_67 2 ic_2 ?_
              refine sv_iload_n (pc := 68) G dX7_count_68 1 rfl ?_
              refine sv_iadd (pc := 69) G dX7_count_69 ?_
              refine sv_iconst (pc := 70) G dX7_count_70 1 ic_1 ?_
              refine sv_isub (pc := 71) G dX7_count_71 ?_
              obtain ⟨s_11, h⟩ := h
              refine sv_ialdK (pc := 72) G (hL.sh rfl) s_11 ((2 + v1) - 1).toNatClampNeg rfl dX7_count_72 ?_
              exact sv_ireturn (pc := 73) G T ⟨(Nat.le_of_ble_eq_true rfl), (Nat.le_of_ble_eq_true rfl)⟩ dX7_count_73 ⟨_, rfl, rfl, h⟩
            · have h := h.2 c_10
              by_cases c_12 : v1 = 6
              · have h := h.1 c_12
                refine sv_tsw (pc := 1) G dX7_count_1 6 (by rw [c_12]; decide) 74 (by decide) (by decide) rfl (by decide) ?_
                refine sv_aload_n (pc := 74) G dX7_count_74 0 rfl ?_
                refine sv_getR (pc := 75) G fw_X7_9 (hL.sh rfl) rfl (hL.rf 60 rfl) dX7_count_75 ?_
                refine sv_bipush (pc := 78) G dX7_count_78 10 bp_10 ?_
                refine sv_ialdK (pc := 80) G (hL.sh rfl) vi_10_1443 10 tn_10 dX7_count_80 ?_
                exact sv_ireturn (pc := 81) G T ⟨(Nat.le_of_ble_eq_true rfl), (Nat.le_of_ble_eq_true rfl)⟩ dX7_count_81 ⟨_, rfl, rfl, h⟩
              · have h := h.2 c_12
                by_cases c_13 : v1 = 7
                · have h := h.1 c_13
                  refine sv_tsw (pc := 1) G dX7_count_1 7 (by rw [c_13]; decide) 82 (by decide) (by decide) rfl (by decide) ?_
                  refine sv_aload_n (pc := 82) G dX7_count_82 0 rfl ?_
                  refine sv_getI (pc := 83) G fw_X7_273 (hL.sh rfl) rfl dX7_count_83 ?_
                  exact sv_ireturn (pc := 86) G T ⟨(Nat.le_of_ble_eq_true rfl), (Nat.le_of_ble_eq_true rfl)⟩ dX7_count_86 ⟨_, rfl, rfl, h⟩
                · have h := h.2 c_13
                  by_cases c_14 : v1 = 8
                  · have h := h.1 c_14
                    refine sv_tsw (pc := 1) G dX7_count_1 8 (by rw [c_14]; decide) 87 (by decide) (by decide) rfl (by decide) ?_
                    refine sv_aload_n (pc := 87) G dX7_count_87 0 rfl ?_
                    refine sv_getI (pc := 88) G fw_X7_197 (hL.sh rfl) rfl dX7_count_88 ?_
                    exact sv_ireturn (pc := 91) G T ⟨(Nat.le_of_ble_eq_true rfl), (Nat.le_of_ble_eq_true rfl)⟩ dX7_count_91 ⟨_, rfl, rfl, h⟩
                  · have h := h.2 c_14
                    by_cases c_15 : v1 = 9
                    · have h := h.1 c_15
                      refine sv_tsw (pc := 1) G dX7_count_1 9 (by rw [c_15]; decide) 92 (by decide) (by decide) rfl (by decide) ?_
                      refine sv_aload_n (pc := 92) G dX7_count_92 0 rfl ?_
                      refine sv_getR (pc := 93) G fw_X7_9 (hL.sh rfl) rfl (hL.rf 60 rfl) dX7_count_93 ?_
                      refine sv_iconst (pc := 96) G dX7_count_96 0 ic_0 ?_
                      refine sv_ialdK (pc := 97) G (hL.sh rfl) vi_0_1443 0 tn_0 dX7_count_97 ?_
                      exact sv_ireturn (pc := 98) G T ⟨(Nat.le_of_ble_eq_true rfl), (Nat.le_of_ble_eq_true rfl)⟩ dX7_count_98 ⟨_, rfl, rfl, h⟩
                    · have h := h.2 c_15
                      refine sv_tswD (pc := 1) G dX7_count_1 (by have qc_1 := lv_neT (a := 0) c_1 (by decide); have qc_2 := lv_neT (a := 1) c_2 (by decide); have qc_4 := lv_neT (a := 2) c_4 (by decide); have qc_6 := lv_neT (a := 3) c_6 (by decide); have qc_8 := lv_neT (a := 4) c_8 (by decide); have qc_10 := lv_neT (a := 5) c_10 (by decide); have qc_12 := lv_neT (a := 6) c_12 (by decide); have qc_13 := lv_neT (a := 7) c_13 (by decide); have qc_14 := lv_neT (a := 8) c_14 (by decide); have qc_15 := lv_neT (a := 9) c_15 (by decide); omega) 99 (by decide) ?_
                      refine sv_ldc (pc := 99) G dX7_count_99 cn_X7_90 ?_
                      exact sv_ireturn (pc := 101) G T ⟨(Nat.le_of_ble_eq_true rfl), (Nat.le_of_ble_eq_true rfl)⟩ dX7_count_101 ⟨_, rfl, rfl, h⟩
