/-! CALLS THAT ONLY READ: fee, fine, why, textTold, count, splits -/
section CE
variable {F : sv_Fr} {g : sv_Mg} {a B : Nat} {f : Nat → Int32}
theorem Inv.k18 (h : Inv F g) : g 7 18 = nI (sp_t (g 59)) := by rw [h.C.1.1.2.2.2.2.2.2.2.2.2]; exact h.W.t
theorem iv_cnt_some {t key : Nat} (h : Inv F g) (e : sp_cnt (g 59) key (sp_t (g 59)) = some t) : t < sp_t (g 59) ∧ sp_key (g 59) t = key ∧ t < 14 := by
  have := sp_cnt_lt e
  have := h.W.t2
  omega
theorem l_fee (h : Inv F g) : wp_X6_fee F g (fun r g1 => wp_X7_fee F g1 (fun r2 g2 => iv_E F r r2 g2)) := by
  have t2 := h.W.t2
  obtain ⟨s1, s2, s3, s4, s5, s6, s7, s8, s9, s10⟩ := h.C.1.1
  refine k_cnt (f := g 59) (key := 1) rfl h.k18 h.C.1.2.2.2 h.W.2 t2 (by omega) ?_
  rw [s7, s5]
  have ref : ∀ g1 Q, g1 59 = g 59 → (∀ g4, sv_sm iv_tp g1 g4 → g4 72 0 = g 59 3 → g4 72 1 = g 59 9 → ((0 ≤ sp_o (sp_cnt (g 59) 1 (sp_t (g 59))) → wp_X7_worksOut F (sp_o (sp_cnt (g 59) 1 (sp_t (g 59)))) g4 Q) ∧ (¬ 0 ≤ sp_o (sp_cnt (g 59) 1 (sp_t (g 59))) → Q (g 59 3) g4))) → wp_X7_fee F g1 Q := by
    intro g1 Q e59 q
    refine r_cnt (key := 1) rfl (by rw [e59]; exact h.W.t) (by rw [e59]; exact h.W.2) (by rw [e59]; exact t2) (by omega) ?_
    intro g3 e3 g4 e4
    have hS : sv_sm iv_tp g1 g4 := by
      rw [e4, e3]
      exact (sv_sm.rf.st (by unfold iv_tp; omega)).st (by unfold iv_tp; omega)
    have e59' : g4 59 = g 59 := (iv_59 hS).trans e59
    have := q g4 hS (by rw [e4, st_nk (by omega), e3, st_at, e59]) (by rw [e4, st_at, e3, st_ne (by omega), e59])
    rw [e59, e59']
    exact this
  cases e : sp_cnt (g 59) 1 (sp_t (g 59)) with
  | none =>
    rw [e] at ref
    exact br_n pl_m1' (ref g _ rfl (fun g4 hS _ _ => br_n pl_m1' ⟨rfl, h.rdd hS⟩))
  | some t =>
    rw [e] at ref
    obtain ⟨ht1, ht2, ht3⟩ := iv_cnt_some h e
    refine br_y (pl_nn' (by omega)) (k_value h.L h.C.1.2.2.2 h.W.2 ht1 t2 (fun g1 hS1 => ?_))
    have h1 := h.rdd (iv_tp3 hS1)
    have e59 := iv_59 (iv_tp3 hS1)
    refine ref g1 _ e59 (fun g4 hS x0 x1 => br_y (pl_nn' (by omega)) ?_)
    have h4 := h1.rdd hS
    have e59' : g4 59 = g 59 := (iv_59 hS).trans e59
    refine r_works h4.W.2 (by rw [e59']; exact ht1) (by rw [e59']; exact t2) (fun g5 hS5 => ⟨?_, h4.rdd (hS5.mono (fun k z => by unfold iv_tp; omega))⟩)
    rw [e59']
    refine sp_val_x h.W.2 ht1 (fun i hi => ?_)
    rw [ht2] at hi
    have hi : i < 2 := hi
    have : i = 0 ∨ i = 1 := by omega
    rcases this with rfl | rfl
    · rw [x0]; rfl
    · rw [x1]; rfl
theorem l_fine (h : Inv F g) (v : Int32) : wp_X6_fine F v g (fun r g1 => wp_X7_fine F v g1 (fun r2 g2 => iv_E F r r2 g2)) := by
  have t2 := h.W.t2
  have n2 := h.n2
  rcases iv_voter h v with hv | ⟨i, hi, rfl⟩
  · exact k_voter_n h.k8 hv (br_y rfl (r_voter_n h.n n2 hv (br_y rfl ⟨rfl, h⟩)))
  refine k_voter_y h.k8 n2 hi (br_n ne10 ⟨pl_in (by omega) (by omega), ?_⟩)
  rw [pl_clamp (by omega)]
  have e12 : g 12 i = g 59 (15 + 6 * i) := h.C.1.2.1.at 4 _ _ hi (by omega) (by omega) (by omega)
  have e11 : g 11 i = g 59 (14 + 6 * i) := h.C.1.2.1.at 3 _ _ hi (by omega) (by omega) (by omega)
  intro v2 ev2
  rw [e12] at ev2
  refine k_cnt (f := g 59) (key := 2) rfl h.k18 h.C.1.2.2.2 h.W.2 t2 (by omega) ?_
  rw [e11, ev2]
  have ref : ∀ g1 Q, g1 59 = g 59 → (∀ g4, sv_sm iv_tp g1 g4 → g4 72 0 = g 59 (14 + 6 * i) → g4 72 1 = g 59 (15 + 6 * i) → ((0 ≤ sp_o (sp_cnt (g 59) 2 (sp_t (g 59))) → wp_X7_worksOut F (sp_o (sp_cnt (g 59) 2 (sp_t (g 59)))) g4 Q) ∧ (¬ 0 ≤ sp_o (sp_cnt (g 59) 2 (sp_t (g 59))) → Q (g 59 (15 + 6 * i)) g4))) → wp_X7_fine F (nI i) g1 Q := by
    intro g1 Q e59 q
    refine r_voter_y (n := sp_n (g 59)) (by rw [e59]; exact h.n) n2 hi (br_n ne10 ?_)
    refine r_cnt (key := 2) rfl (by rw [e59]; exact h.W.t) (by rw [e59]; exact h.W.2) (by rw [e59]; exact t2) (by omega) ?_
    refine r_of (j := 3) rfl (by omega) (by omega) ?_
    intro g3 e3
    refine r_of (j := 4) rfl (by omega) (by omega) ?_
    intro g4 e4
    have hS : sv_sm iv_tp g1 g4 := by
      rw [e4, e3]
      exact (sv_sm.rf.st (by unfold iv_tp; omega)).st (by unfold iv_tp; omega)
    have e59' : g4 59 = g 59 := (iv_59 hS).trans e59
    have e59'' : g3 59 = g 59 := by rw [e3, st_ne (by omega)]; exact e59
    have := q g4 hS (by rw [e4, st_nk (by omega), e3, st_at, e59, show 11 + 6 * i + 3 = 14 + 6 * i by omega]) (by rw [e4, st_at, e59'', show 11 + 6 * i + 4 = 15 + 6 * i by omega])
    rw [e59]
    refine ⟨this.1, fun c => r_of (j := 4) rfl (by omega) (by omega) ?_⟩
    rw [e59', show 11 + 6 * i + 4 = 15 + 6 * i by omega]
    exact this.2 c
  cases e : sp_cnt (g 59) 2 (sp_t (g 59)) with
  | none =>
    rw [e] at ref
    exact br_n pl_m1' (ref g _ rfl (fun g4 hS _ _ => br_n pl_m1' ⟨rfl, h.rdd hS⟩))
  | some t =>
    rw [e] at ref
    obtain ⟨ht1, ht2, ht3⟩ := iv_cnt_some h e
    refine br_y (pl_nn' (by omega)) ⟨pl_in (by omega) (by omega), k_value h.L h.C.1.2.2.2 h.W.2 ht1 t2 (fun g1 hS1 => ?_)⟩
    have h1 := h.rdd (iv_tp3 hS1)
    have e59 := iv_59 (iv_tp3 hS1)
    refine ref g1 _ e59 (fun g4 hS x0 x1 => br_y (pl_nn' (by omega)) ?_)
    have h4 := h1.rdd hS
    have e59' : g4 59 = g 59 := (iv_59 hS).trans e59
    refine r_works h4.W.2 (by rw [e59']; exact ht1) (by rw [e59']; exact t2) (fun g5 hS5 => ⟨?_, h4.rdd (hS5.mono (fun k z => by unfold iv_tp; omega))⟩)
    rw [e59']
    refine sp_val_x h.W.2 ht1 (fun i hi => ?_)
    rw [ht2] at hi
    have hi : i < 2 := hi
    have : i = 0 ∨ i = 1 := by omega
    rcases this with rfl | rfl
    · rw [x0]; rfl
    · rw [x1]; rfl
theorem l_why (h : Inv F g) (v : Int32) : wp_X6_why F v g (fun r g1 => wp_X7_why F v g1 (fun r2 g2 => iv_E F r r2 g2)) := by
  have t2 := h.W.t2
  rcases iv_rng v (n := 2) (by omega) with hv | ⟨i, hi, rfl⟩
  · exact k_in_n hv (br_y rfl (r_in_n hv (br_y rfl ⟨rfl, h⟩)))
  refine k_rng_y 0 2 rfl rfl rfl (Nat.zero_le i) hi (by omega) (br_n ne10 ?_)
  refine k_cnt (f := g 59) (key := i) rfl h.k18 h.C.1.2.2.2 h.W.2 t2 (by omega) ?_
  have ref : ∀ Q : Int32 → sv_Mg → Prop, ((0 ≤ sp_o (sp_cnt (g 59) i (sp_t (g 59))) → Q (sp_o (sp_cnt (g 59) i (sp_t (g 59)))) g) ∧ (¬ 0 ≤ sp_o (sp_cnt (g 59) i (sp_t (g 59))) → Q (-1000000005) g)) → wp_X7_why F (nI i) g Q := by
    intro Q q
    exact r_rng_y 0 2 rfl rfl rfl (Nat.zero_le i) hi (by omega) (br_n ne10 (r_cnt (key := i) rfl h.W.t h.W.2 t2 (by omega) q))
  refine ⟨fun c => ref _ (br_y c ⟨rfl, h⟩), fun c => ref _ (br_n c ⟨rfl, h⟩)⟩
theorem iv_ub {v : Int32} {t : Nat} (ht : t < 90000) (h : v < 0 ∨ nI t ≤ v) : v < 0 ∨ nI t - 1 < v := by
  rcases h with h | h
  · exact Or.inl h
  · by_cases h0 : t = 0
    · subst h0
      by_cases hv0 : v < 0
      · exact Or.inl hv0
      · refine Or.inr ?_
        have h2 : (nI 0 - 1 : Int32) < 0 := by decide
        exact Int32.lt_of_lt_of_le h2 (Int32.not_lt.mp hv0)
    · refine Or.inr ?_
      rw [pl_pred (by omega)]
      exact Int32.lt_of_lt_of_le ((pl_lt (by omega) (by omega)).mpr (by omega)) h
theorem l_textTold (h : Inv F g) (v w : Int32) : wp_X6_textTold F v w g (fun r g1 => wp_X7_textTold F v w g1 (fun r2 g2 => iv_E F r r2 g2)) := by
  have t2 := h.W.t2
  unfold wp_X6_textTold
  rw [h.k18]
  have hu : ∀ Q, (wp_X7_in F v 0 (nI (sp_t (g 59)) - 1) g (fun r_2 g_1 => ((r_2 = 0 → Q (-1000000001) g_1) ∧ (¬ r_2 = 0 → wp_X7_in F w 0 1 g_1 (fun r_5 g_4 => ((r_5 = 0 → Q (-1000000001) g_4) ∧ (¬ r_5 = 0 → ((w = 0 → vp_in (71 + (2 * v)) 1443 ∧ Q ((g_4 59 (71 + (2 * v)).toNatClampNeg) / 1000) g_4) ∧ (¬ w = 0 → vp_in ((71 + (2 * v)) + 1) 1443 ∧ Q (g_4 59 ((71 + (2 * v)) + 1).toNatClampNeg) g_4))))))))) → wp_X7_textTold F v w g Q := by
    intro Q q
    unfold wp_X7_textTold
    rw [h.W.t]
    exact q
  rcases pl_ix v (n := sp_t (g 59)) (by omega) with ⟨i, hi, rfl⟩ | hv
  · have l1 : ¬ nI i < 0 := pl_nn (by omega)
    have l2 : ¬ (nI (sp_t (g 59)) - 1) < nI i := by
      rw [pl_pred (by omega)]
      exact fun z => absurd ((pl_lt (by omega) (by omega)).mp z) (by omega)
    refine k_in_y l1 l2 (br_n ne10 ?_)
    rcases iv_rng w (n := 1) (by omega) with hw | ⟨j, hj, rfl⟩
    · exact k_in_n hw (br_y rfl (hu _ (r_in_y l1 l2 (br_n ne10 (r_in_n hw (br_y rfl ⟨rfl, h⟩))))))
    refine k_rng_y 0 1 rfl rfl rfl (Nat.zero_le j) hj (by omega) (br_n ne10 ⟨pl_in (by omega) (by omega), ?_⟩)
    rw [pl_clamp (by omega)]
    obtain ⟨q0, hq, hkey, hlv, -⟩ := h.C.1.2.2.2 i hi
    obtain ⟨k, m, hk3, hm, he, -⟩ := h.W.2 i hi
    have hkk := (sp_key_of he hk3 hm).1
    refine ⟨fun z => (by rw [hq] at z; cases z), fun q1 z => ?_⟩
    have : q1 = q0 := Option.some.inj (z.symm.trans hq)
    subst this
    have e71 : (71 + (2 * nI i) : Int32) = nI (71 + 2 * i) := by rw [pl_lit 71, pl_lit 2, pk_mul, nI_add]
    have c71 : (71 + (2 * nI i) : Int32).toNatClampNeg = 71 + 2 * i := by rw [e71, pl_clamp (by omega)]
    have c72 : ((71 + (2 * nI i)) + 1 : Int32).toNatClampNeg = 72 + 2 * i := by rw [e71, nI_1, pl_clamp (by omega)]; omega
    have ref : ∀ Q : Int32 → sv_Mg → Prop, ((nI j = (0 : Int32) → Q ((g 59 (71 + 2 * i)) / 1000) g) ∧ (¬ nI j = (0 : Int32) → Q (g 59 (72 + 2 * i)) g)) → wp_X7_textTold F (nI i) (nI j) g Q := by
      intro Q q
      refine hu _ (r_in_y l1 l2 (br_n ne10 (r_rng_y 0 1 rfl rfl rfl (Nat.zero_le j) hj (by omega) (br_n ne10 ?_))))
      rw [c71, c72]
      refine ⟨fun c => ⟨by rw [e71]; exact pl_in (by omega) (by omega), q.1 c⟩, fun c => ⟨by rw [e71, nI_1]; exact pl_in (by omega) (by omega), q.2 c⟩⟩
    refine ⟨fun c => ref _ (br_y c ⟨?_, h⟩), fun c => ref _ (br_n c ⟨hlv, h⟩)⟩
    rw [hkey, he, pl_lit 1000, pk_div (by omega) (by omega) (by omega), hkk, show (1000 * k + m) / 1000 = k by omega]
  · have hv' := iv_ub (t := sp_t (g 59)) (by omega) hv
    exact k_in_n hv' (br_y rfl (hu _ (r_in_n hv' (br_y rfl ⟨rfl, h⟩))))
theorem l_count (h : Inv F g) (w : Int32) : wp_X6_count F w g (fun r g1 => wp_X7_count F w g1 (fun r2 g2 => iv_E F r r2 g2)) := by
  obtain ⟨s1, s2, s3, s4, s5, s6, s7, s8, s9, s10⟩ := h.C.1.1
  have s15 : g 7 15 = g 59 2 := h.C.2.2
  obtain ⟨n, hn, x1, x2, -⟩ := h.2.2.2.1
  obtain ⟨m, hm, y1, y2, -⟩ := h.2.2.2.2.2.2.1
  rcases iv_rng w (n := 9) (by omega) with hw | ⟨j, hj, rfl⟩
  · have o : ∀ j, j ≤ 9 → ¬ w = nI j := fun j hj => iv_out (l := 0) hw (by omega) (by omega) hj
    refine br_n (o 0 (by omega)) (br_n (o 1 (by omega)) (br_n (o 2 (by omega)) (br_n (o 3 (by omega)) (br_n (o 4 (by omega)) ?_))))
    refine br_n (o 5 (by omega)) (br_n (o 6 (by omega)) (br_n (o 7 (by omega)) (br_n (o 8 (by omega)) (br_n (o 9 (by omega)) ?_))))
    refine br_n (o 0 (by omega)) (br_n (o 1 (by omega)) (br_n (o 2 (by omega)) (br_n (o 3 (by omega)) (br_n (o 4 (by omega)) ?_))))
    exact br_n (o 5 (by omega)) (br_n (o 6 (by omega)) (br_n (o 7 (by omega)) (br_n (o 8 (by omega)) (br_n (o 9 (by omega)) ⟨rfl, h⟩))))
  have hjj : j = 0 ∨ j = 1 ∨ j = 2 ∨ j = 3 ∨ j = 4 ∨ j = 5 ∨ j = 6 ∨ j = 7 ∨ j = 8 ∨ j = 9 := by omega
  rcases hjj with rfl | rfl | rfl | rfl | rfl | rfl | rfl | rfl | rfl | rfl
  · exact br_y rfl (br_y rfl ⟨s1, h⟩)
  · iterate 1 refine br_n (by decide) ?_
    refine br_y rfl ?_
    iterate 1 refine br_n (by decide) ?_
    exact br_y rfl ⟨by unfold vp_in; decide, s15, h⟩
  · iterate 2 refine br_n (by decide) ?_
    refine br_y rfl ?_
    iterate 2 refine br_n (by decide) ?_
    exact br_y rfl ⟨by unfold vp_in; decide, s7, h⟩
  · iterate 3 refine br_n (by decide) ?_
    refine br_y rfl ?_
    iterate 3 refine br_n (by decide) ?_
    exact br_y rfl ⟨by unfold vp_in; decide, s2, h⟩
  · iterate 4 refine br_n (by decide) ?_
    refine br_y rfl ?_
    iterate 4 refine br_n (by decide) ?_
    exact br_y rfl ⟨by unfold vp_in; decide, s3, h⟩
  · iterate 5 refine br_n (by decide) ?_
    refine br_y rfl ?_
    iterate 5 refine br_n (by decide) ?_
    exact br_y rfl ⟨by unfold vp_in; decide, s4, h⟩
  · iterate 6 refine br_n (by decide) ?_
    refine br_y rfl ?_
    iterate 6 refine br_n (by decide) ?_
    exact br_y rfl ⟨s10, h⟩
  · iterate 7 refine br_n (by decide) ?_
    refine br_y rfl ?_
    iterate 7 refine br_n (by decide) ?_
    exact br_y rfl ⟨y1.trans y2.symm, h⟩
  · iterate 8 refine br_n (by decide) ?_
    refine br_y rfl ?_
    iterate 8 refine br_n (by decide) ?_
    exact br_y rfl ⟨x1.trans x2.symm, h⟩
  · iterate 9 refine br_n (by decide) ?_
    refine br_y rfl ?_
    iterate 9 refine br_n (by decide) ?_
    exact br_y rfl ⟨s8, h⟩
/-! splits -/
def sp_ws (W : Nat → Int32) (V s : Nat) : Nat → Int32
  | 0 => 0
  | k + 1 => sp_ws W V s k + (if 3 * k < 2 * V then W (s - k) else 0)
theorem sp_ws_stop {W : Nat → Int32} {V s k : Nat} (h : ¬ 3 * k < 2 * V) : ∀ j, sp_ws W V s (k + j) = sp_ws W V s k
  | 0 => rfl
  | j + 1 => by rw [← Nat.add_assoc, sp_ws, if_neg (by omega), Int32.add_zero, sp_ws_stop h j]
theorem sp_ws_cg {W W' : Nat → Int32} {V s : Nat} (hs : s ≤ 12) (h : ∀ k, k < 13 → W' k = W k) : ∀ k, sp_ws W' V s k = sp_ws W V s k
  | 0 => rfl
  | k + 1 => by rw [sp_ws, sp_ws, sp_ws_cg hs h k, h (s - k) (by omega)]
/-- sums from V down, so many of them done -/
def sp_wd (W : Nat → Int32) (V : Nat) : Nat → Nat → Int32
  | 0 => W
  | m + 1 => upd (sp_wd W V m) (V - m) (sp_ws (sp_wd W V m) V (V - m) (V - m + 1))
def sp_wc (V : Nat) : Nat → Nat → Int32
  | 0 => fun k => if k = 0 then 1 else 0
  | c + 1 => sp_wd (sp_wc V c) V (V + 1)
def sp_13 (W W' : Nat → Int32) : Prop := ∀ k, k < 13 → W' k = W k
theorem k_ways {W : Nat → Int32} {V s : Nat} {Q : Int32 → sv_Mg → Prop} (hV : V ≤ 12) (hs : s ≤ V) (hW : sp_13 W (g 57)) (q : Q (sp_ws W V s (s + 1)) g) : wp_X6_waysWithOneMore F (nI s) (nI V) g Q := by
  have go : ∀ m i, i ≤ s + 1 → s + 2 ≤ i + m → wp_X6_waysWithOneMore_5 F Q m (nI s) (nI V) (sp_ws W V s i) (nI i) g := by
    intro m
    induction m with
    | zero => intro i h1 h2; omega
    | succ m ih =>
      intro i h1 h2
      rw [wp_X6_waysWithOneMore_5]
      by_cases hi : s < i
      · have e : i = s + 1 := by omega
        refine br_y ((pl_lt (by omega) (by omega)).mpr hi) ?_
        rw [e]; exact q
      · refine br_n (fun z => hi ((pl_lt (by omega) (by omega)).mp z)) ?_
        rw [pl_lit 2, pl_lit 3, pk_mul, pk_mul]
        by_cases c : 3 * i < 2 * V
        · refine br_n (fun z => absurd ((pl_le (by omega) (by omega)).mp z) (by omega)) ?_
          rw [pk_sub (by omega), pl_clamp (by omega), hW _ (by omega)]
          refine ⟨pl_in (by omega) (by omega), ?_⟩
          intro v3 e3 v4 e4
          rw [e3, e4, nI_1]
          have := ih (i + 1) (by omega) (by omega)
          rw [sp_ws, if_pos c] at this
          exact this
        · refine br_y ((pl_le (by omega) (by omega)).mpr (by omega)) ?_
          have := sp_ws_stop (W := W) (s := s) c (s + 1 - i)
          rw [show i + (s + 1 - i) = s + 1 by omega] at this
          rw [← this]; exact q
  exact ⟨_, go (s + 2) 0 (Nat.zero_le _) (by omega)⟩
theorem k_splits {V c : Nat} {Q : Int32 → sv_Mg → Prop} (hV : V ≤ 12) (hc1 : 1 ≤ c) (hc : c ≤ 6) (q : ∀ g', sv_sm (fun k => k = 57) g g' → Q (sp_wc V c V) g') : wp_X6_splits F (nI V) (nI c) g Q := by
  refine k_rng_y 0 12 rfl rfl rfl (Nat.zero_le V) hV (by omega) (br_n ne10 (k_rng_y 1 6 rfl rfl rfl hc1 hc (by omega) (br_n ne10 ?_)))
  refine k_fill (by omega) (fun g1 h1 f1 => ?_)
  intro g2 e2
  have S2 : sv_sm (fun k => k = 57) g g2 := by rw [e2]; exact h1.st rfl
  have W2 : sp_13 (sp_wc V 0) (g2 57) := by
    intro k hk
    rw [e2]
    by_cases ek : k = 0
    · subst ek; rw [st_at]; rfl
    · rw [st_nk ek, f1 k hk]
      show (0 : Int32) = if k = 0 then 1 else 0
      rw [if_neg ek]
  have go : ∀ m i g', i ≤ c → c + 1 ≤ i + m → sv_sm (fun k => k = 57) g g' → sp_13 (sp_wc V i) (g' 57) → wp_X6_splits_40 F Q m (nI V) (nI c) (nI i) g' := by
    intro m
    induction m with
    | zero => intro i g' h1 h2; omega
    | succ m ih =>
      intro i g' h1 h2 hS hW
      rw [wp_X6_splits_40]
      by_cases hi : c ≤ i
      · have e : i = c := by omega
        refine br_y ((pl_le (by omega) (by omega)).mpr hi) ⟨pl_in (by omega) (by omega), ?_⟩
        rw [pl_clamp (by omega), hW V (by omega), e]
        exact q g' hS
      · refine br_n (fun z => hi ((pl_le (by omega) (by omega)).mp z)) ?_
        have inn : ∀ n j g'', j ≤ V + 1 → V + 2 ≤ j + n → sv_sm (fun k => k = 57) g g'' → sp_13 (sp_wd (sp_wc V i) V j) (g'' 57) → wp_X6_splits_48 F Q (wp_X6_splits_40 F Q m) n (nI V) (nI c) (nI i) (nI V - nI j) g'' := by
          intro n
          induction n with
          | zero => intro j g'' h1 h2; omega
          | succ n ih2 =>
            intro j g'' h3 h4 hS' hW'
            rw [wp_X6_splits_48]
            by_cases hj : V < j
            · have e : j = V + 1 := by omega
              refine br_y (pk_sneg (by omega) hj) ?_
              intro v3 e3
              rw [e3, nI_1]
              refine ih (i + 1) g'' (by omega) (by omega) hS' ?_
              rw [e] at hW'
              exact hW'
            · rw [pk_sub (by omega)]
              refine br_n (pl_nn (by omega)) ?_
              refine k_ways hV (by omega) hW' ⟨pl_in (by omega) (by omega), ?_⟩
              rw [pl_clamp (by omega)]
              intro g3 e3 v4 e4
              have ev : v4 = nI V - nI (j + 1) := by
                rw [e4, ← pk_sub (show j ≤ V by omega), pl_am1, ← nI_1, Int32.sub_sub]
              rw [ev]
              refine ih2 (j + 1) g3 (by omega) (by omega) (by rw [e3]; exact hS'.st rfl) (fun k hk => ?_)
              rw [e3, sp_wd]
              by_cases ek : k = V - j
              · subst ek; rw [st_at, pk_us]
              · rw [st_nk ek, pk_un ek]; exact hW' k hk
        have z := inn (V + 2) 0 g' (by omega) (by omega) hS hW
        rw [show (nI V - nI 0 : Int32) = nI V by rw [pk_sub (Nat.zero_le _), Nat.sub_zero]] at z
        exact ⟨_, z⟩
  exact ⟨_, go (c + 1) 0 g2 (Nat.zero_le _) (by omega) S2 W2⟩
theorem r_splits {V c : Nat} {Q : Int32 → sv_Mg → Prop} (hV : V ≤ 12) (hc1 : 1 ≤ c) (hc : c ≤ 6) (q : ∀ g', sv_sm (fun k => k = 63) g g' → Q (sp_wc V c V) g') : wp_X7_splits F (nI V) (nI c) g Q := by
  refine r_rng_y 0 12 rfl rfl rfl (Nat.zero_le V) hV (by omega) (br_n ne10 (r_rng_y 1 6 rfl rfl rfl hc1 hc (by omega) (br_n ne10 ?_)))
  have go : ∀ m i g', i ≤ c → c + 1 ≤ i + m → sv_sm (fun k => k = 63) g g' → sp_13 (sp_wc V i) (g' 63) → wp_X7_splits_54 F Q m (nI V) (nI c) (nI i) g' := by
    intro m
    induction m with
    | zero => intro i g' h1 h2; omega
    | succ m ih =>
      intro i g' h1 h2 hS hW
      rw [wp_X7_splits_54]
      by_cases hi : c ≤ i
      · have e : i = c := by omega
        refine br_y ((pl_le (by omega) (by omega)).mpr hi) ⟨pl_in (by omega) (by omega), ?_⟩
        rw [pl_clamp (by omega), hW V (by omega), e]
        exact q g' hS
      · refine br_n (fun z => hi ((pl_le (by omega) (by omega)).mp z)) ?_
        have inn : ∀ n j g'', j ≤ V + 1 → V + 2 ≤ j + n → sv_sm (fun k => k = 63) g g'' → sp_13 (sp_wd (sp_wc V i) V j) (g'' 63) → wp_X7_splits_62 F Q (wp_X7_splits_54 F Q m) n (nI V) (nI c) (nI i) (nI V - nI j) g'' := by
          intro n
          induction n with
          | zero => intro j g'' h1 h2; omega
          | succ n ih2 =>
            intro j g'' h3 h4 hS' hW'
            rw [wp_X7_splits_62]
            by_cases hj : V < j
            · have e : j = V + 1 := by omega
              refine br_y (pk_sneg (by omega) hj) ?_
              intro v3 e3
              rw [e3, nI_1]
              refine ih (i + 1) g'' (by omega) (by omega) hS' ?_
              rw [e] at hW'
              exact hW'
            · rw [pk_sub (by omega)]
              refine br_n (pl_nn (by omega)) ?_
              have inn2 : ∀ n' k, k ≤ V - j + 1 → V - j + 2 ≤ k + n' → wp_X7_splits_73 F Q (wp_X7_splits_54 F Q m) (wp_X7_splits_62 F Q (wp_X7_splits_54 F Q m) n) n' (nI V) (nI c) (nI i) (nI (V - j)) (sp_ws (sp_wd (sp_wc V i) V j) V (V - j) k) (nI k) g'' := by
                intro n'
                induction n' with
                | zero => intro k h1 h2; omega
                | succ n' ih3 =>
                  intro k h5 h6
                  rw [wp_X7_splits_73]
                  by_cases hk : V - j < k
                  · have ek : k = V - j + 1 := by omega
                    refine br_y ((pl_lt (by omega) (by omega)).mpr hk) ⟨pl_in (by omega) (by omega), ?_⟩
                    rw [pl_clamp (by omega), ek]
                    intro g3 e3 v4 e4
                    have ev : v4 = nI V - nI (j + 1) := by
                      rw [e4, ← pk_sub (show j ≤ V by omega), pl_am1, ← nI_1, Int32.sub_sub]
                    rw [ev]
                    refine ih2 (j + 1) g3 (by omega) (by omega) (by rw [e3]; exact hS'.st rfl) (fun k hk => ?_)
                    rw [e3, sp_wd]
                    by_cases ek : k = V - j
                    · subst ek; rw [st_at, pk_us]
                    · rw [st_nk ek, pk_un ek]; exact hW' k hk
                  · refine br_n (fun z => hk ((pl_lt (by omega) (by omega)).mp z)) ?_
                    have ih4 := ih3 (k + 1) (by omega) (by omega)
                    rw [sp_ws] at ih4
                    rw [pl_lit 2, pl_lit 3, pk_mul, pk_mul]
                    by_cases cc : 3 * k < 2 * V
                    · rw [if_pos cc] at ih4
                      refine br_n (fun z => absurd ((pl_le (by omega) (by omega)).mp z) (by omega)) ?_
                      rw [pk_sub (by omega), pl_clamp (by omega), hW' _ (by omega)]
                      refine ⟨pl_in (by omega) (by omega), ?_⟩
                      intro v5 e5 v6 e6
                      rw [e5, e6, nI_1]; exact ih4
                    · rw [if_neg cc] at ih4
                      refine br_y ((pl_le (by omega) (by omega)).mpr (by omega)) ?_
                      intro v5 e5 v6 e6
                      rw [e5, e6, nI_1]; exact ih4
              exact ⟨_, inn2 (V - j + 2) 0 (by omega) (by omega)⟩
        have z := inn (V + 2) 0 g' (by omega) (by omega) hS hW
        rw [show (nI V - nI 0 : Int32) = nI V by rw [pk_sub (Nat.zero_le _), Nat.sub_zero]] at z
        exact ⟨_, z⟩
  have st : ∀ m i g', i ≤ 13 → 14 ≤ i + m → sv_sm (fun k => k = 63) g g' → (∀ k, k < i → g' 63 k = sp_wc V 0 k) → wp_X7_splits_25 F Q m (nI V) (nI c) (nI i) g' := by
    intro m
    induction m with
    | zero => intro i g' h1 h2; omega
    | succ m ih =>
      intro i g' h1 h2 hS hW
      rw [wp_X7_splits_25, pl_lit 13]
      by_cases hi : 13 ≤ i
      · refine br_y ((pl_le (by omega) (by omega)).mpr hi) ?_
        exact ⟨_, go (c + 1) 0 g' (Nat.zero_le _) (by omega) hS (fun k hk => hW k (by omega))⟩
      · refine br_n (fun z => hi ((pl_le (by omega) (by omega)).mp z)) ?_
        have fin : ∀ x, x = sp_wc V 0 i → wp_X7_splits_45 F Q (wp_X7_splits_25 F Q m) (nI V) (nI c) (nI i) x (nI i) g' := by
          intro x ex
          refine ⟨pl_in (by omega) (by omega), ?_⟩
          rw [pl_clamp (by omega)]
          intro g2 e2 v3 e3
          rw [e3, nI_1]
          refine ih (i + 1) g2 (by omega) (by omega) (by rw [e2]; exact hS.st rfl) (fun k hk => ?_)
          rw [e2]
          by_cases ek : k = i
          · subst ek; rw [st_at, ex]
          · rw [st_nk ek]; exact hW k (by omega)
        by_cases e0 : i = 0
        · refine br_y ((pl_eq0 (by omega)).mpr e0) (fin 1 ?_)
          subst e0; rfl
        · refine br_n (fun z => e0 ((pl_eq0 (by omega)).mp z)) (fin 0 ?_)
          show (0 : Int32) = if i = 0 then 1 else 0
          rw [if_neg e0]
  exact ⟨_, st 14 0 g (Nat.zero_le _) (by omega) sv_sm.rf (fun k hk => absurd hk (Nat.not_lt_zero k))⟩
theorem l_splits (h : Inv F g) (v w : Int32) : wp_X6_splits F v w g (fun r g1 => wp_X7_splits F v w g1 (fun r2 g2 => iv_E F r r2 g2)) := by
  rcases iv_rng v (n := 12) (by omega) with hv | ⟨V, hV, rfl⟩
  · exact k_in_n hv (br_y rfl (r_in_n hv (br_y rfl ⟨rfl, h⟩)))
  rcases iv_rng2 w (l := 1) (n := 6) (by omega) (by omega) with hw | ⟨c, hc1, hc2, rfl⟩
  · exact k_rng_y 0 12 rfl rfl rfl (Nat.zero_le V) hV (by omega) (br_n ne10 (k_in_n hw (br_y rfl (r_rng_y 0 12 rfl rfl rfl (Nat.zero_le V) hV (by omega) (br_n ne10 (r_in_n hw (br_y rfl ⟨rfl, h⟩)))))))
  refine k_splits hV hc1 hc2 (fun g1 h1 => r_splits hV hc1 hc2 (fun g2 h2 => ⟨rfl, ?_⟩))
  exact h.rdd ((h1.mono (fun k z => by unfold iv_tp; omega)).tr (h2.mono (fun k z => by unfold iv_tp; omega)))
end CE
