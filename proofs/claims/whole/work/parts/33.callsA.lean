/-! CALLS THAT CHANGE NOW -/
theorem iv_out {v : Int32} {l n j : Nat} (h : v < nI l ∨ nI n < v) (hn : n < 90000) (h1 : l ≤ j) (h2 : j ≤ n) : ¬ v = nI j := by
  intro e
  subst e
  rcases h with z | z
  · exact absurd ((pl_lt (by omega) (by omega)).mp z) (by omega)
  · exact absurd ((pl_lt (by omega) (by omega)).mp z) (by omega)
section CA
variable {F : sv_Fr} {g : sv_Mg}
theorem sp_t_cg {f f' : Nat → Int32} (h : f' 10 = f 10) : sp_t f' = sp_t f := by unfold sp_t; rw [h]
/-- the end of a call that changes now: both sides done -/
theorem iv_end {g1 g2 : sv_Mg} (h : Inv F g) {T : Nat → Prop} (hS1 : sv_sm T g g1) (hT : ∀ k, T k → ¬ iv_K k ∧ k ≠ 59) (hS2 : sv_sm (fun k => k = 59 ∨ k = 62 ∨ k = 63 ∨ k = 64 ∨ k = 71 ∨ k = 72) g1 g2) {f' : Nat → Int32} (e : g2 59 = f') (hw : sp_W 9999 f') (hc : cr F g1 7 f') (h10 : f' 10 = g 59 10) : Inv F g2 := by
  subst e
  refine h.now hw (hc.mv h.L (fun k hk => hS2 k (by omega))) (by rw [sp_t_cg h10]; exact Nat.le_refl _) (fun k hk => ?_)
  rw [hS2 k (by unfold iv_K at hk; omega), hS1 k (fun z => (hT k z).1 hk)]
theorem iv_T7 : ∀ k, sp_fa 7 k → ¬ iv_K k ∧ k ≠ 59 := by
  intro k hk
  unfold sp_fa at hk
  unfold iv_K
  omega
theorem iv_T73 : ∀ k, sp_fr 7 k → ¬ iv_K k ∧ k ≠ 59 := by
  intro k hk
  unfold sp_fr at hk
  unfold iv_K
  omega
theorem l_voter (h : Inv F g) (k l p e : Int32) : wp_X6_voter F k l p e g (fun r g1 => wp_X7_voter F k l p e g1 (fun r2 g2 => iv_E F r r2 g2)) := by
  have n2 := h.n2
  rcases iv_rng k (n := 5) (by omega) with hk | ⟨k, hk, rfl⟩
  · exact k_in_n hk (br_y rfl (br_y rfl (r_in_n hk (br_y rfl ⟨rfl, h⟩))))
  refine k_rng_y 0 5 rfl rfl rfl (Nat.zero_le k) hk (by omega) (br_n ne10 ?_)
  rcases iv_rng l (n := 9) (by omega) with hl | ⟨l, hl, rfl⟩
  · exact k_in_n hl (br_y rfl (br_y rfl (r_rng_y 0 5 rfl rfl rfl (Nat.zero_le k) hk (by omega) (br_n ne10 (r_in_n hl (br_y rfl ⟨rfl, h⟩))))))
  refine k_rng_y 0 9 rfl rfl rfl (Nat.zero_le l) hl (by omega) (br_n ne10 ?_)
  rcases iv_rng p (n := 3) (by omega) with hp | ⟨p, hp, rfl⟩
  · exact k_in_n hp (br_y rfl (br_y rfl (r_rng_y 0 5 rfl rfl rfl (Nat.zero_le k) hk (by omega) (br_n ne10 (r_rng_y 0 9 rfl rfl rfl (Nat.zero_le l) hl (by omega) (br_n ne10 (r_in_n hp (br_y rfl ⟨rfl, h⟩))))))))
  refine k_rng_y 0 3 rfl rfl rfl (Nat.zero_le p) hp (by omega) (br_n ne10 ?_)
  rcases iv_rng e (n := 99) (by omega) with he | ⟨e, he, rfl⟩
  · exact k_in_n he (br_y rfl (br_y rfl (r_rng_y 0 5 rfl rfl rfl (Nat.zero_le k) hk (by omega) (br_n ne10 (r_rng_y 0 9 rfl rfl rfl (Nat.zero_le l) hl (by omega) (br_n ne10 (r_rng_y 0 3 rfl rfl rfl (Nat.zero_le p) hp (by omega) (br_n ne10 (r_in_n he (br_y rfl ⟨rfl, h⟩))))))))))
  refine k_rng_y 0 99 rfl rfl rfl (Nat.zero_le e) he (by omega) (br_n ne10 ?_)
  refine br_n ne10 ?_
  rw [h.k8]
  have ref : ∀ g1 Q, (((g1 59 1) = 10 → Q (-1000000003) g1) ∧ (¬ (g1 59 1) = 10 → wp_X7_comes F (nI k) (nI l) (nI p) (nI e) g1 (fun r_15 g_14 => Q r_15 g_14))) → wp_X7_voter F (nI k) (nI l) (nI p) (nI e) g1 Q := by
    intro g1 Q q
    exact r_rng_y 0 5 rfl rfl rfl (Nat.zero_le k) hk (by omega) (br_n ne10 (r_rng_y 0 9 rfl rfl rfl (Nat.zero_le l) hl (by omega) (br_n ne10 (r_rng_y 0 3 rfl rfl rfl (Nat.zero_le p) hp (by omega) (br_n ne10 (r_rng_y 0 99 rfl rfl rfl (Nat.zero_le e) he (by omega) (br_n ne10 q)))))))
  by_cases hn : sp_n (g 59) < 10
  · refine br_y ((pl_lt (b := 10) (by omega) (by omega)).mpr hn) (k_enter h.L sv_C7 h.C h.W hn (fun g1 hS hc1 => ?_))
    have e59 : g1 59 = g 59 := hS 59 (by unfold sp_fa; omega)
    refine ref g1 _ (br_n ?_ ?_)
    · rw [e59, h.n]
      exact fun z => absurd ((pl_eq (b := 10) (by omega) (by omega)).mp z) (by omega)
    · refine r_comes (by rw [e59]; exact h.n) (by rw [e59]; exact hn) (fun g2 h2 e2 => ⟨?_, ?_⟩)
      · rw [hc1.1.1.1, (sp_come_n hn).1, e59, nI_pred]
      · rw [e59] at e2
        exact iv_end h hS iv_T7 (h2.mono (fun k z => Or.inl z)) e2 (h.W.come hn (by omega) (by omega) (by omega) (by omega)) hc1 (sp_come_ne (by omega) (by omega))
  · refine br_n (fun z => hn ((pl_lt (b := 10) (by omega) (by omega)).mp z)) (ref g _ (br_y ?_ ⟨rfl, h⟩))
    rw [h.n]
    exact (pl_eq (b := 10) (by omega) (by omega)).mpr (by omega)
theorem l_seed (h : Inv F g) (v : Int32) : wp_X6_seed F v g (fun r g1 => wp_X7_seed F v g1 (fun r2 g2 => iv_E F r r2 g2)) := by
  intro v2 e2 g1 e1
  have hS : sv_sm (sp_fa 7) g g1 := by rw [e1]; exact sv_sm.rf.st ⟨by omega, by omega⟩
  have e59 : g1 59 = g 59 := hS 59 (by unfold sp_fa; omega)
  refine r_becomes (k := 0) rfl (by omega) ⟨?_, ?_⟩
  · rw [e2, e59]; exact h.C.1.1.2.2.2.2.2.2.2.1
  · have D := h.C.fld (p := 16) (r := 0) (x := v) h.L sv_C7 (by unfold sp_pr; omega)
    have e0 : upd (g 59) 0 v 2 = g 59 2 := pk_un (by omega)
    refine iv_end (g2 := sv_st g1 59 0 v) h hS iv_T7 ((sv_sm.rf (g := g1)).st (Or.inl rfl)) (f' := upd (g 59) 0 v) (by rw [upd_st, e59]) h.W.seed ?_ (pk_un (by omega))
    unfold cr
    rw [e0, e1]; exact D
theorem l_rule (h : Inv F g) (w v : Int32) : wp_X6_rule F w v g (fun r g1 => wp_X7_rule F w v g1 (fun r2 g2 => iv_E F r r2 g2)) := by
  rcases iv_rng w (n := 2) (by omega) with hw | ⟨i, hi, rfl⟩
  · have h2 : ¬ w = 2 := iv_out (l := 0) (n := 2) (j := 2) hw (by omega) (by omega) (by omega)
    exact br_n h2 (k_in_n hw (br_y rfl (r_in_n hw (br_y rfl ⟨rfl, h⟩))))
  have main : ∀ (l p : Nat) (g1 : sv_Mg), p = 9 + i → (l ≤ 1) → (i = 2 → l = 1) → (∃ x, l ≤ x ∧ x ≤ 99 ∧ v = nI x) → g1 = sv_st g 7 p v → ∀ r, r = g 7 p → wp_X7_becomes F (4 + nI i) v g1 (fun r2 g2 => iv_E F r r2 g2) := by
    intro l p g1 hp hl hil hx e1 r er
    obtain ⟨x, hx1, hx2, ex⟩ := hx
    have hS : sv_sm (sp_fa 7) g g1 := by rw [e1]; exact sv_sm.rf.st ⟨by omega, by omega⟩
    have e59 : g1 59 = g 59 := hS 59 (by unfold sp_fa; omega)
    have hpr : sp_pr p (4 + i) := by unfold sp_pr; omega
    refine r_becomes (k := 4 + i) (by rw [pl_lit 4, nI_add]) (by omega) ⟨?_, ?_⟩
    · rw [er, e59]
      obtain ⟨s1, s2, s3, s4, -⟩ := h.C.1.1
      have : i = 0 ∨ i = 1 ∨ i = 2 := by omega
      rcases this with rfl | rfl | rfl
      · subst hp; exact s2
      · subst hp; exact s3
      · subst hp; exact s4
    · have D := h.C.fld (p := p) (r := 4 + i) (x := v) h.L sv_C7 hpr
      have e0 : upd (g 59) (4 + i) v 2 = g 59 2 := pk_un (by omega)
      refine iv_end (g2 := sv_st g1 59 (4 + i) v) h hS iv_T7 ((sv_sm.rf (g := g1)).st (Or.inl rfl)) (f' := upd (g 59) (4 + i) v) (by rw [upd_st, e59]) (h.W.rule (k := x) (by omega) (by omega) ex) ?_ (pk_un (by omega))
      unfold cr
      rw [e0, e1]; exact D
  have two : ∀ (l : Nat) (L : Int32), L = nI l → l ≤ 1 → (i = 2 → l = 1) → wp_X6_rule_10 F (fun r g1 => wp_X7_rule F (nI i) v g1 (fun r2 g2 => iv_E F r r2 g2)) (nI i) v L g → wp_X6_rule_10 F (fun r g1 => wp_X7_rule F (nI i) v g1 (fun r2 g2 => iv_E F r r2 g2)) (nI i) v L g := fun _ _ _ _ _ z => z
  have ref : ∀ (l : Nat) (L : Int32), L = nI l → l ≤ 1 → ((nI i : Int32) = 2 ↔ l = 1) → ∀ g1 Q, wp_X7_rule_20 F Q (nI i) v L v g1 → wp_X7_rule F (nI i) v g1 Q := by
    intro l L hL hl hil g1 Q q
    refine r_rng_y 0 2 rfl rfl rfl (Nat.zero_le i) hi (by omega) (br_n ne10 ?_)
    by_cases c : (nI i : Int32) = 2
    · have : l = 1 := hil.mp c
      subst this
      rw [hL] at q
      exact br_y c q
    · have : l = 0 := by
        rcases Nat.lt_or_ge l 1 with z | z
        · omega
        · exact absurd (hil.mpr (by omega)) c
      subst this
      rw [hL] at q
      exact br_n c q
  have go : ∀ (l : Nat) (L : Int32), L = nI l → l ≤ 1 → ((nI i : Int32) = 2 ↔ l = 1) → wp_X6_rule_10 F (fun r g1 => wp_X7_rule F (nI i) v g1 (fun r2 g2 => iv_E F r r2 g2)) (nI i) v L g := by
    intro l L hL hl hil
    refine k_rng_y 0 2 rfl rfl rfl (Nat.zero_le i) hi (by omega) (br_n ne10 ?_)
    rcases iv_rng2 v (l := l) (n := 99) (by omega) (by omega) with hv | ⟨x, hx1, hx2, ex⟩
    · have hv' : v < L ∨ 99 < v := by rw [hL]; exact hv
      exact k_in_n hv' (br_y rfl (ref l L hL hl hil g _ (r_in_n hv' (br_y rfl ⟨rfl, h⟩))))
    · refine k_rng_y l 99 ex hL rfl hx1 hx2 (by omega) (br_n ne10 ?_)
      have fin : ∀ p g1, p = 9 + i → g1 = sv_st g 7 p v → ∀ r, r = g 7 p → wp_X7_rule F (nI i) v g1 (fun r2 g2 => iv_E F r r2 g2) := by
        intro p g1 hp e1 r er
        refine ref l L hL hl hil g1 _ (r_rng_y l 99 ex hL rfl hx1 hx2 (by omega) (br_n ne10 ?_))
        refine main l p g1 hp hl (fun z => hil.mp (by rw [z]; rfl)) ⟨x, hx1, hx2, ex⟩ e1 r er
      have h0 : (nI i : Int32) = 0 ↔ i = 0 := pl_eq0 (by omega)
      have h1 : (nI i : Int32) = 1 ↔ i = 1 := pl_eq (b := 1) (by omega) (by omega)
      refine ⟨fun c => ?_, fun c => ⟨fun c1 => ?_, fun c1 => ?_⟩⟩
      · intro v4 e4 g1 e1
        exact fin 9 g1 (by have := h0.mp c; omega) e1 v4 e4
      · intro v4 e4 g1 e1
        exact fin 10 g1 (by have := h1.mp c1; omega) e1 v4 e4
      · intro v4 e4 g1 e1
        exact fin 11 g1 (by have := mt h0.mpr c; have := mt h1.mpr c1; omega) e1 v4 e4
  have h2 : (nI i : Int32) = 2 ↔ i = 2 := pl_eq (b := 2) (by omega) (by omega)
  refine ⟨fun c => go 1 1 rfl (by omega) ⟨fun _ => rfl, fun _ => c⟩, fun c => go 0 0 rfl (by omega) ⟨fun z => absurd z c, fun z => absurd z (by omega)⟩⟩
theorem l_set (h : Inv F g) (v w x : Int32) : wp_X6_set F v w x g (fun r g1 => wp_X7_set F v w x g1 (fun r2 g2 => iv_E F r r2 g2)) := by
  have n2 := h.n2
  have ref : ∀ g1 Q, (∀ s0, (w = 2 → s0 = 3) → (w = 3 → s0 = 99) → (¬ w = 2 → ¬ w = 3 → s0 = 9) → wp_X7_set_21 F Q v w x s0 g1) → wp_X7_set F v w x g1 Q := by
    intro g1 Q q
    refine ⟨fun c => q 3 (fun _ => rfl) (fun c' => ?_) (fun c' => absurd c c'), fun c => ⟨fun c1 => q 99 (fun c' => absurd c' c) (fun _ => rfl) (fun _ c' => absurd c1 c'), fun c1 => q 9 (fun c' => absurd c' c) (fun c' => absurd c' c1) (fun _ _ => rfl)⟩⟩
    rw [c] at c'; exact absurd c' (by decide)
  rcases iv_voter h v with hv | ⟨i, hi, rfl⟩
  · exact k_voter_n h.k8 hv (br_y rfl (ref g _ (fun s0 _ _ _ => r_voter_n h.n n2 hv (br_y rfl ⟨rfl, h⟩))))
  refine k_voter_y h.k8 n2 hi (br_n ne10 ?_)
  rcases iv_rng2 w (l := 1) (n := 4) (by omega) (by omega) with hw | ⟨j, hj1, hj2, rfl⟩
  · have o1 : ¬ w = 1 := iv_out hw (j := 1) (by omega) (by omega) (by omega)
    have o2 : ¬ w = 2 := iv_out hw (j := 2) (by omega) (by omega) (by omega)
    have o3 : ¬ w = 3 := iv_out hw (j := 3) (by omega) (by omega) (by omega)
    have o4 : ¬ w = 4 := iv_out hw (j := 4) (by omega) (by omega) (by omega)
    exact br_n o1 (br_n o2 (br_n o3 (br_n o4 (ref g _ (fun s0 _ _ _ => r_voter_y h.n n2 hi (br_n ne10 (r_in_n hw (br_y rfl ⟨rfl, h⟩))))))))
  have fin : ∀ (m : Nat) (M : Int32), M = nI m → m < 100 → m + 1 = sp_lim j → (∀ Q g1, wp_X7_set_21 F Q (nI i) (nI j) x M g1 → wp_X7_set F (nI i) (nI j) x g1 Q) → wp_X6_put F (8 + j) 10 (nI i) x M g (fun r g1 => wp_X7_set F (nI i) (nI j) x g1 (fun r2 g2 => iv_E F r r2 g2)) := by
    intro m M hM hm hlim ref
    rcases iv_rng x (n := m) (by omega) with hx | ⟨y, hy, ey⟩
    · rw [← hM] at hx
      exact k_in_n hx (br_y rfl (ref _ g (r_voter_y h.n n2 hi (br_n ne10 (r_rng_y 1 4 rfl rfl rfl hj1 hj2 (by omega) (br_n ne10 (r_in_n hx (br_y rfl ⟨rfl, h⟩))))))))
    refine k_rng_y 0 m ey rfl hM (Nat.zero_le y) hy (by omega) (br_n ne10 ⟨pl_in (by omega) (by omega), ?_⟩)
    intro v4 e4
    refine ⟨pl_in (by omega) (by omega), ?_⟩
    rw [pl_clamp (by omega)] at e4 ⊢
    intro g1 e1
    have hS : sv_sm (sp_fa 7) g g1 := by rw [e1]; exact sv_sm.rf.st ⟨by omega, by omega⟩
    have e59 : g1 59 = g 59 := hS 59 (by unfold sp_fa; omega)
    refine ref _ g1 (r_voter_y (n := sp_n (g 59)) (by rw [e59]; exact h.n) n2 hi (br_n ne10 (r_rng_y 1 4 rfl rfl rfl hj1 hj2 (by omega) (br_n ne10 (r_rng_y 0 m ey rfl hM (Nat.zero_le y) hy (by omega) (br_n ne10 (r_becomes (k := 11 + 6 * i + j) pl_v6 (by omega) ⟨?_, ?_⟩)))))))
    · rw [e4, e59]
      exact h.C.1.2.1.at j _ _ hi (by omega) rfl (by omega)
    · have D := h.C.wet (v := i) (j := j) (x := x) h.L sv_C7 (by omega) n2 hi
      have e0 : upd (g 59) (11 + 6 * i + j) x 2 = g 59 2 := pk_un (by omega)
      refine iv_end (g2 := sv_st g1 59 (11 + 6 * i + j) x) h hS iv_T7 ((sv_sm.rf (g := g1)).st (Or.inl rfl)) (f' := upd (g 59) (11 + 6 * i + j) x) (by rw [upd_st, e59]) (h.W.wet (k := y) hi (by omega) (by omega) ey) ?_ (pk_un (by omega))
      unfold cr
      rw [e0, e1]; exact D
  have hjj : j = 1 ∨ j = 2 ∨ j = 3 ∨ j = 4 := by omega
  rcases hjj with rfl | rfl | rfl | rfl
  · exact br_y rfl (fin 9 9 rfl (by omega) rfl (fun Q g1 q => br_n (by decide) (br_n (by decide) q)))
  · exact br_n (by decide) (br_y rfl (fin 3 3 rfl (by omega) rfl (fun Q g1 q => br_y rfl q)))
  · exact br_n (by decide) (br_n (by decide) (br_y rfl (fin 99 99 rfl (by omega) rfl (fun Q g1 q => br_n (by decide) (br_y rfl q)))))
  · exact br_n (by decide) (br_n (by decide) (br_n (by decide) (br_y rfl (fin 9 9 rfl (by omega) rfl (fun Q g1 q => br_n (by decide) (br_n (by decide) q))))))
end CA
