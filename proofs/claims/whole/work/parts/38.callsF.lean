/-! CALLS THAT THINK AHEAD: behind, ends, won, party, smokes -/
section CF
variable {F : sv_Fr} {g : sv_Mg} {a B : Nat} {f : Nat → Int32}
theorem iv_tp23 {g' : sv_Mg} (h : sv_sm (sp_fr 23) g g') : sv_sm iv_tp g g' := h.mono (fun k z => by unfold sp_fr at z; unfold iv_tp; omega)
theorem iv_tpa {g' : sv_Mg} (h : sv_sm (sp_fa 23) g g') : sv_sm iv_tp g g' := h.mono (fun k z => by unfold sp_fa at z; unfold iv_tp; omega)
theorem k_th {Q : sv_Mg → Prop} (h : Inv F g) (q : ∀ g', sv_sm iv_tp g g' → cr F g' 23 (g 59) → Q g') : wp_X0_become F 23 7 g Q :=
  k_become h.L sv_C23 sv_C7 (by omega) h.C h.W (fun g' h1 h2 => q g' (iv_tpa h1) h2)
/-- the reference is thinking: g before, g' now -/
def iv_th (g g' : sv_Mg) : Prop := sv_sm (fun k => iv_tp k ∨ k = 59) g g' ∧ (∀ k, k < 71 → g' 64 k = g 59 k) ∧ ∀ k, 71 ≤ k → g' 59 k = g 59 k
theorem r_th {Q : sv_Mg → Prop} (q : ∀ g', iv_th g g' → g' 59 = g 59 → Q g') : wp_X7_thinks F g Q := by
  refine r_thinks (fun g' h1 h2 => ?_)
  have e59 : g' 59 = g 59 := h1 59 (by omega)
  refine q g' ⟨h1.mono (fun k z => Or.inl (by unfold iv_tp; omega)), h2, fun k _ => by rw [e59]⟩ e59
theorem r_bk {g' : sv_Mg} {Q : sv_Mg → Prop} (h : iv_th g g') (q : ∀ g'', sv_sm iv_tp g g'' → iv_th g g'' → g'' 59 = g 59 → Q g'') : wp_X7_putsBack F g' Q := by
  refine r_putsBack (fun g2 h1 h2 h3 => ?_)
  have e59 : g2 59 = g 59 := by
    funext k
    by_cases hk : k < 71
    · rw [h2 k hk]; exact h.2.1 k hk
    · rw [h3 k (by omega)]; exact h.2.2 k (by omega)
  have e64 : g2 64 = g' 64 := h1 64 (by omega)
  refine q g2 (fun k hk => ?_) ⟨h.1.tr (h1.mono (fun k z => Or.inr z)), fun k hk => ?_, fun k _ => by rw [e59]⟩ e59
  · by_cases ek : k = 59
    · subst ek; exact e59
    · rw [h1 k ek]; exact h.1 k (fun z => z.elim hk ek)
  · rw [e64]; exact h.2.1 k hk
theorem iv_th.go {g' g'' : sv_Mg} (h : iv_th g g') (hS : sv_sm sp_t4 g' g'') (h71 : ∀ k, 71 ≤ k → g'' 59 k = g' 59 k) : iv_th g g'' := by
  refine ⟨h.1.tr (hS.mono (fun k z => by unfold sp_t4 at z; unfold iv_tp; omega)), fun k hk => ?_, fun k hk => ?_⟩
  · rw [hS 64 (by unfold sp_t4; omega)]; exact h.2.1 k hk
  · rw [h71 k hk]; exact h.2.2 k hk
theorem r_thgo {g' : sv_Mg} {n : Nat} {w : Int32} {Q : sv_Mg → Prop} (h : iv_th g g') (hwn : w = nI n) (hw : sp_W B (g' 59)) (hB : B + n < 90000) (q : ∀ g'', iv_th g g'' → g'' 59 = sp_it (g' 59) n → Q g'') : wp_X7_goesOn F w g' Q :=
  r_go hwn hw hB (fun g'' h1 h2 => q g'' (h.go h1 (fun k hk => by rw [h2]; exact sp_it_71 hw hk n)) h2)
theorem r_thround {g' : sv_Mg} {Q : sv_Mg → Prop} (h : iv_th g g') (hw : sp_W B (g' 59)) (q : ∀ g'', iv_th g g'' → g'' 59 = sp_round (g' 59) → Q g'') : wp_X7_round F g' Q :=
  r_round hw.rd (fun g'' h1 h2 => q g'' (h.go h1 (fun k hk => by rw [h2]; exact sp_round_71 hw hk)) h2)
theorem l_behind (h : Inv F g) (v w : Int32) : wp_X6_behind F v w g (fun r g1 => wp_X7_behind F v w g1 (fun r2 g2 => iv_E F r r2 g2)) := by
  have n2 := h.n2
  have k8 := h.k8
  -- n out of range, or what is not known: both say bad
  have bad31 : (∀ Q : Int32 → sv_Mg → Prop, Q (-1000000001) g → wp_X7_behind F v w g Q) → wp_X6_behind_31 F (fun r g1 => wp_X7_behind F v w g1 (fun r2 g2 => iv_E F r r2 g2)) v w g := by
    intro ref
    unfold wp_X6_behind_31 wp_X6_behind_32
    refine k_in (fun _ => br_n ne10 (br_y rfl (ref _ ⟨rfl, h⟩))) (fun _ => br_y rfl (ref _ ⟨rfl, h⟩))
  have refbad : (w < 0 ∨ (¬ w ≤ 2 ∧ (w - 3 < 0 ∨ nI (sp_n (g 59)) ≤ w - 3))) → ∀ Q : Int32 → sv_Mg → Prop, Q (-1000000001) g → wp_X7_behind F v w g Q := by
    intro c Q q
    rcases pl_in_iff v 0 100 with z | z
    · refine r_in_y z.1 z.2 (br_n ne10 ?_)
      by_cases c0 : w < 0
      · exact br_y c0 q
      · refine br_n c0 ?_
        rcases c with c | ⟨c1, c2⟩
        · exact absurd c c0
        · exact br_n c1 (r_voter_n h.n n2 c2 (br_y rfl q))
    · exact r_in_n z (br_y rfl q)
  by_cases c0 : w < 0
  · exact k_in_n (Or.inl c0) (br_y rfl (br_y (Int32.lt_of_lt_of_le c0 (by decide)) (bad31 (refbad (Or.inl c0)))))
  obtain ⟨j, hj, rfl⟩ := nI_of c0
  have main : j ≤ 2 ∨ (3 ≤ j ∧ j - 3 < sp_n (g 59)) → wp_X6_behind_27 F (fun r g1 => wp_X7_behind F v (nI j) g1 (fun r2 g2 => iv_E F r r2 g2)) v (nI j) g := by
    intro hk
    unfold wp_X6_behind_27 wp_X6_behind_32
    rcases iv_rng v (n := 100) (by omega) with hv | ⟨n, hn, rfl⟩
    · exact k_in_n hv (br_y rfl (r_in_n hv (br_y rfl ⟨rfl, h⟩)))
    refine k_rng_y 0 100 rfl rfl rfl (Nat.zero_le n) hn (by omega) (br_n ne10 (br_n ne10 ?_))
    refine k_th h (fun g1 S1 C1 => k_go rfl h.L sv_C23 C1 h.W (by omega) (fun g2 S2 C2 => ?_))
    have W2 := h.W.it n
    have S12 := S1.tr (iv_tp23 S2)
    have h2 := h.rdd S12
    have e59 := iv_59 S12
    have en := sp_it_n h.W n
    have ref : ∀ Q : Int32 → sv_Mg → Prop, (∀ g', iv_th g2 g' → g' 59 = sp_it (g 59) n → ((nI j = (0 : Int32) → ∀ v3_14 : Int32, v3_14 = (g' 59 7) → wp_X7_putsBack F g' (fun g_15 => Q v3_14 g_15)) ∧ (¬ nI j = (0 : Int32) → ((nI j = (1 : Int32) → wp_X7_mostHad F g' (fun r_12 g_11 => wp_X7_putsBack F g_11 (fun g_13 => Q r_12 g_13))) ∧ (¬ nI j = (1 : Int32) → ((nI j = (2 : Int32) → ∀ v3_9 : Int32, v3_9 = (g' 59 8) → wp_X7_putsBack F g' (fun g_10 => Q v3_9 g_10)) ∧ (¬ nI j = (2 : Int32) → wp_X7_of F (nI j - 3) 5 g' (fun r_7 g_6 => wp_X7_putsBack F g_6 (fun g_8 => Q r_7 g_8))))))))) → wp_X7_behind F (nI n) (nI j) g2 Q := by
      intro Q q
      refine r_rng_y 0 100 rfl rfl rfl (Nat.zero_le n) hn (by omega) (br_n ne10 (br_n (nI_pos hj) ?_))
      have run : wp_X7_behind_32 F Q (nI n) (nI j) g2 := r_th (fun g3 t3 e3 => r_thgo (B := 9999) t3 rfl (by rw [e3, e59]; exact h.W) (by omega) (fun g4 t4 e4 => q g4 t4 (by rw [e4, e3, e59])))
      rcases hk with hk | ⟨hk1, hk2⟩
      · exact br_y ((nI_leI (b := 2) (by omega) (by omega)).mpr hk) run
      · refine br_n (fun z => absurd ((nI_leI (b := 2) (by omega) (by omega)).mp z) (by omega)) ?_
        rw [pl_lit 3, pk_sub hk1]
        exact r_voter_y (n := sp_n (g 59)) (by rw [e59]; exact h.n) n2 hk2 (br_n ne10 run)
    have fin : ∀ {r : Int32} {g' : sv_Mg}, iv_th g2 g' → wp_X7_putsBack F g' (fun g_15 => iv_E F r r g_15) := fun t => r_bk t (fun g5 S5 _ _ => ⟨rfl, h2.rdd S5⟩)
    by_cases e0 : j = 0
    · subst e0
      refine br_y rfl (ref _ (fun g' t e => br_y rfl (fun v3 e3 => ?_)))
      rw [e3, e, C2.1.1.2.2.2.2.2.1]; exact fin t
    refine br_n (fun z => e0 ((nI_eq (b := 0) (by omega) (by omega)).mp z)) ?_
    by_cases e1 : j = 1
    · subst e1
      refine br_y rfl (k_top C2.1 W2 (ref _ (fun g' t e => br_n (by decide) (br_y rfl ?_))))
      have W' : sp_W (9999 + n) (g' 59) := by rw [e]; exact W2
      refine r_mostHad W'.n W'.n2 ?_
      rw [e]; exact fin t
    refine br_n (fun z => e1 ((nI_eq (b := 1) (by omega) (by omega)).mp z)) ?_
    by_cases e2 : j = 2
    · subst e2
      refine br_y rfl (ref _ (fun g' t e => br_n (by decide) (br_n (by decide) (br_y rfl (fun v3 e3 => ?_)))))
      rw [e3, e, C2.1.1.2.2.2.2.2.2.2.2.1]; exact fin t
    have hk' : 3 ≤ j ∧ j - 3 < sp_n (g 59) := by omega
    refine br_n (fun z => e2 ((nI_eq (b := 2) (by omega) (by omega)).mp z)) ?_
    rw [pl_lit 3, pk_sub hk'.1] at ref ⊢
    refine ⟨pl_in (by omega) (by omega), ?_⟩
    rw [pl_clamp (by omega)]
    refine ref _ (fun g' t e => br_n (fun z => e0 ((nI_eq (b := 0) (by omega) (by omega)).mp z)) (br_n (fun z => e1 ((nI_eq (b := 1) (by omega) (by omega)).mp z)) (br_n (fun z => e2 ((nI_eq (b := 2) (by omega) (by omega)).mp z)) (r_of (j := 5) rfl (by omega) (by omega) ?_))))
    have e6 : g2 29 (j - 3) = g' 59 (11 + 6 * (j - 3) + 5) := by
      rw [e, show 11 + 6 * (j - 3) + 5 = 16 + 6 * (j - 3) by omega]
      exact C2.2.1 (j - 3) (by rw [en]; exact hk'.2)
    rw [e6]
    exact fin t
  by_cases c2 : j ≤ 2
  · exact k_in_y (nI_pos hj) (fun z => absurd ((nI_ltI (a := 2) (by omega) (by omega)).mp z) (by omega)) (br_n ne10 (main (Or.inl c2)))
  · refine k_in_n (Or.inr ((nI_ltI (a := 2) (by omega) (by omega)).mpr (by omega))) (br_y rfl (br_n (fun z => absurd ((nI_ltI (b := 3) (by omega) (by omega)).mp z) (by omega)) ?_))
    have e3 : (nI j - 3 : Int32) = nI (j - 3) := by rw [pl_lit 3, pk_sub (by omega)]
    rw [e3]
    by_cases c3 : j - 3 < sp_n (g 59)
    · exact k_voter_y k8 n2 c3 (br_n ne10 (main (Or.inr ⟨by omega, c3⟩)))
    · have hv : nI (j - 3) < 0 ∨ nI (sp_n (g 59)) ≤ nI (j - 3) := Or.inr ((nI_leI (by omega) (by omega)).mpr (by omega))
      refine k_voter_n k8 hv (br_y rfl (bad31 (refbad (Or.inr ⟨fun z => absurd ((nI_leI (b := 2) (by omega) (by omega)).mp z) (by omega), ?_⟩))))
      rw [e3]; exact hv
def sp_en (f : Nat → Int32) : Nat → Nat → Int32
  | 0, _ => -1000000005
  | m + 1, n => if sp_it f n 7 = -1 then sp_en f m (n + 1) else nI n
theorem l_ends (h : Inv F g) : wp_X6_ends F g (fun r g1 => wp_X7_ends F g1 (fun r2 g2 => iv_E F r r2 g2)) := by
  have n2 := h.n2
  refine k_th h (fun g1 S1 C1 => ?_)
  have ref : ∀ g2, sv_sm iv_tp g g2 → wp_X7_ends F g2 (fun r2 g3 => iv_E F (sp_en (g 59) 101 0) r2 g3) := by
    intro g2 S2
    have h2 := h.rdd S2
    have e59 := iv_59 S2
    refine r_th (fun g3 t3 e3 => ?_)
    have go : ∀ m n g', n + m = 101 → iv_th g2 g' → g' 59 = sp_it (g 59) n → sp_en (g 59) m n = sp_en (g 59) 101 0 → wp_X7_ends_6 F (fun r2 g3 => iv_E F (sp_en (g 59) 101 0) r2 g3) (m + 1) (nI n) g' := by
      intro m
      induction m with
      | zero =>
        intro n g' hn t e es
        rw [wp_X7_ends_6]
        have : n = 101 := by omega
        subst this
        refine br_y (by decide) (r_bk t (fun g5 S5 _ _ => br_n (by decide) ⟨?_, h2.rdd S5⟩))
        rw [← es]; rfl
      | succ m ih =>
        intro n g' hn t e es
        rw [wp_X7_ends_6, pl_lit 100]
        have W := h.W.it n
        refine br_n (fun z => absurd ((pl_lt (by omega) (by omega)).mp z) (by omega)) ?_
        rw [e]
        rcases (show sp_v1n (sp_n (sp_it (g 59) n)) (sp_it (g 59) n 7) from W.1.2.2.2.2.1).ge W.n2 with ⟨c1, c2, c3⟩ | ⟨c1, c2, c3⟩
        · refine br_n c3 (r_thround (B := 9999 + n) t (by rw [e]; exact W) (fun g5 t5 e5 => ?_))
          intro v1 ev
          rw [ev, nI_1]
          refine ih (n + 1) g5 (by omega) t5 (by rw [e5, e]; rfl) ?_
          rw [← es, sp_en, if_pos c1]
        · refine br_y c3 (r_bk t (fun g5 S5 _ _ => br_y ?_ ⟨?_, h2.rdd S5⟩))
          · exact (pl_le (b := 100) (by omega) (by omega)).mpr (by omega)
          · rw [← es, sp_en, if_neg c1]
    exact ⟨_, go 101 0 g3 (by omega) t3 (by rw [e3, e59]; rfl) rfl⟩
  have go : ∀ m n g', n + m = 101 → sv_sm iv_tp g g' → cr F g' 23 (sp_it (g 59) n) → sp_en (g 59) m n = sp_en (g 59) 101 0 → wp_X6_ends_13 F (fun r g1 => wp_X7_ends F g1 (fun r2 g2 => iv_E F r r2 g2)) (m + 1) (nI n) g' := by
    intro m
    induction m with
    | zero =>
      intro n g' hn S C es
      rw [wp_X6_ends_13]
      have : n = 101 := by omega
      subst this
      refine br_y (by decide) ?_
      have := ref g' S
      rw [← es] at this
      exact this
    | succ m ih =>
      intro n g' hn S C es
      rw [wp_X6_ends_13, pl_lit 100]
      have W := h.W.it n
      refine br_n (fun z => absurd ((pl_lt (by omega) (by omega)).mp z) (by omega)) ?_
      rw [C.1.1.2.2.2.2.2.1]
      refine ⟨fun c1 => k_round h.L sv_C23 C W (by omega) (fun g5 S5 C5 => ?_), fun c1 => ?_⟩
      · intro v1 ev
        rw [ev, nI_1]
        refine ih (n + 1) g5 (by omega) (S.tr (iv_tp23 S5)) C5 ?_
        rw [← es, sp_en, if_pos c1]
      · have := ref g' S
        rw [← es, sp_en, if_neg c1] at this
        exact this
  exact ⟨_, go 101 0 g1 (by omega) S1 C1 rfl⟩
def sp_sr (f : Nat → Int32) : Nat → Int32
  | 0 => 0
  | k + 1 => 4 * sp_sr f k + sp_it f (k + 1) 8
theorem l_smokes (h : Inv F g) (v : Int32) : wp_X6_smokes F v g (fun r g1 => wp_X7_smokes F v g1 (fun r2 g2 => iv_E F r r2 g2)) := by
  rcases iv_rng2 v (l := 1) (n := 12) (by omega) (by omega) with hv | ⟨n, hn1, hn2, rfl⟩
  · exact k_in_n hv (br_y rfl (r_in_n hv (br_y rfl ⟨rfl, h⟩)))
  refine k_rng_y 1 12 rfl rfl rfl hn1 hn2 (by omega) (br_n ne10 (k_th h (fun g1 S1 C1 => ?_)))
  have ref : ∀ g2, sv_sm iv_tp g g2 → wp_X7_smokes F (nI n) g2 (fun r2 g3 => iv_E F (sp_sr (g 59) n) r2 g3) := by
    intro g2 S2
    have h2 := h.rdd S2
    have e59 := iv_59 S2
    refine r_rng_y 1 12 rfl rfl rfl hn1 hn2 (by omega) (br_n ne10 (r_th (fun g3 t3 e3 => ?_)))
    have go : ∀ m i g', i ≤ n → n + 1 ≤ i + m → iv_th g2 g' → g' 59 = sp_it (g 59) i → wp_X7_smokes_21 F (fun r2 g3 => iv_E F (sp_sr (g 59) n) r2 g3) m (nI n) (sp_sr (g 59) i) (nI i) g' := by
      intro m
      induction m with
      | zero => intro i g' h1 h2; omega
      | succ m ih =>
        intro i g' h1 h2' t e
        rw [wp_X7_smokes_21]
        by_cases hi : n ≤ i
        · have ei : i = n := by omega
          refine br_y ((pl_le (by omega) (by omega)).mpr hi) (r_bk t (fun g5 S5 _ _ => ⟨?_, h2.rdd S5⟩))
          rw [ei]
        · refine br_n (fun z => hi ((pl_le (by omega) (by omega)).mp z)) (r_thround (B := 9999 + i) t (by rw [e]; exact h.W.it i) (fun g5 t5 e5 => ?_))
          intro v2 e2 v3 e3'
          have e5' : g5 59 = sp_it (g 59) (i + 1) := by rw [e5, e]; rfl
          rw [e2, e3', nI_1, e5']
          exact ih (i + 1) g5 (by omega) (by omega) t5 e5'
    exact ⟨_, go (n + 1) 0 g3 (by omega) (by omega) t3 (by rw [e3, e59]; rfl)⟩
  have go : ∀ m i g', i ≤ n → n + 1 ≤ i + m → sv_sm iv_tp g g' → cr F g' 23 (sp_it (g 59) i) → wp_X6_smokes_28 F (fun r g1 => wp_X7_smokes F (nI n) g1 (fun r2 g2 => iv_E F r r2 g2)) m (nI n) (sp_sr (g 59) i) (nI i) g' := by
    intro m
    induction m with
    | zero => intro i g' h1 h2; omega
    | succ m ih =>
      intro i g' h1 h2' S C
      rw [wp_X6_smokes_28]
      by_cases hi : n ≤ i
      · have ei : i = n := by omega
        refine br_y ((pl_le (by omega) (by omega)).mpr hi) ?_
        rw [ei]; exact ref g' S
      · refine br_n (fun z => hi ((pl_le (by omega) (by omega)).mp z)) (k_round h.L sv_C23 C (h.W.it i) (by omega) (fun g5 S5 C5 => ?_))
        intro v2 e2 v3 e3'
        have e5' : g5 23 17 = sp_it (g 59) (i + 1) 8 := C5.1.1.2.2.2.2.2.2.2.2.1
        rw [e2, e3', nI_1, e5', Int32.mul_comm]
        exact ih (i + 1) g5 (by omega) (by omega) (S.tr (iv_tp23 S5)) C5
  exact ⟨_, go (n + 1) 0 g1 (by omega) (by omega) S1 C1⟩
end CF
