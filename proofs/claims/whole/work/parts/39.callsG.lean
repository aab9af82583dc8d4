/-! CALLS THAT THINK AHEAD: won, party -/
section CG
variable {F : sv_Fr} {g : sv_Mg} {a B : Nat} {f : Nat → Int32}
theorem iv_th.put {g' : sv_Mg} {p : Nat} {x : Int32} (h : iv_th g g') (hp : p < 71) : iv_th g (sv_st g' 59 p x) := by
  refine ⟨h.1.st (Or.inr rfl), fun k hk => ?_, fun k hk => ?_⟩
  · rw [st_ne (by omega)]; exact h.2.1 k hk
  · rw [st_nk (by omega)]; exact h.2.2 k hk
def sp_wh (f : Nat → Int32) (n u v : Nat) : Nat := sp_hv (sp_it (upd f (11 + 6 * v + 1) (nI u)) n) (nI u)
def sp_wm (f : Nat → Int32) (n u : Nat) : Nat → Int32
  | 0 => -1
  | k + 1 => if nI (sp_wh f n u k) ≤ sp_wm f n u k then sp_wm f n u k else nI (sp_wh f n u k)
def sp_wb (f : Nat → Int32) (n u : Nat) : Nat → Int32
  | 0 => -1
  | k + 1 => if nI (sp_wh f n u k) ≤ sp_wm f n u k then sp_wb f n u k else nI k
theorem l_won (h : Inv F g) (v w x : Int32) : wp_X6_won F v w x g (fun r g1 => wp_X7_won F v w x g1 (fun r2 g2 => iv_E F r r2 g2)) := by
  have n2 := h.n2
  rcases iv_rng2 v (l := 1) (n := 40) (by omega) (by omega) with hv | ⟨n, hn1, hn2, rfl⟩
  · exact k_in_n hv (br_y rfl (r_in_n hv (br_y rfl ⟨rfl, h⟩)))
  refine k_rng_y 1 40 rfl rfl rfl hn1 hn2 (by omega) (br_n ne10 ?_)
  rcases iv_voter h w with hw | ⟨u, hu, rfl⟩
  · exact k_voter_n h.k8 hw (br_y rfl (r_rng_y 1 40 rfl rfl rfl hn1 hn2 (by omega) (br_n ne10 (r_voter_n h.n n2 hw (br_y rfl ⟨rfl, h⟩)))))
  refine k_voter_y h.k8 n2 hu (br_n ne10 ?_)
  rcases iv_rng x (n := 1) (by omega) with hx | ⟨y, hy, rfl⟩
  · exact k_in_n hx (br_y rfl (r_rng_y 1 40 rfl rfl rfl hn1 hn2 (by omega) (br_n ne10 (r_voter_y h.n n2 hu (br_n ne10 (r_in_n hx (br_y rfl ⟨rfl, h⟩)))))))
  refine k_rng_y 0 1 rfl rfl rfl (Nat.zero_le y) hy (by omega) (br_n ne10 ?_)
  have Wv : ∀ v, v < sp_n (g 59) → sp_W 9999 (upd (g 59) (11 + 6 * v + 1) (nI u)) := fun v hv => h.W.wet (k := u) hv (by omega) (show u < 10 by omega) rfl
  have nv : ∀ v, sp_n (upd (g 59) (11 + 6 * v + 1) (nI u)) = sp_n (g 59) := fun v => sp_n_cg (pk_un (by omega))
  have ref : ∀ g2, sv_sm iv_tp g g2 → wp_X7_won F (nI n) (nI u) (nI y) g2 (fun r2 g3 => iv_E F (if (nI y : Int32) = 0 then sp_wb (g 59) n u (sp_n (g 59)) else sp_wm (g 59) n u (sp_n (g 59))) r2 g3) := by
    intro g2 S2
    have h2 := h.rdd S2
    have e59 := iv_59 S2
    refine r_rng_y 1 40 rfl rfl rfl hn1 hn2 (by omega) (br_n ne10 (r_voter_y (n := sp_n (g 59)) (by rw [e59]; exact h.n) n2 hu (br_n ne10 (r_rng_y 0 1 rfl rfl rfl (Nat.zero_le y) hy (by omega) (br_n ne10 (r_th (fun g3 t3 e3 => ?_)))))))
    have S3 : sv_sm iv_tp g2 g3 := fun k hk => by
      by_cases ek : k = 59
      · subst ek; exact e3
      · exact t3.1 k (fun z => z.elim hk ek)
    have go : ∀ m i g', i ≤ sp_n (g 59) → sp_n (g 59) + 1 ≤ i + m → iv_th g2 g' → sv_sm iv_tp g2 g' → g' 59 = g 59 → wp_X7_won_43 F (fun r2 g3 => iv_E F (if (nI y : Int32) = 0 then sp_wb (g 59) n u (sp_n (g 59)) else sp_wm (g 59) n u (sp_n (g 59))) r2 g3) m (nI n) (nI u) (nI y) (sp_wb (g 59) n u i) (sp_wm (g 59) n u i) (nI i) g' := by
      intro m
      induction m with
      | zero => intro i g' h1 h2; omega
      | succ m ih =>
        intro i g' h1 h2' t S e
        rw [wp_X7_won_43, e]
        by_cases hi : sp_n (g 59) ≤ i
        · have ei : i = sp_n (g 59) := by omega
          refine br_y (by rw [h.n]; exact (pl_le (by omega) (by omega)).mpr hi) ?_
          rw [ei]
          refine ⟨fun c => ⟨by rw [if_pos c], h2.rdd S⟩, fun c => ⟨by rw [if_neg c], h2.rdd S⟩⟩
        · refine br_n (fun z => hi (by rw [h.n] at z; exact (pl_le (by omega) (by omega)).mp z)) ?_
          refine r_put (j := 1) rfl (by omega) (by omega) ?_
          have e1 : (sv_st g' 59 (11 + 6 * i + 1) (nI u)) 59 = upd (g 59) (11 + 6 * i + 1) (nI u) := by rw [upd_st, e]
          refine r_thgo (B := 9999) (t.put (by omega)) rfl (by rw [e1]; exact Wv i (by omega)) (by omega) (fun g5 t5 e5 => ?_)
          rw [e1] at e5
          have W5 : sp_W (9999 + n) (g5 59) := by rw [e5]; exact (Wv i (by omega)).it n
          refine r_has W5.n W5.n2 (r_bk t5 (fun g6 S6 t6 e6 => ?_))
          have eh : sp_hv (g5 59) (nI u) = sp_wh (g 59) n u i := by rw [e5]; rfl
          rw [eh]
          have ih2 := ih (i + 1) g6 (by omega) (by omega) t6 S6 (by rw [e6, e59])
          rw [sp_wb, sp_wm] at ih2
          refine ⟨fun c => br_y c ?_, fun c => br_n c ?_⟩
          · rw [if_pos c, if_pos c] at ih2
            intro v6 e6'
            rw [e6', nI_1]; exact ih2
          · rw [if_neg c, if_neg c] at ih2
            intro v6 e6'
            rw [e6', nI_1]; exact ih2
    exact ⟨_, go (sp_n (g 59) + 1) 0 g3 (Nat.zero_le _) (by omega) t3 S3 (by rw [e3, e59])⟩
  have lt : ∀ v, v < sp_n (g 59) → sp_wh (g 59) n u v ≤ 20 := by
    intro v hv
    refine sp_hv_le _ _ ?_
    rw [sp_it_n (Wv v hv), nv]; exact n2
  have go : ∀ m i g', i ≤ sp_n (g 59) → sp_n (g 59) + 1 ≤ i + m → sv_sm iv_tp g g' → wp_X6_won_42 F (fun r g1 => wp_X7_won F (nI n) (nI u) (nI y) g1 (fun r2 g2 => iv_E F r r2 g2)) m (nI n) (nI u) (nI y) (if i = 0 then 0 else sp_wb (g 59) n u i) (sp_wm (g 59) n u i) (nI i) g' := by
    intro m
    induction m with
    | zero => intro i g' h1 h2; omega
    | succ m ih =>
      intro i g' h1 h2' S
      have h' := h.rdd S
      have e59 := iv_59 S
      have k8 : g' 7 8 = nI (sp_n (g 59)) := by rw [h'.k8, e59]
      rw [wp_X6_won_42]
      by_cases hi : sp_n (g 59) ≤ i
      · have ei : i = sp_n (g 59) := by omega
        refine br_y (by rw [k8]; exact (pl_le (by omega) (by omega)).mpr hi) ?_
        rw [if_neg (by omega), ei]
        have r := ref g' S
        refine ⟨fun c => ?_, fun c => ?_⟩
        · rw [if_pos c] at r; exact r
        · rw [if_neg c] at r; exact r
      · refine br_n (fun z => hi (by rw [k8] at z; exact (pl_le (by omega) (by omega)).mp z)) ?_
        refine k_th h' (fun g4 S4 C4 => ⟨pl_in (by omega) (by omega), ?_⟩)
        rw [pl_clamp (by omega), pl_clamp (by omega)]
        intro g6 e6
        rw [e59] at C4
        have C6 : cr F g6 23 (upd (g 59) (11 + 6 * i + 1) (nI u)) := by
          have := C4.wet (v := i) (j := 1) (x := nI u) h.L sv_C23 (by omega) n2 (by omega)
          unfold cr
          rw [pk_un (by omega), e6]; exact this
        have S6 : sv_sm iv_tp g g6 := by rw [e6]; exact (S.tr S4).st (by unfold iv_tp; omega)
        refine k_go rfl h.L sv_C23 C6 (Wv i (by omega)) (by omega) (fun g7 S7 C7 => ⟨pl_in (by omega) (by omega), ?_⟩)
        have e30 : g7 30 u = nI (sp_wh (g 59) n u i) := C7.1.2.2.1 u (by omega)
        rw [e30]
        have ih2 := ih (i + 1) g7 (by omega) (by omega) (S6.tr (iv_tp23 S7))
        rw [if_neg (by omega), sp_wb, sp_wm] at ih2
        have l := lt i (by omega)
        refine ⟨fun c => ?_, fun c => ⟨pl_in (by omega) (by omega), ?_⟩⟩
        · have hi0 : i ≠ 0 := by
            intro z
            subst z
            have c : nI (sp_wh (g 59) n u 0) ≤ -1 := c
            have h3 : (-1 : Int32) < 0 := by decide
            exact pl_nn (a := sp_wh (g 59) n u 0) (by omega) (Int32.lt_of_le_of_lt c h3)
          rw [if_pos c, if_pos c] at ih2
          rw [if_neg hi0]
          intro v6 e6'
          rw [e6', nI_1]; exact ih2
        · rw [if_neg c, if_neg c] at ih2
          intro v5 e5 v6 e6'
          rw [e5, e6', nI_1]; exact ih2
  exact ⟨_, go (sp_n (g 59) + 1) 0 g (Nat.zero_le _) (by omega) sv_sm.rf⟩
def sp_pf (f : Nat → Int32) (n p : Nat) : Nat → Int32 := sp_it (sp_cv f (nI p) (sp_n f)) n
def sp_pq (f : Nat → Int32) (n p : Nat) : Bool := decide (¬ sp_pf f n p 7 < 0 ∧ sp_pf f n p (13 + 6 * (sp_pf f n p 7).toNatClampNeg) = nI p)
def sp_pa (f : Nat → Int32) (n : Nat) : Nat → Nat → Int32
  | 0, _ => -1000000005
  | m + 1, p => if sp_pq f n p = true then nI p else sp_pa f n m (p + 1)
theorem l_party (h : Inv F g) (v : Int32) : wp_X6_party F v g (fun r g1 => wp_X7_party F v g1 (fun r2 g2 => iv_E F r r2 g2)) := by
  have n2 := h.n2
  rcases iv_rng2 v (l := 1) (n := 40) (by omega) (by omega) with hv | ⟨n, hn1, hn2, rfl⟩
  · exact k_in_n hv (br_y rfl (r_in_n hv (br_y rfl ⟨rfl, h⟩)))
  refine k_rng_y 1 40 rfl rfl rfl hn1 hn2 (by omega) (br_n ne10 ?_)
  have Wp : ∀ p k, k ≤ sp_n (g 59) → sp_W 9999 (sp_cv (g 59) (nI p) k) := fun p k hk => h.W.cv hk
  have Wq : ∀ p, sp_W (9999 + n) (sp_pf (g 59) n p) := fun p => (Wp p _ (Nat.le_refl _)).it n
  have nq : ∀ p, sp_n (sp_pf (g 59) n p) = sp_n (g 59) := fun p => (sp_it_n (Wp p _ (Nat.le_refl _)) n).trans sp_cv_n
  have ref : ∀ g2, sv_sm iv_tp g g2 → wp_X7_party F (nI n) g2 (fun r2 g3 => iv_E F (sp_pa (g 59) n 4 0) r2 g3) := by
    intro g2 S2
    have h2 := h.rdd S2
    have e59 := iv_59 S2
    refine r_rng_y 1 40 rfl rfl rfl hn1 hn2 (by omega) (br_n ne10 (r_th (fun g3 t3 e3 => ?_)))
    have S3 : sv_sm iv_tp g2 g3 := fun k hk => by
      by_cases ek : k = 59
      · subst ek; exact e3
      · exact t3.1 k (fun z => z.elim hk ek)
    -- one more turn of the loop only says what was found
    have stop : ∀ m p q g', q ≤ 4 → p < 4 → sv_sm iv_tp g2 g' → sp_pa (g 59) n 4 0 = nI p → wp_X7_party_21 F (fun r2 g3 => iv_E F (sp_pa (g 59) n 4 0) r2 g3) (m + 1) (nI n) (nI p) (nI q) g' := by
      intro m p q g' hq hp S es
      rw [wp_X7_party_21, pl_lit 4]
      have fin : wp_X7_told0 F (nI p) g' (fun r g3 => iv_E F (sp_pa (g 59) n 4 0) r g3) := br_y (pl_nn' (by omega)) ⟨es, h2.rdd S⟩
      by_cases c : 4 ≤ q
      · exact br_y ((pl_le (by omega) (by omega)).mpr c) fin
      · exact br_n (fun z => c ((pl_le (by omega) (by omega)).mp z)) (br_y (pl_nn' (by omega)) fin)
    have go : ∀ m p g', p + m = 4 → iv_th g2 g' → sv_sm iv_tp g2 g' → g' 59 = g 59 → sp_pa (g 59) n m p = sp_pa (g 59) n 4 0 → wp_X7_party_21 F (fun r2 g3 => iv_E F (sp_pa (g 59) n 4 0) r2 g3) (m + 1) (nI n) (-1) (nI p) g' := by
      intro m
      induction m with
      | zero =>
        intro p g' hp t S e es
        rw [wp_X7_party_21]
        have : p = 4 := by omega
        subst this
        refine br_y (by decide) (br_n (by decide) ⟨?_, h2.rdd S⟩)
        rw [← es]; rfl
      | succ m ih =>
        intro p g' hp t S e es
        rw [wp_X7_party_21, pl_lit 4]
        refine br_n (fun z => absurd ((pl_le (by omega) (by omega)).mp z) (by omega)) (br_n (by decide) ?_)
        have inn : ∀ m' k g'', k ≤ sp_n (g 59) → sp_n (g 59) + 1 ≤ k + m' → iv_th g2 g'' → g'' 59 = sp_cv (g 59) (nI p) k → wp_X7_party_33 F (fun r2 g3 => iv_E F (sp_pa (g 59) n 4 0) r2 g3) (wp_X7_party_21 F (fun r2 g3 => iv_E F (sp_pa (g 59) n 4 0) r2 g3) (m + 1)) m' (nI n) (nI p) (nI k) g'' := by
          intro m'
          induction m' with
          | zero => intro k g'' h1 h2; omega
          | succ m' ih' =>
            intro k g'' h1 h2' t'' e''
            rw [wp_X7_party_33, e'', sp_cv_ne (r := 1) (fun j _ => by omega)]
            by_cases hk : sp_n (g 59) ≤ k
            · have ek : k = sp_n (g 59) := by omega
              refine br_y (by rw [h.n]; exact (pl_le (by omega) (by omega)).mpr hk) ?_
              refine r_thgo (B := 9999) t'' rfl (by rw [e'']; exact Wp p k h1) (by omega) (fun g5 t5 e5 => ?_)
              have e5 : g5 59 = sp_pf (g 59) n p := by rw [e5, e'', ek]; rfl
              rw [e5]
              have no : ¬ sp_pq (g 59) n p = true → wp_X7_party_115 F (fun r2 g3 => iv_E F (sp_pa (g 59) n 4 0) r2 g3) (wp_X7_party_21 F (fun r2 g3 => iv_E F (sp_pa (g 59) n 4 0) r2 g3) (m + 1)) (nI n) (nI p) g5 := by
                intro c
                refine r_bk t5 (fun g6 S6 t6 e6 => ?_)
                intro v3 e3'
                rw [e3', nI_1]
                refine ih (p + 1) g6 (by omega) t6 S6 (by rw [e6, e59]) ?_
                rw [← es, sp_pa, if_neg c]
              rcases (show sp_v1n (sp_n (sp_pf (g 59) n p)) (sp_pf (g 59) n p 7) from (Wq p).1.2.2.2.2.1) with c7 | ⟨c, hc, c7⟩
              · rw [c7]
                refine br_y (by decide) (no (fun z => ?_))
                have := (of_decide_eq_true z).1
                rw [c7] at this
                exact this (by decide)
              · rw [nq] at hc
                rw [c7]
                refine br_n (pl_nn (by omega)) (r_of (j := 2) rfl (by omega) (by omega) ?_)
                rw [e5, show 11 + 6 * c + 2 = 13 + 6 * c by omega]
                have iff : sp_pq (g 59) n p = true ↔ sp_pf (g 59) n p (13 + 6 * c) = nI p := by
                  unfold sp_pq
                  rw [c7, pl_clamp (by omega), decide_eq_true_iff]
                  exact ⟨fun z => z.2, fun z => ⟨pl_nn (by omega), z⟩⟩
                refine ⟨fun cc => r_bk t5 (fun g6 S6 t6 e6 => ?_), fun cc => no (fun z => cc (iff.mp z))⟩
                intro v3 e3'
                rw [e3', nI_1]
                refine stop m p (p + 1) g6 (by omega) (by omega) S6 ?_
                rw [← es, sp_pa, if_pos (iff.mpr cc)]
            · refine br_n (fun z => hk (by rw [h.n] at z; exact (pl_le (by omega) (by omega)).mp z)) (r_of (j := 2) rfl (by omega) (by omega) ?_)
              rw [e'', show 11 + 6 * k + 2 = 13 + 6 * k by omega, sp_cv_ne (r := 13 + 6 * k) (fun j _ => by omega)]
              have fin : ∀ x, x = (if g 59 (13 + 6 * k) = nI p then 99 else g 59 (14 + 6 * k)) → wp_X7_party_71 F (fun r2 g3 => iv_E F (sp_pa (g 59) n 4 0) r2 g3) (wp_X7_party_21 F (fun r2 g3 => iv_E F (sp_pa (g 59) n 4 0) r2 g3) (m + 1)) (wp_X7_party_33 F (fun r2 g3 => iv_E F (sp_pa (g 59) n 4 0) r2 g3) (wp_X7_party_21 F (fun r2 g3 => iv_E F (sp_pa (g 59) n 4 0) r2 g3) (m + 1)) m') (nI n) (nI p) (nI k) x 3 (nI k) g'' := by
                intro x ex
                refine r_put (j := 3) rfl (by omega) (by omega) ?_
                intro v4 e4
                rw [e4, nI_1]
                refine ih' (k + 1) _ (by omega) (by omega) (t''.put (by omega)) ?_
                rw [upd_st, e'', ex, show 11 + 6 * k + 3 = 14 + 6 * k by omega]
                rfl
              refine ⟨fun c => fin 99 (by rw [if_pos c]), fun c => r_of (j := 3) rfl (by omega) (by omega) (fin _ ?_)⟩
              rw [if_neg c, e'', show 11 + 6 * k + 3 = 14 + 6 * k by omega, sp_cv_ne (fun j _ => by omega)]
        exact ⟨_, inn (sp_n (g 59) + 1) 0 g' (Nat.zero_le _) (by omega) t e⟩
    exact ⟨_, go 4 0 g3 (by omega) t3 S3 (by rw [e3, e59]) rfl⟩
  have go : ∀ m p g', p + m = 4 → sv_sm iv_tp g g' → sp_pa (g 59) n m p = sp_pa (g 59) n 4 0 → wp_X6_party_15 F (fun r g1 => wp_X7_party F (nI n) g1 (fun r2 g2 => iv_E F r r2 g2)) (m + 1) (nI n) (nI p) g' := by
    intro m
    induction m with
    | zero =>
      intro p g' hp S es
      rw [wp_X6_party_15]
      have : p = 4 := by omega
      subst this
      refine br_y (by decide) ?_
      have r := ref g' S
      rw [← es] at r
      exact r
    | succ m ih =>
      intro p g' hp S es
      have h' := h.rdd S
      have e59 := iv_59 S
      rw [wp_X6_party_15, pl_lit 4]
      refine br_n (fun z => absurd ((pl_le (by omega) (by omega)).mp z) (by omega)) ?_
      refine k_th h' (fun g4 S4 C4 => ?_)
      rw [e59] at C4
      refine k_convince h.L sv_C23 C4 h.W (fun g5 S5 C5 => k_go rfl h.L sv_C23 C5 (Wp p _ (Nat.le_refl _)) (by omega) (fun g6 S6 C6 => ?_))
      have C6 : cr F g6 23 (sp_pf (g 59) n p) := C6
      have S7 : sv_sm iv_tp g g6 := ((S.tr S4).tr (iv_tpa S5)).tr (iv_tp23 S6)
      have k8 : g6 23 8 = nI (sp_n (g 59)) := by rw [C6.1.n (Wq p), nq]
      rw [C6.1.1.2.2.2.2.2.1]
      have no : ¬ sp_pq (g 59) n p = true → wp_X6_party_85 F (fun r g1 => wp_X7_party F (nI n) g1 (fun r2 g2 => iv_E F r r2 g2)) (wp_X6_party_15 F (fun r g1 => wp_X7_party F (nI n) g1 (fun r2 g2 => iv_E F r r2 g2)) (m + 1)) (nI n) (nI p) g6 := by
        intro c
        intro v2 e2
        rw [e2, nI_1]
        refine ih (p + 1) g6 (by omega) S7 ?_
        rw [← es, sp_pa, if_neg c]
      rcases (show sp_v1n (sp_n (sp_pf (g 59) n p)) (sp_pf (g 59) n p 7) from (Wq p).1.2.2.2.2.1) with c7 | ⟨c, hc, c7⟩
      · rw [c7]
        refine k_voter_n k8 (Or.inl (by decide)) (br_y rfl (no (fun z => ?_)))
        have := (of_decide_eq_true z).1
        rw [c7] at this
        exact this (by decide)
      · rw [nq] at hc
        have e13 : g6 23 13 = nI c := by rw [C6.1.1.2.2.2.2.2.1]; exact c7
        rw [c7]
        refine k_voter_y k8 n2 hc (br_n ne10 ?_)
        rw [e13, pl_clamp (by omega)]
        have e26 : g6 26 c = sp_pf (g 59) n p (13 + 6 * c) := C6.1.2.1.at 2 _ _ (by rw [nq]; exact hc) (by omega) (by omega) (by omega)
        rw [e26]
        have iff : sp_pq (g 59) n p = true ↔ sp_pf (g 59) n p (13 + 6 * c) = nI p := by
          unfold sp_pq
          rw [c7, pl_clamp (by omega), decide_eq_true_iff]
          exact ⟨fun z => z.2, fun z => ⟨pl_nn (by omega), z⟩⟩
        refine ⟨pl_in (by omega) (by omega), fun cc => ?_, fun cc => no (fun z => cc (iff.mp z))⟩
        have r := ref g6 S7
        rw [← es, sp_pa, if_pos (iff.mpr cc)] at r
        exact r
  exact ⟨_, go 4 0 g (by omega) sv_sm.rf rfl⟩
end CG
