/-! SLOTS: lay -/
section CM
variable {F : sv_Fr} {g g' : sv_Mg} {a B : Nat} {f : Nat → Int32}
/-- the reference lays: what it holds, and the two numbers -/
theorem r_lay {i t s : Nat} {x0 x y z v4 : Int32} {Q : Int32 → sv_Mg → Prop} (hi : i ≤ 4) (ht : t ≤ 3) (hz : t = 2 → z = nI s ∧ s ≤ 3) (hx : (t = 1 → ∀ g1, g1 = sv_st g 76 i (nI t) → ∀ Q', Q' x0 g1 → wp_X7_of F z 0 g1 Q') ∧ (t = 1 → x = x0) ∧ (t = 2 → x = g 74 s) ∧ (t ≠ 1 → t ≠ 2 → x = z)) (hy : (t = 1 → ∀ g1, sv_sm (fun k => k = 76 ∨ k = 77) g g1 → ∀ Q', Q' y g1 → wp_X7_worthOf F z g1 Q') ∧ (t ≠ 1 → y = 0))
    (q : ∀ g', sv_sm (fun k => 76 ≤ k ∧ k ≤ 79) g g' → g' 76 = upd (g 76) i (nI t) → g' 77 = upd (g 77) i x → g' 78 = upd (g 78) i y → (t ≠ 2 → g' 79 = g 79) → (t = 2 → (∀ k, k < 24 → g' 79 (24 * i + k) = g 75 (24 * s + k)) ∧ ∀ p, p < 24 * i ∨ 24 * i + 24 ≤ p → g' 79 p = g 79 p) → Q (g 76 i) g') : wp_X7_lay_61 F Q (nI i) (nI t) z g := by
  have i5 : vp_in (nI i) 5 := pl_in (by omega) (by omega)
  refine ⟨i5, fun v4 e4 => ⟨i5, fun g1 e1 => ?_⟩⟩
  rw [pl_clamp (by omega)] at e4 e1
  have c1 : (nI t : Int32) = 1 ↔ t = 1 := pl_eq (b := 1) (by omega) (by omega)
  have c2 : (nI t : Int32) = 2 ↔ t = 2 := pl_eq (b := 2) (by omega) (by omega)
  have last : ∀ g3, sv_sm (fun k => 76 ≤ k ∧ k ≤ 78) g g3 → g3 76 = upd (g 76) i (nI t) → g3 77 = upd (g 77) i x → g3 78 = upd (g 78) i y → ∃ n_9, wp_X7_lay_134 F Q n_9 (nI i) (nI t) z v4 0 g3 := by
    intro g3 S3 y1 y2 y3
    by_cases t2 : t = 2
    · obtain ⟨ez, hs⟩ := hz t2
      have go : ∀ m k g', k ≤ 24 → 25 ≤ k + m → sv_sm (fun k => k = 79) g3 g' → (∀ j, j < k → g' 79 (24 * i + j) = g 75 (24 * s + j)) → (∀ p, p < 24 * i ∨ 24 * i + 24 ≤ p → g' 79 p = g 79 p) → wp_X7_lay_134 F Q m (nI i) (nI t) z v4 (nI k) g' := by
        intro m
        induction m with
        | zero => intro k g' h1 h2; omega
        | succ m ih =>
          intro k g' h1 h2 S z1 z2
          have ei : ((24 * nI i) + nI k : Int32) = nI (24 * i + k) := by rw [pl_lit 24, pk_mul, nI_add]
          have es : ((24 * z) + nI k : Int32) = nI (24 * s + k) := by rw [ez, pl_lit 24, pk_mul, nI_add]
          rw [wp_X7_lay_134, ei, es, pl_clamp (n := 24 * i + k) (by omega), pl_clamp (n := 24 * s + k) (by omega), pl_lit 24]
          by_cases hk : 24 ≤ k
          · refine br_y ((pl_le (by omega) (by omega)).mpr hk) ?_
            rw [e4]
            refine q g' (fun k hk => ?_) ?_ ?_ ?_ (fun z => absurd t2 z) (fun _ => ⟨fun k hk => z1 k (by omega), z2⟩)
            · rw [S k (by omega), S3 k (by omega)]
            · rw [S 76 (by omega)]; exact y1
            · rw [S 77 (by omega)]; exact y2
            · rw [S 78 (by omega)]; exact y3
          · refine br_n (fun z => hk ((pl_le (by omega) (by omega)).mp z)) (br_y (c2.mpr t2) ⟨pl_in (by omega) (by omega), pl_in (by omega) (by omega), fun g4 e4' v5 e5 => ?_⟩)
            rw [e5, nI_1]
            have e75 : g' 75 = g 75 := by rw [S 75 (by omega), S3 75 (by omega)]
            refine ih (k + 1) g4 (by omega) (by omega) (by rw [e4']; exact S.st rfl) (fun j hj => ?_) (fun p hp => ?_)
            · rw [e4']
              by_cases ej : j = k
              · subst ej; rw [st_at, e75]
              · rw [st_nk (by omega)]; exact z1 j (by omega)
            · rw [e4', st_nk (by omega)]; exact z2 p hp
      exact ⟨_, go 25 0 g3 (by omega) (by omega) sv_sm.rf (fun j hj => absurd hj (Nat.not_lt_zero j)) (fun p _ => by rw [S3 79 (by omega)])⟩
    · refine ⟨1, ?_⟩
      rw [wp_X7_lay_134]
      refine br_n (by decide) (br_n (fun z => t2 (c2.mp z)) ?_)
      rw [e4]
      exact q g3 (fun k hk => S3 k (by omega)) y1 y2 y3 (fun _ => S3 79 (by omega)) (fun z => absurd z t2)
  have mid : ∀ g1, g1 = sv_st g 76 i (nI t) → wp_X7_lay_110 F Q (nI i) (nI t) z v4 x (nI i) g1 := by
    intro g1 e1
    refine ⟨i5, fun g2 e2 => ?_⟩
    rw [pl_clamp (by omega)] at e2
    have S2 : sv_sm (fun k => k = 76 ∨ k = 77) g g2 := by
      rw [e2, e1]; exact (sv_sm.rf.st (Or.inl rfl)).st (Or.inr rfl)
    have end3 : wp_X7_lay_130 F Q (nI i) (nI t) z v4 y (nI i) g2 := by
      refine ⟨i5, fun g3 e3 => ?_⟩
      rw [pl_clamp (by omega)] at e3
      refine last g3 ?_ ?_ ?_ ?_
      · rw [e3]; exact (S2.mono (fun k z => by omega)).st ⟨by omega, by omega⟩
      · rw [e3, st_ne (by omega), e2, st_ne (by omega), e1, upd_st]
      · rw [e3, st_ne (by omega), e2, upd_st, e1, st_ne (by omega)]
      · rw [e3, upd_st, S2 78 (by omega)]
    by_cases t1 : t = 1
    · exact br_y (c1.mpr t1) (hy.1 t1 g2 S2 _ end3)
    · rw [hy.2 t1] at end3
      exact br_n (fun z => t1 (c1.mp z)) end3
  by_cases t1 : t = 1
  · refine br_y (c1.mpr t1) (hx.1 t1 g1 e1 _ ?_)
    rw [← hx.2.1 t1]; exact mid g1 e1
  · refine br_n (fun z => t1 (c1.mp z)) ?_
    by_cases t2 : t = 2
    · obtain ⟨ez, hs⟩ := hz t2
      refine br_y (c2.mpr t2) ⟨by rw [ez]; exact pl_in (by omega) (by omega), ?_⟩
      have e74 : g1 74 z.toNatClampNeg = x := by rw [e1, st_ne (by omega), ez, pl_clamp (by omega), hx.2.2.1 t2]
      rw [e74]; exact mid g1 e1
    · refine br_n (fun z => t2 (c2.mp z)) ?_
      have := mid g1 e1
      rw [hx.2.2.2 t1 t2] at this
      exact this
/-- one slot is new -/
theorem iv_lay {g1 g2 : sv_Mg} {i : Nat} (h : Inv F g) (hi : i ≤ 4) (S1 : sv_sm (fun k => 41 + 3 * i ≤ k ∧ k ≤ 43 + 3 * i) g g1) (S2 : sv_sm (fun k => 76 ≤ k ∧ k ≤ 79) g1 g2) (o6 : ∀ j, j ≠ i → g2 76 j = g1 76 j) (o7 : ∀ j, j ≠ i → g2 77 j = g1 77 j) (o8 : ∀ j, j ≠ i → g2 78 j = g1 78 j) (o9 : ∀ p, p < 24 * i ∨ 24 * i + 24 ≤ p → g2 79 p = g1 79 p) (new : iv_slot1 g2 i) : Inv F g2 := by
  refine h.sl (fun j hj => ?_) (fun k k1 k2 k3 => ?_)
  · by_cases ej : j = i
    · subst ej; exact new
    · refine (h.2.2.2.2.2.1 j hj).mv ?_ ?_ ?_ ?_ ?_ ?_ (fun k hk => ?_)
      · rw [S2 _ (by omega), S1 _ (by omega)]
      · rw [S2 _ (by omega), S1 _ (by omega)]
      · rw [S2 _ (by omega), S1 _ (by omega)]
      · rw [o6 j ej, S1 76 (by omega)]
      · rw [o7 j ej, S1 77 (by omega)]
      · rw [o8 j ej, S1 78 (by omega)]
      · rw [o9 _ (by omega), S1 79 (by omega)]
  · rw [S2 k k2, S1 k (by omega)]
theorem l_lay (h : Inv F g) (v w z : Int32) : wp_X6_lay F v w z g (fun r g1 => wp_X7_lay F v w z g1 (fun r2 g2 => iv_E F r r2 g2)) := by
  have n2 := h.n2
  rcases iv_rng v (n := 4) (by omega) with hv | ⟨i, hi, rfl⟩
  · exact k_sl_n hv (br_y rfl (r_sl_n hv (br_y rfl ⟨rfl, h⟩)))
  have i5 : vp_in (nI i) 5 := pl_in (by omega) (by omega)
  rcases iv_rng w (n := 3) (by omega) with hw | ⟨t, ht, rfl⟩
  · exact k_sl_y hi (br_n ne10 (k_in_n hw (br_y rfl (r_sl_y hi (br_n ne10 (r_in_n hw (br_y rfl ⟨rfl, h⟩)))))))
  refine k_sl_y hi (br_n ne10 (k_rng_y 0 3 rfl rfl rfl (Nat.zero_le t) ht (by omega) (br_n ne10 ?_)))
  have pre : ∀ (g1 : sv_Mg) (Q : Int32 → sv_Mg → Prop), ((nI t = (1 : Int32) → wp_X7_isVoter F z g1 (fun r_39 g_38 => ((r_39 = 0 → Q (-1000000001) g_38) ∧ (¬ r_39 = 0 → wp_X7_lay_29 F Q (nI i) (nI t) z g_38)))) ∧ (¬ nI t = (1 : Int32) → wp_X7_lay_29 F Q (nI i) (nI t) z g1)) → wp_X7_lay F (nI i) (nI t) z g1 Q := fun g1 Q q => r_sl_y hi (br_n ne10 (r_rng_y 0 3 rfl rfl rfl (Nat.zero_le t) ht (by omega) (br_n ne10 q)))
  obtain ⟨u1, u2⟩ := h.2.2.2.2.2.1 i (by omega)
  have ci : (nI i).toNatClampNeg = i := pl_clamp (by omega)
  have htt : t = 0 ∨ t = 1 ∨ t = 2 ∨ t = 3 := by omega
  rcases htt with rfl | rfl | rfl | rfl
  · -- nothing
    refine br_n (by decide) (br_n (by decide) ⟨i5, ?_⟩)
    rw [ci]
    intro v5 e5 g1 e1
    refine br_n (by decide) (br_n (by decide) (br_n (by decide) ?_))
    have S1 : sv_sm (fun k => 41 + 3 * i ≤ k ∧ k ≤ 43 + 3 * i) g g1 := by rw [e1]; exact sv_sm.rf.st ⟨by omega, by omega⟩
    refine pre g1 _ (br_n (by decide) (br_n (by decide) (br_n (by decide) ?_)))
    refine r_lay (s := 0) (x0 := 0) (x := z) (y := 0) (v4 := 0) hi ht (fun c => absurd c (by omega)) ⟨fun c => absurd c (by omega), fun c => absurd c (by omega), fun c => absurd c (by omega), fun _ _ => rfl⟩ ⟨fun c => absurd c (by omega), fun _ => rfl⟩ (fun g2 S2 d1 d2 d3 d4 d5 => ⟨?_, ?_⟩)
    · rw [e5, u1, S1 76 (by omega)]
    · refine iv_lay h hi S1 S2 (fun j hj => by rw [d1, pk_un hj]) (fun j hj => by rw [d2, pk_un hj]) (fun j hj => by rw [d3, pk_un hj]) (fun p _ => by rw [d4 (by omega)]) ⟨?_, Or.inl ?_⟩
      · rw [S2 _ (by omega), e1, st_at, d1, pk_us]
      · rw [d1, pk_us]; rfl
  · -- a voter
    refine br_y rfl ?_
    rcases iv_voter h z with hz | ⟨k, hk, rfl⟩
    · exact k_voter_n h.k8 hz (br_y rfl (pre g _ (br_y rfl (r_voter_n h.n n2 hz (br_y rfl ⟨rfl, h⟩)))))
    refine k_voter_y h.k8 n2 hk (br_n ne10 (br_n (by decide) ⟨i5, ?_⟩))
    rw [ci, pl_clamp (n := k) (by omega)]
    intro v5 e5 g1 e1
    refine br_y rfl ⟨pl_in (by omega) (by omega), fun g2 e2 => ⟨pl_in (by omega) (by omega), fun g3 e3 => ?_⟩⟩
    have S3 : sv_sm (fun k => 41 + 3 * i ≤ k ∧ k ≤ 43 + 3 * i) g g3 := by rw [e3, e2, e1]; exact ((sv_sm.rf.st ⟨by omega, by omega⟩).st ⟨by omega, by omega⟩).st ⟨by omega, by omega⟩
    have e59 : g3 59 = g 59 := S3 59 (by omega)
    obtain ⟨kk, hkk, ekk⟩ := h.W.1.2.1 k 0 hk (by omega)
    obtain ⟨fe, hfe, efe⟩ := h.W.1.2.1 k 3 hk (by omega)
    have hkk : kk < 6 := hkk
    have hfe : fe < 100 := hfe
    have x2 : g3 (41 + 3 * i) 2 = g 59 (11 + 6 * k) := by
      rw [e3, st_nk (by omega), e2, st_at, e1, st_ne (by omega)]
      exact h.C.1.2.1.at 0 _ _ hk (by omega) (by omega) (by omega)
    have x3 : g3 (41 + 3 * i) 3 = g 59 (14 + 6 * k) := by
      rw [e3, st_at, e2, st_ne (by omega), e1, st_ne (by omega)]
      exact h.C.1.2.1.at 3 _ _ hk (by omega) (by omega) (by omega)
    refine pre g3 _ (br_y rfl (r_voter_y (n := sp_n (g 59)) (by rw [e59]; exact h.n) n2 hk (br_n ne10 (br_n (by decide) (br_n (by decide) ?_)))))
    refine r_lay (s := 0) (x0 := g 59 (11 + 6 * k)) (x := g 59 (11 + 6 * k)) (y := sp_worth (g 59 (11 + 6 * k)) (g 59 (14 + 6 * k))) (v4 := 0) hi ht (fun c => absurd c (by omega)) ⟨fun _ g4 e4 Q' q => r_of (j := 0) rfl (by omega) (by omega) ?_, fun _ => rfl, fun c => absurd c (by omega), fun c => absurd rfl c⟩ ⟨fun _ g4 S4 Q' q => r_worth (by omega) ?_, fun c => absurd rfl c⟩ (fun g4 S4 d1 d2 d3 d4 d5 => ⟨?_, ?_⟩)
    · have : g4 59 = g 59 := by rw [e4, st_ne (by omega), e59]
      rw [this]; exact q
    · have : g4 59 = g 59 := by rw [S4 59 (by omega), e59]
      rw [this]; exact q
    · rw [e5, u1, S3 76 (by omega)]
    · refine iv_lay h hi S3 S4 (fun j hj => by rw [d1, pk_un hj]) (fun j hj => by rw [d2, pk_un hj]) (fun j hj => by rw [d3, pk_un hj]) (fun p _ => by rw [d4 (by omega)]) ⟨?_, Or.inr (Or.inl ⟨?_, ?_, ⟨kk, hkk, ?_⟩, ⟨fe, hfe, ?_⟩, ?_⟩)⟩
      · rw [S4 _ (by omega), e3, st_nk (by omega), e2, st_nk (by omega), e1, st_at, d1, pk_us]
      · rw [d1, pk_us]; rfl
      · rw [S4 _ (by omega), x2, d2, pk_us]
      · rw [d2, pk_us]; exact ekk
      · rw [S4 _ (by omega), x3, ← efe]; congr 1; omega
      · rw [d3, pk_us, d2, pk_us, S4 (41 + 3 * i) (by omega), x3]
  · -- a sheet
    refine br_n (by decide) (br_y rfl ?_)
    rcases iv_rng z (n := 3) (by omega) with hz | ⟨s, hs, rfl⟩
    · exact k_sh_n hz (br_y rfl (pre g _ (br_n (by decide) (br_y rfl (r_sh_n hz (br_y rfl ⟨rfl, h⟩))))))
    have s4 : vp_in (nI s) 4 := pl_in (by omega) (by omega)
    have cs : (nI s).toNatClampNeg = s := pl_clamp (by omega)
    refine k_sh_y hs (br_n ne10 ⟨s4, ?_⟩)
    rw [cs]
    obtain ⟨p1, p2, p3, p4, n, hn, p5⟩ := h.2.2.2.2.1 s (by omega)
    have pre2 : ∀ (g1 : sv_Mg) (Q : Int32 → sv_Mg → Prop), g1 73 = g 73 → ((0 ≤ g 73 s → wp_X7_lay_61 F Q (nI i) (nI 2) (nI s) g1) ∧ (¬ 0 ≤ g 73 s → Q (-1000000011) g1)) → wp_X7_lay F (nI i) (nI 2) (nI s) g1 Q := by
      intro g1 Q e73 q
      refine pre g1 Q (br_n (by decide) (br_y rfl (r_sh_y hs (br_n ne10 (br_y rfl ⟨s4, ?_⟩)))))
      rw [cs, e73]; exact q
    by_cases cm : g 73 s = -1
    · exact br_y (by rw [p1]; exact cm) (br_n ne10 (pre2 g _ rfl (br_n (by rw [cm]; decide) ⟨rfl, h⟩)))
    have c0 : 0 ≤ g 73 s := by
      rcases p4 with q | q | q
      · exact absurd q cm
      · rw [q]; decide
      · rw [q]; decide
    refine br_n (by rw [p1]; exact cm) (br_y rfl ⟨i5, ?_⟩)
    rw [ci]
    intro v5 e5 g1 e1
    refine br_n (by decide) (br_y rfl ⟨s4, ?_⟩)
    rw [cs]
    intro g2 e2 g3 e3 g4 e4
    have S4 : sv_sm (fun k => 41 + 3 * i ≤ k ∧ k ≤ 43 + 3 * i) g g4 := by
      rw [e4, e3, e2, e1]; exact (((sv_sm.rf.st ⟨by omega, by omega⟩).st ⟨by omega, by omega⟩).st ⟨by omega, by omega⟩).sa ⟨by omega, by omega⟩
    refine pre2 g4 _ (S4 73 (by omega)) (br_y c0 ?_)
    refine r_lay (s := s) (x0 := 0) (x := nI n) (y := 0) (v4 := 0) hi ht (fun _ => ⟨rfl, hs⟩) ⟨fun c => absurd c (by omega), fun c => absurd c (by omega), fun _ => by rw [S4 74 (by omega)]; exact p5.symm, fun _ c => absurd rfl c⟩ ⟨fun c => absurd c (by omega), fun _ => rfl⟩ (fun g5 S5 d1 d2 d3 d4 d5 => ⟨?_, ?_⟩)
    · rw [e5, u1, S4 76 (by omega)]
    · refine iv_lay h hi S4 S5 (fun j hj => by rw [d1, pk_un hj]) (fun j hj => by rw [d2, pk_un hj]) (fun j hj => by rw [d3, pk_un hj]) (d5 rfl).2 ⟨?_, Or.inr (Or.inr (Or.inl ⟨?_, ?_, ⟨n, hn, ?_⟩, fun k hk => ?_⟩))⟩
      · rw [S5 _ (by omega), e4, sa_ne (by omega), e3, st_ne (by omega), e2, st_ne (by omega), e1, st_at, d1, pk_us]
      · rw [d1, pk_us]; rfl
      · rw [S5 _ (by omega), d2, pk_us, e4, sa_ne (by omega), e3, show 42 + 3 * i = 41 + 3 * i + 1 by omega, st_at, e2, st_ne (by omega), e1, st_ne (by omega), p2, p5]
      · rw [d2, pk_us]
      · rw [(d5 rfl).1 k hk, S4 75 (by omega), S5 _ (by omega), e4, show 43 + 3 * i = 41 + 3 * i + 1 + 1 by omega, sa_at, pk_cpy_in (by omega) (by omega), e3, st_ne (by omega), e2, st_ne (by omega), e1, st_ne (by omega)]
        have := (p3 k hk).1
        rw [show 33 + 2 * s = 32 + 2 * s + 1 by omega] at this
        rw [← this]; congr 1; omega
  · -- a number
    refine br_n (by decide) (br_n (by decide) ⟨i5, ?_⟩)
    rw [ci]
    intro v5 e5 g1 e1
    refine br_n (by decide) (br_n (by decide) (br_y rfl ?_))
    intro g2 e2
    have S2 : sv_sm (fun k => 41 + 3 * i ≤ k ∧ k ≤ 43 + 3 * i) g g2 := by rw [e2, e1]; exact (sv_sm.rf.st ⟨by omega, by omega⟩).st ⟨by omega, by omega⟩
    refine pre g2 _ (br_n (by decide) (br_n (by decide) (br_n (by decide) ?_)))
    refine r_lay (s := 0) (x0 := 0) (x := z) (y := 0) (v4 := 0) hi ht (fun c => absurd c (by omega)) ⟨fun c => absurd c (by omega), fun c => absurd c (by omega), fun c => absurd c (by omega), fun _ _ => rfl⟩ ⟨fun c => absurd c (by omega), fun _ => rfl⟩ (fun g3 S3 d1 d2 d3 d4 d5 => ⟨?_, ?_⟩)
    · rw [e5, u1, S2 76 (by omega)]
    · refine iv_lay h hi S2 S3 (fun j hj => by rw [d1, pk_un hj]) (fun j hj => by rw [d2, pk_un hj]) (fun j hj => by rw [d3, pk_un hj]) (fun p _ => by rw [d4 (by omega)]) ⟨?_, Or.inr (Or.inr (Or.inr ⟨?_, ?_⟩))⟩
      · rw [S3 _ (by omega), e2, st_nk (by omega), e1, st_at, d1, pk_us]
      · rw [d1, pk_us]; rfl
      · rw [S3 _ (by omega), e2, st_at, d2, pk_us]
end CM
