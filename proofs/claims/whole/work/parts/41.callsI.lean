/-! SLOTS AND SHEETS THAT ARE READ: ask, item, rest, reads -/
section CI
variable {F : sv_Fr} {g : sv_Mg} {a B : Nat} {f : Nat → Int32}
theorem pl_dm1 (x : Int32) : x - x / (-1) * (-1) = 0 := by
  have e : x / (-1) = -x := by
    apply Int32.toInt_inj.mp
    have m1 : (-1 : Int32).toInt = -1 := rfl
    rw [Int32.toInt_div, m1, Int.tdiv_neg, Int.tdiv_one, Int32.toInt_neg]
  rw [e, Int32.mul_neg, Int32.mul_one, Int32.neg_neg, Int32.sub_self]
theorem l_rest (h : Inv F g) (v w : Int32) : wp_X6_rest F v w g (fun r g1 => wp_X7_rest F v w g1 (fun r2 g2 => iv_E F r r2 g2)) := by
  rcases iv_rng v (n := 4) (by omega) with hv | ⟨i, hi, rfl⟩
  · exact k_sl_n hv (br_y rfl (r_sl_n hv (br_y rfl ⟨rfl, h⟩)))
  have i5 : vp_in (nI i) 5 := pl_in (by omega) (by omega)
  refine k_sl_y hi (br_n ne10 ⟨i5, ?_⟩)
  have pre : ∀ Q : Int32 → sv_Mg → Prop, (((g 76 i) = 0 → Q (-1000000011) g) ∧ (¬ (g 76 i) = 0 → (((g 76 i) = 3 → ((w = 0 → Q (-1000000002) g) ∧ (¬ w = 0 → ((w = (-1) → Q 0 g) ∧ (¬ w = (-1) → Q ((g 77 i) - (g 77 i) / w * w) g))))) ∧ (¬ (g 76 i) = 3 → Q (-1000000012) g)))) → wp_X7_rest F (nI i) w g Q := by
    intro Q q
    refine r_sl_y hi (br_n ne10 ⟨i5, ?_⟩)
    rw [pl_clamp (by omega)]
    exact ⟨q.1, fun c => ⟨i5, fun c2 => ⟨((q.2 c).1 c2).1, fun c3 => ⟨(((q.2 c).1 c2).2 c3).1, fun c4 => ⟨i5, c3, (((q.2 c).1 c2).2 c3).2 c4⟩⟩⟩, (q.2 c).2⟩⟩
  obtain ⟨s1, s2⟩ := h.2.2.2.2.2.1 i (by omega)
  rw [pl_clamp (by omega), s1]
  refine ⟨fun c => pre _ (br_y c ⟨rfl, h⟩), fun c => ⟨fun c2 => ⟨fun c3 => pre _ (br_n c (br_y c2 (br_y c3 ⟨rfl, h⟩))), fun c3 => ⟨c3, pre _ (br_n c (br_y c2 (br_n c3 ?_)))⟩⟩, fun c2 => pre _ (br_n c (br_n c2 ⟨rfl, h⟩))⟩⟩
  have e4 : g (41 + 3 * i) 4 = g 77 i := by
    rcases s2 with z | ⟨z, -⟩ | ⟨z, -⟩ | ⟨-, z⟩
    · exact absurd z c
    · rw [z] at c2; exact absurd c2 (by decide)
    · rw [z] at c2; exact absurd c2 (by decide)
    · exact z
  rw [e4]
  refine ⟨fun c4 => ⟨?_, h⟩, fun c4 => ⟨rfl, h⟩⟩
  rw [c4]; exact pl_dm1 _
theorem l_ask (h : Inv F g) (v w : Int32) : wp_X6_ask F v w g (fun r g1 => wp_X7_ask F v w g1 (fun r2 g2 => iv_E F r r2 g2)) := by
  rcases iv_rng v (n := 4) (by omega) with hv | ⟨i, hi, rfl⟩
  · exact k_sl_n hv (br_y rfl (r_sl_n hv (br_y rfl ⟨rfl, h⟩)))
  have i5 : vp_in (nI i) 5 := pl_in (by omega) (by omega)
  rcases iv_rng w (n := 5) (by omega) with hw | ⟨o, ho, rfl⟩
  · exact k_sl_y hi (br_n ne10 (k_in_n hw (br_y rfl (r_sl_y hi (br_n ne10 (r_in_n hw (br_y rfl ⟨rfl, h⟩)))))))
  refine k_sl_y hi (br_n ne10 (k_rng_y 0 5 rfl rfl rfl (Nat.zero_le o) ho (by omega) (br_n ne10 ⟨i5, ?_⟩)))
  have pre : ∀ Q : Int32 → sv_Mg → Prop, (((g 76 i) = 0 → Q (-1000000011) g) ∧ (¬ (g 76 i) = 0 → (((g 76 i) = 1 → wp_X7_isUnder F (g 77 i) (nI o) g (fun r_13 g_12 => ((r_13 = 0 → Q (-1000000012) g_12) ∧ (¬ r_13 = 0 → Q (g_12 78 i) g_12)))) ∧ (¬ (g 76 i) = 1 → Q (-1000000012) g)))) → wp_X7_ask F (nI i) (nI o) g Q := by
    intro Q q
    refine r_sl_y hi (br_n ne10 (r_rng_y 0 5 rfl rfl rfl (Nat.zero_le o) ho (by omega) (br_n ne10 ⟨i5, ?_⟩)))
    rw [pl_clamp (by omega)]
    refine ⟨q.1, fun c => ⟨i5, fun c2 => ⟨i5, ?_⟩, (q.2 c).2⟩⟩
    have := (q.2 c).1 c2
    simp only [i5, true_and]
    exact this
  obtain ⟨s1, s2⟩ := h.2.2.2.2.2.1 i (by omega)
  rw [pl_clamp (by omega), s1]
  refine ⟨fun c => pre _ (br_y c ⟨rfl, h⟩), fun c => ⟨fun c2 => ?_, fun c2 => pre _ (br_n c (br_n c2 ⟨rfl, h⟩))⟩⟩
  rcases s2 with z | ⟨-, e2, ⟨k, hk, ek⟩, ⟨e, he, ee⟩, ew⟩ | ⟨z, -⟩ | ⟨z, -⟩
  · exact absurd z c
  · rw [e2, ek]
    refine k_ofKind hk (by omega) ?_
    have pre2 : ∀ Q : Int32 → sv_Mg → Prop, ((sp_b (sp_und k o) = 0 → Q (-1000000012) g) ∧ (¬ sp_b (sp_und k o) = 0 → Q (g 78 i) g)) → wp_X7_ask F (nI i) (nI o) g Q := by
      intro Q q
      refine pre Q (br_n c (br_y c2 ?_))
      rw [ek]
      exact r_under k hk o (by omega) q
    refine ⟨fun cc => pre2 _ (br_y cc ⟨rfl, h⟩), fun cc => ?_⟩
    rw [e2, ee]
    refine k_worth he (pre2 _ (br_n cc ⟨?_, h⟩))
    rw [ew, ee]
  · rw [z] at c2; exact absurd c2 (by decide)
  · rw [z] at c2; exact absurd c2 (by decide)
theorem l_item (h : Inv F g) (v w : Int32) : wp_X6_item F v w g (fun r g1 => wp_X7_item F v w g1 (fun r2 g2 => iv_E F r r2 g2)) := by
  rcases iv_rng v (n := 4) (by omega) with hv | ⟨i, hi, rfl⟩
  · exact k_sl_n hv (br_y rfl (r_sl_n hv (br_y rfl ⟨rfl, h⟩)))
  have i5 : vp_in (nI i) 5 := pl_in (by omega) (by omega)
  refine k_sl_y hi (br_n ne10 ⟨i5, ?_⟩)
  have pre : ∀ Q : Int32 → sv_Mg → Prop, (((g 76 i) = 0 → Q (-1000000011) g) ∧ (¬ (g 76 i) = 0 → (((g 76 i) = 2 → wp_X7_in F w 0 ((g 77 i) - 1) g (fun r_10 g_9 => ((r_10 = 0 → Q (-1000000013) g_9) ∧ (¬ r_10 = 0 → vp_in ((24 * nI i) + w) 120 ∧ ∀ v3_13 : Int32, v3_13 = (g_9 79 ((24 * nI i) + w).toNatClampNeg) → ((v3_13 = (-1000000005) → Q (-1000000012) g_9) ∧ (¬ v3_13 = (-1000000005) → Q v3_13 g_9)))))) ∧ (¬ (g 76 i) = 2 → Q (-1000000012) g)))) → wp_X7_item F (nI i) w g Q := by
    intro Q q
    refine r_sl_y hi (br_n ne10 ⟨i5, ?_⟩)
    rw [pl_clamp (by omega)]
    exact ⟨q.1, fun c => ⟨i5, fun c2 => ⟨i5, (q.2 c).1 c2⟩, (q.2 c).2⟩⟩
  obtain ⟨s1, s2⟩ := h.2.2.2.2.2.1 i (by omega)
  rw [pl_clamp (by omega), s1]
  refine ⟨fun c => pre _ (br_y c ⟨rfl, h⟩), fun c => ⟨fun c2 => ?_, fun c2 => pre _ (br_n c (br_n c2 ⟨rfl, h⟩))⟩⟩
  rcases s2 with z | ⟨z, -⟩ | ⟨-, e2, ⟨n, hn, en⟩, e3⟩ | ⟨z, -⟩
  · exact absurd z c
  · rw [z] at c2; exact absurd c2 (by decide)
  · have esz : g (41 + 3 * i + 1) 2 = nI n := by rw [show 41 + 3 * i + 1 = 42 + 3 * i by omega, e2, en]
    rw [en] at pre
    rcases pl_ix w (n := n) (by omega) with ⟨p, hp, rfl⟩ | hw
    · refine br_n (pl_nn (by omega)) ?_
      rw [esz]
      refine br_n (fun z => absurd ((pl_le (by omega) (by omega)).mp z) (by omega)) (br_n ne10 (k_num esz hn hp ?_))
      have e43 : g (41 + 3 * i + 1 + 1) p = g 79 (24 * i + p) := by rw [show 41 + 3 * i + 1 + 1 = 43 + 3 * i by omega]; exact e3 p (by omega)
      have ei : ((24 * nI i) + nI p : Int32) = nI (24 * i + p) := by rw [pl_lit 24, pk_mul, nI_add]
      have pre2 : ∀ Q : Int32 → sv_Mg → Prop, ((g 79 (24 * i + p) = (-1000000005) → Q (-1000000012) g) ∧ (¬ g 79 (24 * i + p) = (-1000000005) → Q (g 79 (24 * i + p)) g)) → wp_X7_item F (nI i) (nI p) g Q := by
        intro Q q
        refine pre Q (br_n c (br_y c2 ?_))
        refine r_in_y (pl_nn (by omega)) ?_ (br_n ne10 ?_)
        · rw [pl_pred (by omega)]
          exact fun z => absurd ((pl_lt (by omega) (by omega)).mp z) (by omega)
        · rw [ei, pl_clamp (by omega)]
          refine ⟨pl_in (by omega) (by omega), ?_⟩
          intro v3 e3'
          rw [e3']; exact q
      rw [e43, pl_clamp (by omega)]
      refine ⟨fun cc => br_y rfl (pre2 _ (br_y cc ⟨rfl, h⟩)), fun cc => br_n ne10 ⟨pl_in (by omega) (by omega), ?_⟩⟩
      exact pre2 _ (br_n cc ⟨e43, h⟩)
    · have ref : ∀ Q : Int32 → sv_Mg → Prop, Q (-1000000013) g → wp_X7_item F (nI i) w g Q := fun Q q => pre Q (br_n c (br_y c2 (r_in_n (iv_ub (by omega) hw) (br_y rfl q))))
      by_cases c0 : w < 0
      · exact br_y c0 (br_y rfl (ref _ ⟨rfl, h⟩))
      · refine br_n c0 ?_
        rw [esz]
        exact br_y (hw.resolve_left c0) (br_y rfl (ref _ ⟨rfl, h⟩))
  · rw [z] at c2; exact absurd c2 (by decide)
/-- the first place of a row that is wrong -/
def sp_rs (f c : Nat → Int32) (n : Nat) : Nat → Nat → Int32
  | 0, _ => -1000000005
  | m + 1, k => if c k = -1000000005 then sp_rs f c n m (k + 1) else if k < sp_n f ∧ c k = nI (sp_hv f (nI k)) then sp_rs f c n m (k + 1) else nI k
theorem l_reads (h : Inv F g) (v : Int32) : wp_X6_reads F v g (fun r g1 => wp_X7_reads F v g1 (fun r2 g2 => iv_E F r r2 g2)) := by
  have n2 := h.n2
  rcases iv_rng v (n := 3) (by omega) with hv | ⟨i, hi, rfl⟩
  · exact k_sh_n hv (br_y rfl (r_sh_n hv (br_y rfl ⟨rfl, h⟩)))
  have i4 : vp_in (nI i) 4 := pl_in (by omega) (by omega)
  refine k_sh_y hi (br_n ne10 ⟨i4, ?_⟩)
  rw [pl_clamp (by omega)]
  obtain ⟨s1, s2, s3, s4, n, hn, s5⟩ := h.2.2.2.2.1 i (by omega)
  have pre : ∀ (Q : Int32 → sv_Mg → Prop), ((0 ≤ (g 73 i) → ∃ n_18, wp_X7_reads_24 F Q n_18 (nI i) 0 g) ∧ (¬ 0 ≤ (g 73 i) → Q (-1000000011) g)) → wp_X7_reads F (nI i) g Q := by
    intro Q q
    refine r_sh_y hi (br_n ne10 ⟨i4, ?_⟩)
    rw [pl_clamp (by omega)]; exact q
  by_cases cm : g 73 i = -1
  · exact br_y (by rw [s1]; exact cm) (br_n ne10 (pre _ (br_n (by rw [cm]; decide) ⟨rfl, h⟩)))
  have c0 : 0 ≤ g 73 i := by
    rcases s4 with z | z | z
    · exact absurd z cm
    · rw [z]; decide
    · rw [z]; decide
  refine br_n (by rw [s1]; exact cm) (br_y rfl ?_)
  have ei : ∀ k, ((24 * nI i) + nI k : Int32) = nI (24 * i + k) := fun k => by rw [pl_lit 24, pk_mul, nI_add]
  have ref : wp_X7_reads F (nI i) g (fun r2 g3 => iv_E F (sp_rs (g 59) (fun k => g 75 (24 * i + k)) n n 0) r2 g3) := by
    refine pre _ (br_y c0 ?_)
    have go : ∀ m k, k + m = n → sp_rs (g 59) (fun k => g 75 (24 * i + k)) n m k = sp_rs (g 59) (fun k => g 75 (24 * i + k)) n n 0 → wp_X7_reads_24 F (fun r2 g3 => iv_E F (sp_rs (g 59) (fun k => g 75 (24 * i + k)) n n 0) r2 g3) (m + 1) (nI i) (nI k) g := by
      intro m
      induction m with
      | zero =>
        intro k hk es
        rw [wp_X7_reads_24, pl_clamp (by omega), s5]
        refine ⟨i4, br_y ((pl_le (by omega) (by omega)).mpr (by omega)) ⟨?_, h⟩⟩
        rw [← es]; rfl
      | succ m ih =>
        intro k hk es
        rw [wp_X7_reads_24, pl_clamp (by omega), s5, ei, pl_clamp (by omega)]
        refine ⟨i4, br_n (fun z => absurd ((pl_le (by omega) (by omega)).mp z) (by omega)) ⟨pl_in (by omega) (by omega), ?_⟩⟩
        intro v3 e3
        rw [sp_rs] at es
        have nx : sp_rs (g 59) (fun k => g 75 (24 * i + k)) n m (k + 1) = sp_rs (g 59) (fun k => g 75 (24 * i + k)) n n 0 → wp_X7_reads_71 F (fun r2 g3 => iv_E F (sp_rs (g 59) (fun k => g 75 (24 * i + k)) n n 0) r2 g3) (wp_X7_reads_24 F (fun r2 g3 => iv_E F (sp_rs (g 59) (fun k => g 75 (24 * i + k)) n n 0) r2 g3) (m + 1)) (nI i) (nI k) g := by
          intro es2 v2 e2
          rw [e2, nI_1]
          exact ih (k + 1) (by omega) es2
        rw [e3]
        refine ⟨fun c => nx (by rw [if_pos c] at es; exact es), fun c => ?_⟩
        rw [if_neg c] at es
        by_cases hk2 : k < sp_n (g 59)
        · refine r_voter_y h.n n2 hk2 (br_n ne10 (r_has h.n n2 ⟨fun cc => nx (by rw [if_pos ⟨hk2, cc⟩] at es; exact es), fun cc => ⟨?_, h⟩⟩))
          rw [← es, if_neg (fun z => cc z.2)]
        · refine r_voter_n h.n n2 (Or.inr ((pl_le (by omega) (by omega)).mpr (by omega))) (br_y rfl ⟨?_, h⟩)
          rw [← es, if_neg (fun z => hk2 z.1)]
    exact ⟨_, go n 0 (by omega) rfl⟩
  have go : ∀ m k, k + m = n → sp_rs (g 59) (fun k => g 75 (24 * i + k)) n m k = sp_rs (g 59) (fun k => g 75 (24 * i + k)) n n 0 → wp_X6_reads_29 F (fun r g1 => wp_X7_reads F (nI i) g1 (fun r2 g2 => iv_E F r r2 g2)) (m + 1) (32 + 2 * i) (nI k) g := by
    intro m
    induction m with
    | zero =>
      intro k hk es
      rw [wp_X6_reads_29, s2, s5]
      refine br_y ((pl_le (by omega) (by omega)).mpr (by omega)) ?_
      have r := ref
      rw [← es] at r
      exact r
    | succ m ih =>
      intro k hk es
      rw [wp_X6_reads_29, s2, s5]
      refine br_n (fun z => absurd ((pl_le (by omega) (by omega)).mp z) (by omega)) ?_
      have e33 : g (32 + 2 * i + 1) k = g 75 (24 * i + k) := by rw [show 32 + 2 * i + 1 = 33 + 2 * i by omega]; exact (s3 k (by omega)).1
      have esz : g (32 + 2 * i) 2 = nI n := s2.trans s5
      rw [sp_rs] at es
      have nx : sp_rs (g 59) (fun k => g 75 (24 * i + k)) n m (k + 1) = sp_rs (g 59) (fun k => g 75 (24 * i + k)) n n 0 → wp_X6_reads_88 F (fun r g1 => wp_X7_reads F (nI i) g1 (fun r2 g2 => iv_E F r r2 g2)) (wp_X6_reads_29 F (fun r g1 => wp_X7_reads F (nI i) g1 (fun r2 g2 => iv_E F r r2 g2)) (m + 1)) (32 + 2 * i) (nI k) g := by
        intro es2 v2 e2
        rw [e2, nI_1]
        exact ih (k + 1) (by omega) es2
      have fin : ∀ (b : Int32), (b = 0 → ¬ (k < sp_n (g 59) ∧ g 75 (24 * i + k) = nI (sp_hv (g 59) (nI k)))) → (¬ b = 0 → (k < sp_n (g 59) ∧ g 75 (24 * i + k) = nI (sp_hv (g 59) (nI k)))) → wp_X6_reads_71 F (fun r g1 => wp_X7_reads F (nI i) g1 (fun r2 g2 => iv_E F r r2 g2)) (wp_X6_reads_29 F (fun r g1 => wp_X7_reads F (nI i) g1 (fun r2 g2 => iv_E F r r2 g2)) (m + 1)) (32 + 2 * i) (nI k) b g := by
        intro b b0 b1
        refine k_num esz hn (by omega) ?_
        rw [e33]
        refine ⟨fun c => br_y rfl (nx (by rw [if_pos c] at es; exact es)), fun c => br_n ne10 ⟨fun cb => ?_, fun cb => nx (by rw [if_neg c, if_pos (b1 cb)] at es; exact es)⟩⟩
        have r := ref
        rw [← es, if_neg c, if_neg (b0 cb)] at r
        exact r
      by_cases hk2 : k < sp_n (g 59)
      · refine k_voter_y h.k8 n2 hk2 (br_n ne10 ⟨pl_in (by omega) (by omega), pl_in (by omega) (by omega), ?_⟩)
        rw [pl_clamp (by omega), e33, h.C.1.2.2.1 k (by omega)]
        refine ⟨fun c => fin 1 (fun z => absurd z ne10) (fun _ => ⟨hk2, c⟩), fun c => fin 0 (fun _ z => c z.2) (fun z => absurd rfl z)⟩
      · refine k_voter_n h.k8 (Or.inr ((pl_le (by omega) (by omega)).mpr (by omega))) (br_y rfl (fin 0 (fun _ z => hk2 z.1) (fun z => absurd rfl z)))
  exact ⟨_, go n 0 (by omega) rfl⟩
end CI
