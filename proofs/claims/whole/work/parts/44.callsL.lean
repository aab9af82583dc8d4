/-! SHEETS AND SLOTS: copy, lay -/
section CL
variable {F : sv_Fr} {g g' : sv_Mg} {a B : Nat} {f : Nat → Int32}
theorem nI_toI2 {n : Nat} (h : n < 2 ^ 31) : (nI n).toInt = n := by
  have h1 : (nI n).toNatClampNeg = n := nI_clamp h
  have h2 : ¬ (nI n).toInt < (0 : Int32).toInt := fun z => nI_pos h (Int32.lt_iff_toInt_lt.mpr z)
  have h3 : (0 : Int32).toInt = 0 := rfl
  have h4 : (nI n).toNatClampNeg = (nI n).toInt.toNat := rfl
  omega
theorem sub_lt {n K P : Nat} (hn : n ≤ 24) (hK : K < 2 ^ 31) (hP : P < 2 ^ 31) : (nI n - nI K) < nI P ↔ n < P + K := by
  rw [Int32.lt_iff_toInt_lt, Int32.toInt_sub, nI_toI2 (by omega), nI_toI2 hK, nI_toI2 hP, Int.bmod_eq_of_le (by omega) (by omega)]
  omega
theorem le_sub {n K P : Nat} (hn : n ≤ 24) (hK : K < 2 ^ 31) (hP : P < 2 ^ 31) : nI P ≤ (nI n - nI K) ↔ P + K ≤ n := by
  rw [Int32.le_iff_toInt_le, Int32.toInt_sub, nI_toI2 (n := n) (by omega), nI_toI2 hK, nI_toI2 hP, Int.bmod_eq_of_le (by omega) (by omega)]
  omega
/-- a stretch that stands there -/
def sp_st (v w : Int32) (n : Nat) : Prop := ∃ P K, v = nI P ∧ w = nI K ∧ P + K ≤ n
theorem k_str {n : Nat} {v w : Int32} {Q : Int32 → sv_Mg → Prop} (hs : g a 2 = nI n) (hn : n ≤ 24) (q1 : sp_st v w n → Q 1 g) (q0 : ¬ sp_st v w n → Q 0 g) : wp_X4_hasStretch F a v w g Q := by
  by_cases c1 : v < 0
  · refine br_y c1 (q0 ?_)
    rintro ⟨P, K, rfl, rfl, h⟩
    exact pl_nn (by omega) c1
  obtain ⟨P, hP, rfl⟩ := nI_of c1
  refine br_n c1 ?_
  by_cases c2 : w < 0
  · refine br_y c2 (q0 ?_)
    rintro ⟨P, K, e, rfl, h⟩
    exact pl_nn (by omega) c2
  obtain ⟨K, hK, rfl⟩ := nI_of c2
  refine br_n c2 ?_
  rw [hs]
  have iff : sp_st (nI P) (nI K) n ↔ P + K ≤ n := by
    refine ⟨fun ⟨P', K', e1, e2, h⟩ => ?_, fun h => ⟨P, K, rfl, rfl, h⟩⟩
    rw [(nI_eq hP (by omega)).mp e1, (nI_eq hK (by omega)).mp e2]; exact h
  by_cases c3 : n < P
  · exact br_y ((nI_ltI (by omega) hP).mpr c3) (q0 (fun z => by have := iff.mp z; omega))
  · refine br_n (fun z => c3 ((nI_ltI (by omega) hP).mp z)) ?_
    rw [pk_sub (by omega)]
    by_cases c4 : n - P < K
    · exact br_y ((nI_ltI (by omega) hK).mpr c4) (q0 (fun z => by have := iff.mp z; omega))
    · exact br_n (fun z => c4 ((nI_ltI (by omega) hK).mp z)) (q1 (iff.mpr (by omega)))
theorem l_copy (h : Inv F g) (v1 v2 v3 v4 v5 : Int32) : wp_X6_copy F v1 v2 v3 v4 v5 g (fun r g1 => wp_X7_copy F v1 v2 v3 v4 v5 g1 (fun r2 g2 => iv_E F r r2 g2)) := by
  rcases iv_rng v1 (n := 3) (by omega) with hv | ⟨i, hi, rfl⟩
  · exact k_sh_n hv (br_y rfl (r_sh_n hv (br_y rfl ⟨rfl, h⟩)))
  rcases iv_rng v3 (n := 3) (by omega) with hv | ⟨j, hj, rfl⟩
  · exact k_sh_y hi (br_n ne10 (k_sh_n hv (br_y rfl (r_sh_y hi (br_n ne10 (r_sh_n hv (br_y rfl ⟨rfl, h⟩)))))))
  have i4 : vp_in (nI i) 4 := pl_in (by omega) (by omega)
  have j4 : vp_in (nI j) 4 := pl_in (by omega) (by omega)
  have ci : (nI i).toNatClampNeg = i := pl_clamp (by omega)
  have cj : (nI j).toNatClampNeg = j := pl_clamp (by omega)
  obtain ⟨s1, s2, s3, s4, n, hn, s5⟩ := h.2.2.2.2.1 i (by omega)
  obtain ⟨t1, t2, t3, t4, m, hm, t5⟩ := h.2.2.2.2.1 j (by omega)
  have neg : ∀ x : Int32, (x = -1 ∨ x = 0 ∨ x = 1) → ((x = -1 ↔ x < 0) ∧ (¬ x = -1 ↔ 0 ≤ x)) := by
    rintro x (rfl | rfl | rfl)
    · exact ⟨⟨fun _ => by decide, fun _ => rfl⟩, ⟨fun z => absurd rfl z, fun z => absurd z (by decide)⟩⟩
    · exact ⟨⟨fun z => absurd z (by decide), fun z => absurd z (by decide)⟩, ⟨fun _ => by decide, fun _ => by decide⟩⟩
    · exact ⟨⟨fun z => absurd z (by decide), fun z => absurd z (by decide)⟩, ⟨fun _ => by decide, fun _ => by decide⟩⟩
  have pre : ∀ (g1 : sv_Mg) (Q : Int32 → sv_Mg → Prop), g1 73 = g 73 → g1 74 = g 74 → (((g 73 i) < 0 → Q (-1000000011) g1) ∧ (¬ (g 73 i) < 0 → ((0 ≤ (g 73 j) → (((g 73 i) = (g 73 j) → ((v2 < 0 → Q (-1000000013) g1) ∧ (¬ v2 < 0 → ((v4 < 0 → Q (-1000000013) g1) ∧ (¬ v4 < 0 → ((v5 < 0 → Q (-1000000013) g1) ∧ (¬ v5 < 0 → (((nI n - v5) < v2 → Q (-1000000013) g1) ∧ (¬ (nI n - v5) < v2 → ((v4 ≤ (nI m - v5) → ∃ n_32, wp_X7_copy_104 F Q n_32 (nI i) v2 (nI j) v4 v5 0 g1) ∧ (¬ v4 ≤ (nI m - v5) → Q (-1000000013) g1))))))))))) ∧ (¬ (g 73 i) = (g 73 j) → Q (-1000000012) g1))) ∧ (¬ 0 ≤ (g 73 j) → Q (-1000000011) g1)))) → wp_X7_copy F (nI i) v2 (nI j) v4 v5 g1 Q := by
    intro g1 Q e73 e74 q
    refine r_sh_y hi (br_n ne10 (r_sh_y hj (br_n ne10 ⟨i4, ?_⟩)))
    rw [ci, cj, e73, e74, s5, t5]
    refine ⟨q.1, fun c1 => ⟨j4, fun c2 => ⟨i4, j4, fun c3 => ?_, fun c3 => ((q.2 c1).1 c2).2 c3⟩, (q.2 c1).2⟩⟩
    have q := ((q.2 c1).1 c2).1 c3
    refine ⟨q.1, fun d1 => ⟨(q.2 d1).1, fun d2 => ⟨((q.2 d1).2 d2).1, fun d3 => ⟨i4, (((q.2 d1).2 d2).2 d3).1, fun d4 => ⟨j4, ((((q.2 d1).2 d2).2 d3).2 d4)⟩⟩⟩⟩⟩
  refine k_sh_y hi (br_n ne10 (k_sh_y hj (br_n ne10 ⟨i4, j4, ?_⟩)))
  rw [ci, cj]
  by_cases mi : g 73 i = -1
  · exact br_y (by rw [s1]; exact mi) (br_n ne10 (pre g _ rfl rfl (br_y ((neg _ s4).1.mp mi) ⟨rfl, h⟩)))
  have mi' : ¬ g 73 i < 0 := fun z => mi ((neg _ s4).1.mpr z)
  refine br_n (by rw [s1]; exact mi) (br_y rfl ?_)
  by_cases mj : g 73 j = -1
  · exact br_y (by rw [t1]; exact mj) (br_n ne10 (pre g _ rfl rfl (br_n mi' (br_n (fun z => (neg _ t4).2.mpr z mj) ⟨rfl, h⟩))))
  have mj' : 0 ≤ g 73 j := (neg _ t4).2.mp mj
  refine br_n (by rw [t1]; exact mj) (br_y rfl ?_)
  rw [s1, t1]
  by_cases es : g 73 i = g 73 j
  · refine br_y es ?_
    have pre2 : ∀ (g1 : sv_Mg) (Q : Int32 → sv_Mg → Prop), g1 73 = g 73 → g1 74 = g 74 → (sp_st v2 v5 n → sp_st v4 v5 m → ∃ n_32, wp_X7_copy_104 F Q n_32 (nI i) v2 (nI j) v4 v5 0 g1) → (¬ (sp_st v2 v5 n ∧ sp_st v4 v5 m) → Q (-1000000013) g1) → wp_X7_copy F (nI i) v2 (nI j) v4 v5 g1 Q := by
      intro g1 Q e73 e74 q1 q0
      refine pre g1 Q e73 e74 (br_n mi' (br_y mj' (br_y es ?_)))
      have nn : ∀ {x : Int32} {k : Nat}, x = nI k → k < 100000 → ¬ x < 0 := fun e hk => by rw [e]; exact pl_nn hk
      by_cases d1 : v2 < 0
      · refine br_y d1 (q0 ?_)
        rintro ⟨⟨P, K, e1, e2, e3⟩, -⟩
        exact nn e1 (by omega) d1
      refine br_n d1 ?_
      by_cases d2 : v4 < 0
      · refine br_y d2 (q0 ?_)
        rintro ⟨-, ⟨P, K, e1, e2, e3⟩⟩
        exact nn e1 (by omega) d2
      refine br_n d2 ?_
      by_cases d3 : v5 < 0
      · refine br_y d3 (q0 ?_)
        rintro ⟨⟨P, K, e1, e2, e3⟩, -⟩
        exact nn e2 (by omega) d3
      refine br_n d3 ?_
      obtain ⟨P, hP, eP⟩ := nI_of d1
      obtain ⟨R, hR, eR⟩ := nI_of d2
      obtain ⟨K, hK, eK⟩ := nI_of d3
      have iff1 : sp_st v2 v5 n ↔ P + K ≤ n := by
        rw [eP, eK]
        refine ⟨fun ⟨P', K', e1, e2, h⟩ => ?_, fun h => ⟨P, K, rfl, rfl, h⟩⟩
        rw [(nI_eq hP (by omega)).mp e1, (nI_eq hK (by omega)).mp e2]; exact h
      have iff2 : sp_st v4 v5 m ↔ R + K ≤ m := by
        rw [eR, eK]
        refine ⟨fun ⟨P', K', e1, e2, h⟩ => ?_, fun h => ⟨R, K, rfl, rfl, h⟩⟩
        rw [(nI_eq hR (by omega)).mp e1, (nI_eq hK (by omega)).mp e2]; exact h
      by_cases d4 : n < P + K
      · refine br_y ?_ (q0 (fun z => by have := iff1.mp z.1; omega))
        rw [eP, eK]; exact (sub_lt hn hK hP).mpr d4
      refine br_n ?_ ?_
      · rw [eP, eK]; exact fun z => d4 ((sub_lt hn hK hP).mp z)
      by_cases d5 : R + K ≤ m
      · refine br_y ?_ (q1 (iff1.mpr (by omega)) (iff2.mpr d5))
        rw [eR, eK]; exact (le_sub hm hK hR).mpr d5
      · refine br_n ?_ (q0 (fun z => d5 (iff2.mp z.2)))
        rw [eR, eK]; exact fun z => d5 ((le_sub hm hK hR).mp z)
    have bad : ¬ (sp_st v2 v5 n ∧ sp_st v4 v5 m) → wp_X7_copy F (nI i) v2 (nI j) v4 v5 g (fun r2 g2 => iv_E F (-1000000013) r2 g2) := fun c => pre2 g _ rfl rfl (fun a b => absurd ⟨a, b⟩ c) (fun _ => ⟨rfl, h⟩)
    refine k_str (s2.trans s5) hn (fun c1 => br_n ne10 (k_str (t2.trans t5) hm (fun c2 => br_n ne10 ?_) (fun c2 => br_y rfl (bad (fun z => c2 z.2))))) (fun c1 => br_y rfl (bad (fun z => c1 z.1)))
    obtain ⟨P, K, eP, eK, hPK⟩ := id c1
    obtain ⟨R, K', eR, eK', hRK⟩ := id c2
    have : K' = K := (pl_eq (by omega) (by omega)).mp (eK'.symm.trans eK)
    subst this
    subst eP; subst eR; subst eK
    rw [pl_clamp (by omega), pl_clamp (by omega), pl_clamp (by omega)]
    refine ⟨pl_nn (by omega), pl_nn (by omega), pl_nn (by omega), by omega, by omega, fun g1 e1 => ?_⟩
    have S1 : sv_sm (fun k => k = 32 + 2 * j + 1) g g1 := by rw [e1]; exact sv_sm.rf.sa rfl
    refine pre2 g1 _ (S1 73 (by omega)) (S1 74 (by omega)) (fun _ _ => ?_) (fun c => absurd ⟨c1, c2⟩ c)
    have e75 : g1 75 = g 75 := S1 75 (by omega)
    -- second loop: back into the cells
    have back : ∀ m' k g', k ≤ K' → K' + 1 ≤ k + m' → sv_sm (fun k => k = 75 ∨ k = 80) g1 g' → (∀ q, q < K' → g' 80 q = g 75 (24 * i + P + q)) → (∀ p, g' 75 p = if 24 * j + R ≤ p ∧ p < 24 * j + R + k then g 75 (24 * i + P + (p - (24 * j + R))) else g 75 p) → wp_X7_copy_141 F (fun r2 g2 => iv_E F (nI K') r2 g2) m' (nI j) (nI R) (nI K') (nI k) g' := by
      intro m'
      induction m' with
      | zero => intro k g' h1 h2; omega
      | succ m' ih =>
        intro k g' h1 h2 S z1 z2
        have ej : (((24 * nI j) + nI R) + nI k : Int32) = nI (24 * j + R + k) := by rw [pl_lit 24, pk_mul, nI_add, nI_add]
        rw [wp_X7_copy_141, ej, pl_clamp (n := 24 * j + R + k) (by omega), pl_clamp (n := k) (by omega)]
        by_cases hk : K' ≤ k
        · have ek : k = K' := by omega
          subst ek
          refine br_y ((pl_le (by omega) (by omega)).mpr hk) ⟨rfl, ?_⟩
          refine h.sh (fun q hq => ?_) (fun q k1 k2 k3 => ?_)
          · have x73 : g' 73 = g 73 := by rw [S 73 (by omega), S1 73 (by omega)]
            have x74 : g' 74 = g 74 := by rw [S 74 (by omega), S1 74 (by omega)]
            have x32 : g' (32 + 2 * q) = g (32 + 2 * q) := by rw [S _ (by omega), S1 _ (by omega)]
            obtain ⟨u1, u2, u3, u4, u5⟩ := h.2.2.2.2.1 q hq
            refine ⟨by rw [x32, x73]; exact u1, by rw [x32, x74]; exact u2, fun p hp => ?_, by rw [x73]; exact u4, by rw [x74]; exact u5⟩
            rw [x73, z2]
            by_cases eq : q = j
            · subst eq
              have x33 : g' (33 + 2 * q) = va_cpy (g (32 + 2 * i + 1)) (g (32 + 2 * q + 1)) P R k := by
                rw [S _ (by omega), e1, show 33 + 2 * q = 32 + 2 * q + 1 by omega, sa_at]
              rw [x33]
              by_cases inr : R ≤ p ∧ p < R + k
              · have := s3 (P + (p - R)) (by omega)
                rw [pk_cpy_in (by omega) (by omega), if_pos (by omega), show 24 * i + P + (24 * q + p - (24 * q + R)) = 24 * i + (P + (p - R)) by omega, ← es]
                rw [show 33 + 2 * i = 32 + 2 * i + 1 by omega] at this
                exact this
              · rw [pk_cpy_out (by omega), if_neg (by omega)]
                have := u3 p hp
                rw [show 33 + 2 * q = 32 + 2 * q + 1 by omega] at this
                exact this
            · rw [if_neg (by omega), S _ (by omega), S1 _ (by omega)]; exact u3 p hp
          · rw [S q (by unfold iv_tp at k3; omega), S1 q (by omega)]
        · refine br_n (fun z => hk ((pl_le (by omega) (by omega)).mp z)) ⟨pl_in (by omega) (by omega), pl_in (by omega) (by omega), fun g2 e2 v6 e6 => ?_⟩
          rw [e6, nI_1]
          refine ih (k + 1) g2 (by omega) (by omega) (by rw [e2]; exact S.st (Or.inl rfl)) (fun q hq => ?_) (fun p => ?_)
          · rw [e2, st_ne (by omega)]; exact z1 q hq
          · rw [e2, z1 k (by omega)]
            by_cases ep : p = 24 * j + R + k
            · subst ep
              rw [st_at, if_pos (by omega)]
              congr 1; omega
            · rw [st_nk ep, z2]
              by_cases c : 24 * j + R ≤ p ∧ p < 24 * j + R + k
              · rw [if_pos c, if_pos (by omega)]
              · rw [if_neg c, if_neg (by omega)]
    have go : ∀ m' k g', k ≤ K' → K' + 1 ≤ k + m' → sv_sm (fun k => k = 80) g1 g' → (∀ q, q < k → g' 80 q = g 75 (24 * i + P + q)) → wp_X7_copy_104 F (fun r2 g2 => iv_E F (nI K') r2 g2) m' (nI i) (nI P) (nI j) (nI R) (nI K') (nI k) g' := by
      intro m'
      induction m' with
      | zero => intro k g' h1 h2; omega
      | succ m' ih =>
        intro k g' h1 h2 S z1
        have ej : (((24 * nI i) + nI P) + nI k : Int32) = nI (24 * i + P + k) := by rw [pl_lit 24, pk_mul, nI_add, nI_add]
        have x75 : g' 75 = g 75 := by rw [S 75 (by omega), e75]
        rw [wp_X7_copy_104, ej, pl_clamp (n := 24 * i + P + k) (by omega), pl_clamp (n := k) (by omega), x75]
        by_cases hk : K' ≤ k
        · have ek : k = K' := by omega
          subst ek
          refine br_y ((pl_le (by omega) (by omega)).mpr hk) ?_
          refine ⟨_, back (k + 1) 0 g' (Nat.zero_le _) (by omega) (S.mono (fun k z => Or.inr z)) z1 (fun p => ?_)⟩
          rw [x75, if_neg (by omega)]
        · refine br_n (fun z => hk ((pl_le (by omega) (by omega)).mp z)) ⟨pl_in (by omega) (by omega), pl_in (by omega) (by omega), fun g2 e2 v6 e6 => ?_⟩
          rw [e6, nI_1]
          refine ih (k + 1) g2 (by omega) (by omega) (by rw [e2]; exact S.st rfl) (fun q hq => ?_)
          rw [e2]
          by_cases eq : q = k
          · subst eq; exact st_at
          · rw [st_nk eq]; exact z1 q (by omega)
    exact ⟨_, go (K' + 1) 0 g1 (Nat.zero_le _) (by omega) sv_sm.rf (fun q hq => absurd hq (Nat.not_lt_zero q))⟩
  · exact br_n es (pre g _ rfl rfl (br_n mi' (br_y mj' (br_n es ⟨rfl, h⟩))))
end CL
