/-! CALLS THAT CHANGE NOW: turns, again, deal, rounds -/
theorem upd_cm {f : Nat → Int32} {k j : Nat} {x y : Int32} (h : k ≠ j) : upd (upd f k x) j y = upd (upd f j y) k x := by
  funext i
  by_cases e1 : i = j
  · subst e1; rw [pk_us, pk_un (fun z => h z.symm), pk_us]
  · by_cases e2 : i = k
    · subst e2; rw [pk_un e1, pk_us, pk_us]
    · rw [pk_un e1, pk_un e2, pk_un e2, pk_un e1]
section CB
variable {F : sv_Fr} {g : sv_Mg} {a B : Nat} {f : Nat → Int32}
theorem l_turns (h : Inv F g) (v w : Int32) : wp_X6_turns F v w g (fun r g1 => wp_X7_turns F v w g1 (fun r2 g2 => iv_E F r r2 g2)) := by
  have n2 := h.n2
  rcases iv_voter h v with hv | ⟨i, hi, rfl⟩
  · exact k_voter_n h.k8 hv (br_y rfl (r_voter_n h.n n2 hv (br_y rfl ⟨rfl, h⟩)))
  refine k_voter_y h.k8 n2 hi (br_n ne10 ?_)
  rcases iv_rng w (n := 5) (by omega) with hw | ⟨m, hm, rfl⟩
  · exact k_in_n hw (br_y rfl (r_voter_y h.n n2 hi (br_n ne10 (r_in_n hw (br_y rfl ⟨rfl, h⟩)))))
  refine k_rng_y 0 5 rfl rfl rfl (Nat.zero_le m) hm (by omega) (br_n ne10 ⟨pl_in (by omega) (by omega), ?_⟩)
  rw [pl_clamp (by omega)]
  intro v3 e3
  refine ⟨pl_in (by omega) (by omega), ?_⟩
  intro g1 e1
  have hne : ∀ p, p ≠ 11 + 6 * i → upd (g 59) (11 + 6 * i) (nI m) p = g 59 p := fun p hp => pk_un hp
  have en : sp_n (upd (g 59) (11 + 6 * i) (nI m)) = sp_n (g 59) := sp_n_cg (hne 1 (by omega))
  have g1ne : ∀ k, k ≠ 8 → g1 k = g k := fun k hk => by rw [e1, st_ne hk]
  obtain ⟨⟨⟨s1, s2, s3, s4, s5, s6, s7, s8, s9, s10⟩, c2, c3, c4⟩, c5, c6⟩ := h.C
  have hk1 : ∀ v, v < sp_n (g 59) → g1 8 v = upd (g 59) (11 + 6 * i) (nI m) (11 + 6 * v) := by
    intro v hv
    rw [e1]
    by_cases ev : v = i
    · subst ev; rw [st_at, pk_us]
    · rw [st_nk ev, hne _ (by omega)]; exact c2 v 0 hv (by omega)
  have hv1 : ∀ v, v < sp_n (g 59) → g1 13 v = upd (g 59) (11 + 6 * i) (nI m) (16 + 6 * v) := by
    intro v hv
    rw [g1ne 13 (by omega), hne _ (by omega)]; exact c5 v hv
  refine k_tally (a := 7) (f := upd (g 59) (11 + 6 * i) (nI m)) ?_ (by rw [en]; exact n2) (by rw [en]; exact hk1) (by rw [en]; exact hv1) ?_ (fun g2 h2 hh2 => ?_)
  · rw [g1ne 7 (by omega), en]; exact h.k8
  · rw [en]
    intro v hv
    rw [hne _ (by omega)]; exact h.W.1.2.2.1 v hv
  have g2ne : ∀ k, k ≠ 8 → k ≠ 14 → g2 k = g k := fun k hk hk2 => by rw [h2 k hk2, g1ne k hk]
  have hS : sv_sm (sp_fa 7) g g2 := fun k hk => g2ne k (fun z => hk (by unfold sp_fa; omega)) (fun z => hk (by unfold sp_fa; omega))
  have e59 : g2 59 = g 59 := hS 59 (by unfold sp_fa; omega)
  have C2 : cr F g2 7 (upd (g 59) (11 + 6 * i) (nI m)) := by
    refine ⟨⟨?_, fun v j hv hj => ?_, hh2, c4.cg h.L (hne _ (by omega)) (fun p hp => hne _ (by omega)) (fun k hk => g2ne k (by omega) (by omega))⟩, fun v hv => ?_, ?_⟩
    · unfold cr_s
      rw [g2ne 7 (by omega) (by omega)]
      refine ⟨?_, ?_, ?_, ?_, ?_, ?_, ?_, ?_, ?_, ?_⟩ <;> (rw [hne _ (by omega)]; assumption)
    · rw [en] at hv
      by_cases ej : j = 0
      · subst ej
        rw [h2 8 (by omega)]; exact hk1 v hv
      · rw [g2ne _ (by omega) (by omega), hne _ (by omega)]; exact c2 v j hv hj
    · rw [en] at hv
      rw [h2 13 (by omega)]; exact hv1 v hv
    · rw [g2ne 7 (by omega) (by omega), hne _ (by omega)]; exact c6
  refine r_voter_y (n := sp_n (g 59)) (by rw [e59]; exact h.n) n2 hi (br_n ne10 (r_rng_y 0 5 rfl rfl rfl (Nat.zero_le m) hm (by omega) (br_n ne10 (r_becomes (k := 11 + 6 * i) (by rw [pl_lit 11, pl_lit 6, pk_mul, nI_add]) (by omega) ⟨?_, ?_⟩))))
  · rw [e3, e59]; exact c2 i 0 hi (by omega)
  · exact iv_end (g2 := sv_st g2 59 (11 + 6 * i) (nI m)) h hS iv_T7 ((sv_sm.rf (g := g2)).st (Or.inl rfl)) (f' := upd (g 59) (11 + 6 * i) (nI m)) (by rw [upd_st, e59]) (h.W.wet (v := i) (j := 0) (k := m) hi (by omega) (show m < 6 by omega) rfl) C2 (hne _ (by omega))
/-! again -/
def sp_ag0 (f : Nat → Int32) : Nat → Int32 := upd (upd (upd f 7 (-1)) 3 0) 8 3
def sp_ag (f : Nat → Int32) : Nat → Int32 := sp_vt (sp_ag0 f) (fun _ => -1) (sp_n f)
theorem sp_ag0_ne {p : Nat} (h : p ≠ 3 ∧ p ≠ 7 ∧ p ≠ 8) : sp_ag0 f p = f p := by
  unfold sp_ag0; rw [pk_un (by omega), pk_un (by omega), pk_un (by omega)]
theorem sp_ag_ne {p : Nat} (h : p ≠ 3 ∧ p ≠ 7 ∧ p ≠ 8) (h2 : ∀ j, j < sp_n f → p ≠ 16 + 6 * j) : sp_ag f p = f p := by
  unfold sp_ag; rw [sp_vt_ne h2, sp_ag0_ne h]
theorem sp_ag_at {v : Nat} (hv : v < sp_n f) : sp_ag f (16 + 6 * v) = -1 := by unfold sp_ag; rw [sp_vt_at hv]
theorem sp_ag_n : sp_n (sp_ag f) = sp_n f := sp_n_cg (sp_ag_ne (by omega) (fun j _ => by omega))
theorem sp_ag_378 : sp_ag f 3 = 0 ∧ sp_ag f 7 = -1 ∧ sp_ag f 8 = 3 := by
  unfold sp_ag
  rw [sp_vt_ne (fun j _ => by omega), sp_vt_ne (fun j _ => by omega), sp_vt_ne (fun j _ => by omega)]
  unfold sp_ag0
  refine ⟨?_, ?_, ?_⟩
  · rw [pk_un (by omega), pk_us]
  · rw [pk_un (by omega), pk_un (by omega), pk_us]
  · rw [pk_us]
theorem sp_W.ag (hw : sp_W B f) : sp_W B (sp_ag f) := by
  have n2 := hw.n2
  have hne : ∀ {p : Nat}, (p ≠ 3 ∧ p ≠ 7 ∧ p ≠ 8) → (∀ j, j < sp_n f → p ≠ 16 + 6 * j) → sp_ag f p = f p := fun h1 h2 => sp_ag_ne h1 h2
  obtain ⟨x3, x7, x8⟩ := sp_ag_378 (f := f)
  have en := sp_ag_n (f := f)
  have et : sp_t (sp_ag f) = sp_t f := sp_t_cg (hne (by omega) (fun j _ => by omega))
  obtain ⟨⟨w1, w2⟩, w3, w4, ⟨w51, w52, w53⟩, w6, ⟨w71, w72⟩, ⟨r', d, w81, w82, w83, w84⟩, ⟨w91, w92⟩⟩ := hw.1
  refine ⟨⟨?_, ?_, ?_, ⟨?_, ?_, ?_⟩, ?_, ⟨?_, ?_⟩, ⟨0, d, x3, ?_, by omega, w84⟩, ?_⟩, hw.2.cg (hne (by omega) (fun j _ => by omega)) (fun q hq => hne (by omega) (fun j _ => by omega))⟩
  · rw [en, hne (by omega) (fun j _ => by omega)]; exact ⟨w1, w2⟩
  · rw [en]
    intro v' j' hv' hj'
    rw [hne (by omega) (fun j _ => by omega)]; exact w3 v' j' hv' hj'
  · rw [en]
    intro v' hv'
    exact Or.inl (sp_ag_at hv')
  · rw [hne (by omega) (fun j _ => by omega)]; exact w51
  · rw [hne (by omega) (fun j _ => by omega)]; exact w52
  · rw [hne (by omega) (fun j _ => by omega)]; exact w53
  · exact Or.inl x7
  · exact ⟨3, by omega, x8⟩
  · rw [hne (by omega) (fun j _ => by omega)]; exact w72
  · rw [hne (by omega) (fun j _ => by omega)]; exact w82
  · rw [et, hne (by omega) (fun j _ => by omega)]; exact ⟨w91, w92⟩
theorem k_startOver {Q : sv_Mg → Prop} (hL : sv_Lay F) (ha : sv_isC a) (hc : cr F g a f) (hw : sp_W B f) (q : ∀ g', sv_sm (sp_fa a) g g' → cr F g' a (sp_ag f) → Q g') : wp_X0_startOver F a g Q := by
  have a75 : a + 7 < 82 := by rcases ha with h | h | h <;> omega
  have n2 := hw.n2
  intro g1 e1 g2 e2 g3 e3
  have D3 : crD F g3 a (sp_ag0 f) (f 2) := by
    rw [e3, e2, e1]
    exact ((hc.fld (p := 13) (r := 7) hL ha (by unfold sp_pr; omega)).fld (p := 14) (r := 3) hL ha (by unfold sp_pr; omega)).fld (p := 17) (r := 8) hL ha (by unfold sp_pr; omega)
  have S3 : sv_sm (sp_fa a) g g3 := by
    rw [e3, e2, e1]
    exact ((sv_sm.rf.st ⟨by omega, by omega⟩).st ⟨by omega, by omega⟩).st ⟨by omega, by omega⟩
  refine k_fill (by omega) (fun g4 h4 f4 => k_fill (by omega) (fun g5 h5 f5 => ?_))
  have hne : ∀ k, k ≠ a + 6 → k ≠ a + 7 → g5 k = g3 k := fun k h1 h2 => by rw [h5 k h2, h4 k h1]
  refine q g5 (fun k hk => ?_) ?_
  · rw [hne k (fun z => hk (by unfold sp_fa; omega)) (fun z => hk (by unfold sp_fa; omega))]; exact S3 k hk
  have vne : ∀ p, (∀ j, j < sp_n f → p ≠ 16 + 6 * j) → sp_ag f p = sp_ag0 f p := fun p hp => sp_vt_ne hp
  obtain ⟨⟨⟨s1, s2, s3, s4, s5, s6, s7, s8, s9, s10⟩, c2, c3, c4⟩, c5, c6⟩ := D3
  have en0 : sp_n (sp_ag0 f) = sp_n f := sp_n_cg (sp_ag0_ne (by omega))
  refine ⟨⟨?_, fun v j hv hj => ?_, fun u hu => ?_, c4.cg hL (vne _ (fun j _ => by omega)) (fun p hp => vne _ (fun j _ => by omega)) (fun k hk => hne k (by omega) (by omega))⟩, fun v hv => ?_, ?_⟩
  · unfold cr_s
    rw [hne a (by omega) (by omega)]
    refine ⟨?_, ?_, ?_, ?_, ?_, ?_, ?_, ?_, ?_, ?_⟩ <;> (rw [vne _ (fun j _ => by omega)]; assumption)
  · rw [sp_ag_n] at hv
    rw [hne _ (by omega) (by omega), vne _ (fun j _ => by omega)]; exact c2 v j (by omega) hj
  · rw [f5 u hu]
    unfold sp_hv
    rw [sp_ag_n, sp_has_0 (fun k hk => ?_)]
    · rfl
    · rw [sp_ag_at hk]; exact fun z => pl_m1 (by omega) z.symm
  · rw [sp_ag_n] at hv
    rw [h5 _ (by omega), f4 v (by omega), sp_ag_at hv]
  · rw [hne a (by omega) (by omega), c6, sp_ag_ne (by omega) (fun j _ => by omega)]
theorem l_again (h : Inv F g) : wp_X6_again F g (fun r g1 => wp_X7_again F g1 (fun r2 g2 => iv_E F r r2 g2)) := by
  have n2 := h.n2
  intro v1 e1
  refine k_startOver h.L sv_C7 h.C h.W (fun g1 hS C1 => ?_)
  have e59 : g1 59 = g 59 := hS 59 (by unfold sp_fa; omega)
  intro v2 e2 g5 e5 g6 e6 g7 e7
  have er : v1 = v2 := by rw [e1, e2, e59]; exact h.C.1.1.2.2.2.2.2.2.1
  have S7 : sv_sm (fun k => k = 59) g1 g7 := by
    have h0 : sv_sm (fun k => k = 59) g1 g1 := sv_sm.rf
    rw [e7, e6, e5]; exact ((h0.st rfl).st rfl).st rfl
  have e7' : g7 59 = sp_ag0 (g 59) := by
    rw [e7, upd_st, e6, upd_st, e5, upd_st, e59]
    unfold sp_ag0
    rw [upd_cm (k := 3) (j := 7) (by omega)]
  have go : ∀ m i g', i ≤ sp_n (g 59) → sp_n (g 59) + 1 ≤ i + m → sv_sm (fun k => k = 59) g1 g' → g' 59 = sp_vt (sp_ag0 (g 59)) (fun _ => -1) i → wp_X7_again_32 F (fun r2 g2 => iv_E F v1 r2 g2) m v2 (nI i) g' := by
    intro m
    induction m with
    | zero => intro i g' h1 h2; omega
    | succ m ih =>
      intro i g' h1 h2 hS' hg
      rw [wp_X7_again_32]
      have hn : g' 59 1 = nI (sp_n (g 59)) := by rw [hg, sp_vt_ne (fun j _ => by omega), sp_ag0_ne (by omega)]; exact h.n
      by_cases hi : sp_n (g 59) ≤ i
      · have e : i = sp_n (g 59) := by omega
        refine br_y (by rw [hn]; exact (pl_le (by omega) (by omega)).mpr hi) ⟨er, ?_⟩
        exact iv_end h hS iv_T7 (hS'.mono (fun k z => Or.inl z)) (f' := sp_ag (g 59)) (by rw [hg, e]; rfl) h.W.ag C1 (sp_ag_ne (by omega) (fun j _ => by omega))
      · refine br_n (fun z => hi (by rw [hn] at z; exact (pl_le (by omega) (by omega)).mp z)) ?_
        refine r_put (j := 5) rfl (by omega) (by omega) ?_
        intro v3 e3
        rw [e3, nI_1]
        refine ih (i + 1) _ (by omega) (by omega) (hS'.st rfl) ?_
        rw [upd_st, hg, show 11 + 6 * i + 5 = 16 + 6 * i by omega]
        rfl
  exact ⟨_, go (sp_n (g 59) + 1) 0 g7 (Nat.zero_le _) (by omega) S7 e7'⟩
/-! deal -/
def sp_d1 (f : Nat → Int32) : Nat → Int32 := sp_come (upd f 0 (sp_z (sp_z (sp_z (sp_z (f 0)))))) (sp_rem (sp_dr (sp_z (f 0))) 6) (sp_rem (sp_dr (sp_z (sp_z (f 0)))) 10) (sp_rem (sp_dr (sp_z (sp_z (sp_z (f 0))))) 4) (sp_rem (sp_dr (sp_z (sp_z (sp_z (sp_z (f 0)))))) 100)
def sp_di (f : Nat → Int32) : Nat → Nat → Int32
  | 0 => f
  | k + 1 => sp_d1 (sp_di f k)
theorem sp_d1_n (hn : sp_n f < 10) : sp_n (sp_d1 f) = sp_n f + 1 := by
  have e : sp_n (upd f 0 (sp_z (sp_z (sp_z (sp_z (f 0)))))) = sp_n f := sp_n_cg (pk_un (by omega))
  unfold sp_d1
  rw [(sp_come_n (by rw [e]; exact hn)).2, e]
theorem sp_d1_10 (hn : sp_n f < 10) : sp_d1 f 10 = f 10 := by
  unfold sp_d1
  rw [sp_come_ne (by omega) (by omega), pk_un (by omega)]
theorem sp_W.d1 (hw : sp_W B f) (hn : sp_n f < 10) : sp_W B (sp_d1 f) := by
  have e : sp_n (upd f 0 (sp_z (sp_z (sp_z (sp_z (f 0)))))) = sp_n f := sp_n_cg (pk_un (by omega))
  unfold sp_d1
  obtain ⟨k1, h1, e1⟩ := sp_rem_ok (sp_z (f 0)) (m := 6) (by omega) (by omega)
  obtain ⟨k2, h2, e2⟩ := sp_rem_ok (sp_z (sp_z (f 0))) (m := 10) (by omega) (by omega)
  obtain ⟨k3, h3, e3⟩ := sp_rem_ok (sp_z (sp_z (sp_z (f 0)))) (m := 4) (by omega) (by omega)
  obtain ⟨k4, h4, e4⟩ := sp_rem_ok (sp_z (sp_z (sp_z (sp_z (f 0))))) (m := 100) (by omega) (by omega)
  rw [show (6 : Int32) = nI 6 from rfl, show (10 : Int32) = nI 10 from rfl, show (4 : Int32) = nI 4 from rfl, show (100 : Int32) = nI 100 from rfl, e1, e2, e3, e4]
  exact hw.seed.come (by rw [e]; exact hn) h1 h2 h3 h4
theorem sp_di_n : ∀ {k : Nat}, sp_n f + k ≤ 10 → sp_n (sp_di f k) = sp_n f + k
  | 0, _ => rfl
  | k + 1, h => by
    have := sp_di_n (k := k) (by omega)
    rw [sp_di, sp_d1_n (by omega), this]; omega
theorem sp_W.di (hw : sp_W B f) : ∀ {k : Nat}, sp_n f + k ≤ 10 → sp_W B (sp_di f k)
  | 0, _ => hw
  | k + 1, h => (sp_W.di hw (k := k) (by omega)).d1 (by rw [sp_di_n (by omega)]; omega)
theorem sp_di_10 : ∀ {k : Nat}, sp_n f + k ≤ 10 → sp_di f k 10 = f 10
  | 0, _ => rfl
  | k + 1, h => by rw [sp_di, sp_d1_10 (by rw [sp_di_n (by omega)]; omega), sp_di_10 (by omega)]
theorem k_drawn {Q : sv_Mg → Prop} (hL : sv_Lay F) (ha : sv_isC a) (hc : cr F g a f) (hw : sp_W B f) (n2 : sp_n f < 10) (q : ∀ g', sv_sm (sp_fa a) g g' → cr F g' a (sp_d1 f) → Q g') : wp_X0_enterDrawn F a g Q := by
  have ra : sp_fa a a := ⟨by omega, by omega⟩
  have step : ∀ {g' : sv_Mg} {f' : Nat → Int32}, cr F g' a f' → cr F (sv_st g' a 16 (sp_z (f' 0))) a (upd f' 0 (sp_z (f' 0))) := by
    intro g' f' hc'
    have := hc'.fld (p := 16) (r := 0) (x := sp_z (f' 0)) hL ha (by unfold sp_pr; omega)
    unfold cr
    rw [pk_un (by omega)]; exact this
  have c1 := step hc
  have c2 := step c1
  have c3 := step c2
  have c4 := step c3
  rw [pk_us] at c2 c3 c4
  rw [pk_us] at c3 c4
  rw [pk_us] at c4
  have x2 : (upd (upd f 0 (sp_z (f 0))) 0 (sp_z (sp_z (f 0)))) = upd f 0 (sp_z (sp_z (f 0))) := upd_upd
  refine k_draw hc.1.1.2.2.2.2.2.2.2.1 ?_
  intro v1 e1
  refine k_draw (z := sp_z (f 0)) st_at ?_
  intro v2 e2
  refine k_draw (z := sp_z (sp_z (f 0))) st_at ?_
  intro v3 e3
  refine k_draw (z := sp_z (sp_z (sp_z (f 0)))) st_at ?_
  intro v4 e4
  rw [upd_upd, upd_upd, upd_upd] at c4
  have en : sp_n (upd f 0 (sp_z (sp_z (sp_z (sp_z (f 0)))))) = sp_n f := sp_n_cg (pk_un (by omega))
  refine k_enter hL ha c4 hw.seed (by rw [en]; exact n2) (fun g' h1 h2 => ?_)
  refine q g' ?_ ?_
  · have h0 : sv_sm (sp_fa a) g g := sv_sm.rf
    exact ((((h0.st ra).st ra).st ra).st ra).tr h1
  · rw [e1, e2, e3, e4] at h2
    exact h2
theorem l_deal (h : Inv F g) (n : Int32) : wp_X6_deal F n g (fun r g1 => wp_X7_deal F n g1 (fun r2 g2 => iv_E F r r2 g2)) := by
  have n2 := h.n2
  rcases iv_rng2 n (l := 1) (n := 10) (by omega) (by omega) with hn | ⟨k, hk1, hk2, rfl⟩
  · exact k_in_n hn (br_y rfl (r_in_n hn (br_y rfl ⟨rfl, h⟩)))
  refine k_rng_y 1 10 rfl rfl rfl hk1 hk2 (by omega) (br_n ne10 ?_)
  intro v2 e2
  obtain ⟨N, hN⟩ : ∃ N, N = if 10 - sp_n (g 59) < k then 10 - sp_n (g 59) else k := ⟨_, rfl⟩
  have hNk : N ≤ k ∧ sp_n (g 59) + N ≤ 10 ∧ (N = k ∨ sp_n (g 59) + N = 10) := by
    rw [hN]; split <;> omega
  have e2 : v2 = nI N := by
    rw [e2, h.k8, pl_lit 10, pk_sub (by omega), hN]
    by_cases c : 10 - sp_n (g 59) < k
    · rw [if_pos c, if_pos ((pl_lt (by omega) (by omega)).mpr c)]
    · rw [if_neg c, if_neg (fun z => c ((pl_lt (by omega) (by omega)).mp z))]
  have ref : ∀ g1, sv_sm (sp_fa 7) g g1 → cr F g1 7 (sp_di (g 59) N) → wp_X7_deal F (nI k) g1 (fun r2 g2 => iv_E F v2 r2 g2) := by
    intro g1 hS C1
    have e59 : g1 59 = g 59 := hS 59 (by unfold sp_fa; omega)
    refine r_rng_y 1 10 rfl rfl rfl hk1 hk2 (by omega) (br_n ne10 ?_)
    have go : ∀ m i g', i ≤ N → N + 1 ≤ i + m → sv_sm (fun k => k = 59) g1 g' → g' 59 = sp_di (g 59) i → wp_X7_deal_15 F (fun r2 g2 => iv_E F v2 r2 g2) m (nI k) (nI i) g' := by
      intro m
      induction m with
      | zero => intro i g' h1 h2; omega
      | succ m ih =>
        intro i g' h1 h2 hS' hg
        rw [wp_X7_deal_15]
        have en := sp_di_n (f := g 59) (k := i) (by omega)
        have hW := h.W.di (k := i) (by omega)
        have hn1 : g' 59 1 = nI (sp_n (g 59) + i) := by rw [hg, hW.n, en]
        have fin : i = N → iv_E F v2 (nI i) g' := by
          intro e
          refine ⟨by rw [e2, e], iv_end h hS iv_T7 (hS'.mono (fun k z => Or.inl z)) (f' := sp_di (g 59) N) (by rw [hg, e]) (h.W.di (by omega)) C1 (sp_di_10 (by omega))⟩
        by_cases hi : N ≤ i
        · have e : i = N := by omega
          by_cases hk : k ≤ i
          · exact br_y ((pl_le (by omega) (by omega)).mpr hk) (fin e)
          · refine br_n (fun z => hk ((pl_le (by omega) (by omega)).mp z)) (br_y ?_ (fin e))
            rw [hn1, pl_lit 10]
            exact (pl_le (by omega) (by omega)).mpr (by omega)
        · refine br_n (fun z => absurd ((pl_le (by omega) (by omega)).mp z) (by omega)) (br_n ?_ ?_)
          · rw [hn1, pl_lit 10]
            exact fun z => absurd ((pl_le (by omega) (by omega)).mp z) (by omega)
          · refine r_draw ?_
            intro v3 e3
            refine r_draw ?_
            intro v4 e4
            refine r_draw ?_
            intro v5 e5
            refine r_draw ?_
            rw [st_at, st_at, st_at] at *
            have xx : ∀ z1 z2 z3 z4, (sv_st (sv_st (sv_st (sv_st g' 59 0 z1) 59 0 z2) 59 0 z3) 59 0 z4) 59 = upd (sp_di (g 59) i) 0 z4 := by
              intro z1 z2 z3 z4
              rw [upd_st, upd_st, upd_st, upd_st, upd_upd, upd_upd, upd_upd, hg]
            have en4 : ∀ z4, sp_n (upd (sp_di (g 59) i) 0 z4) = sp_n (g 59) + i := fun z4 => (sp_n_cg (pk_un (by omega))).trans en
            refine r_comes ?_ ?_ (fun g2 h2' e2' => ?_)
            · rw [xx, en4, pk_un (by omega), ← hg]; exact hn1
            · rw [xx, en4]; omega
            · intro v6 e6
              rw [e6, nI_1]
              have h0 : sv_sm (fun k => k = 59) g1 g' := hS'
              refine ih (i + 1) g2 (by omega) (by omega) (((((h0.st rfl).st rfl).st rfl).st rfl).tr h2') ?_
              rw [e2', xx, e3, e4, e5, hg]
              rfl
    exact ⟨_, go (N + 1) 0 g1 (Nat.zero_le _) (by omega) sv_sm.rf e59⟩
  rw [e2]
  have go : ∀ m i g', i ≤ N → N + 1 ≤ i + m → sv_sm (sp_fa 7) g g' → cr F g' 7 (sp_di (g 59) i) → wp_X6_deal_30 F (fun r g1 => wp_X7_deal F (nI k) g1 (fun r2 g2 => iv_E F r r2 g2)) m (nI N) (nI i) g' := by
    intro m
    induction m with
    | zero => intro i g' h1 h2; omega
    | succ m ih =>
      intro i g' h1 h2 hS hc
      rw [wp_X6_deal_30]
      by_cases hi : N ≤ i
      · have e : i = N := by omega
        refine br_y ((pl_le (by omega) (by omega)).mpr hi) ?_
        rw [← e2]
        exact ref g' hS (by rw [← e]; exact hc)
      · refine br_n (fun z => hi ((pl_le (by omega) (by omega)).mp z)) ?_
        refine k_drawn h.L sv_C7 hc (h.W.di (by omega)) (by rw [sp_di_n (by omega)]; omega) (fun g2 h3 h4 => ?_)
        intro v3 e3
        rw [e3, nI_1]
        exact ih (i + 1) g2 (by omega) (by omega) (hS.tr h3) h4
  exact ⟨_, go (N + 1) 0 g (Nat.zero_le _) (by omega) sv_sm.rf h.C⟩
/-! rounds -/
theorem sp_W.at (hw : sp_W B f) : ∃ d, f 2 = nI d ∧ d ≤ B ∧ sp_W d f := by
  obtain ⟨⟨w12, w3, w4, w5, w6, w7, ⟨r, d, w81, w82, w83, w84⟩, w9⟩, wt⟩ := hw
  exact ⟨d, w82, w84, ⟨w12, w3, w4, w5, w6, w7, ⟨r, d, w81, w82, w83, Nat.le_refl _⟩, w9⟩, wt⟩
theorem sp_round_10 (hw : sp_W B f) : sp_round f 10 = f 10 := by
  unfold sp_round
  split
  · rw [pk_un (by omega)]
  · rw [pk_un (by omega), sp_votes_ne (by omega) (fun j _ => by omega) (fun j _ => by omega)]
theorem sp_it_10 (hw : sp_W B f) : ∀ k, sp_it f k 10 = f 10
  | 0 => rfl
  | k + 1 => (sp_round_10 (hw.it k)).trans (sp_it_10 hw k)
theorem l_rounds (h : Inv F g) (n : Int32) : wp_X6_rounds F n g (fun r g1 => wp_X7_rounds F n g1 (fun r2 g2 => iv_E F r r2 g2)) := by
  have n2 := h.n2
  rcases iv_rng2 n (l := 1) (n := 100) (by omega) (by omega) with hn | ⟨k, hk1, hk2, rfl⟩
  · exact k_in_n hn (br_y rfl (r_in_n hn (br_y rfl ⟨rfl, h⟩)))
  refine k_rng_y 1 100 rfl rfl rfl hk1 hk2 (by omega) (br_n ne10 ?_)
  obtain ⟨d, hd, hdB, hWd⟩ := h.W.at
  obtain ⟨N, hN⟩ : ∃ N, N = if 9999 - d < k then 9999 - d else k := ⟨_, rfl⟩
  have hNd : d + N ≤ 9999 := by rw [hN]; split <;> omega
  have k15 : g 7 15 = nI d := h.C.2.2.trans hd
  have eN : (if (9999 - (g 7 15)) < nI k then (9999 - (g 7 15)) else nI k) = nI N := by
    rw [k15, pl_lit 9999, pk_sub (by omega), hN]
    by_cases c : 9999 - d < k
    · rw [if_pos c, if_pos ((pl_lt (by omega) (by omega)).mpr c)]
    · rw [if_neg c, if_neg (fun z => c ((pl_lt (by omega) (by omega)).mp z))]
  refine k_go eN h.L sv_C7 h.C hWd (by omega) (fun g1 hS C1 => ?_)
  have e59 : g1 59 = g 59 := hS 59 (by unfold sp_fr; omega)
  refine r_rng_y 1 100 rfl rfl rfl hk1 hk2 (by omega) (br_n ne10 (r_within ?_))
  have eM : (if (9999 - (g1 59 2)) < 0 then 0 else if nI k < (9999 - (g1 59 2)) then nI k else (9999 - (g1 59 2))) = nI N := by
    rw [e59, hd, pl_lit 9999, pk_sub (by omega), if_neg (pl_nn (by omega)), hN]
    by_cases c : k < 9999 - d
    · rw [if_pos ((pl_lt (by omega) (by omega)).mpr c), if_neg (by omega)]
    · rw [if_neg (fun z => c ((pl_lt (by omega) (by omega)).mp z))]
      by_cases c2 : 9999 - d < k
      · rw [if_pos c2]
      · rw [if_neg c2]; congr 1; omega
  refine r_go (B := d) eM (by rw [e59]; exact hWd) (by omega) (fun g2 h2 e2 => ⟨?_, ?_⟩)
  · rw [C1.1.1.2.2.2.2.2.1, e2, e59]
  · rw [e59] at e2
    exact iv_end h hS iv_T73 (h2.mono (fun k z => by unfold sp_t4 at z; omega)) e2 ((hWd.it N).up (by omega)) C1 (sp_it_10 hWd N)
end CB
