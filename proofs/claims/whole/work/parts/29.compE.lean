/-! ROUNDS, THOUGHTS -/
section KE
variable {F : sv_Fr} {g : sv_Mg} {a B : Nat} {f : Nat → Int32}
def sp_fr (a : Nat) : Nat → Prop := fun k => k = 3 ∨ (a ≤ k ∧ k ≤ a + 7)
theorem k_round_e {g0 : sv_Mg} {d : Int32} {Q : sv_Mg → Prop} (hL : sv_Lay F) (ha : sv_isC a) (hc : cr5 F g a f) (hw : sp_W B f) (h7 : f 7 = -1) (hv6 : ∀ j, j < sp_n f → g (a + 6) j = sp_for f j) (hd : g a 15 = d) (hS : sv_sm (sp_fr a) g0 g) (q : ∀ g', sv_sm (sp_fr a) g0 g' → crD F g' a (sp_votes f) d → Q g') :
    ∀ g_2, g_2 = sv_st g a 14 ((g a 14) + 1) → wp_X0_tally F a g_2 (fun g_3 => wp_X0_elected F a g_3 (fun r_5 g_4 => ∀ g_6, g_6 = sv_st g_4 a 13 r_5 → wp_X0_smokeNow F a g_6 (fun r_8 g_7 => ∀ g_9, g_9 = sv_st g_7 a 17 r_8 → wp_X0_draw F a g_9 (fun r_11 g_10 => ∀ g_12, g_12 = sv_st g_10 a 12 (r_11 - r_11 / 4 * 4) → wp_X0_wetPapers F a g_12 (fun g_13 => Q g_13))))) := by
  have n2 := hw.n2
  have a75 : a + 7 < 82 := by rcases ha with h | h | h <;> omega
  obtain ⟨s1, s2, s3, s4, s5, s6, s7, s8, s9, s10⟩ := hc.1
  intro g2 e2
  have g2ne : ∀ k, k ≠ a → g2 k = g k := fun k hk => by rw [e2, st_ne hk]
  have vn : ∀ p, p ≠ 3 → (∀ j, j < sp_n f → p ≠ 16 + 6 * j) → sp_v1 f p = f p := fun p h1 h2 => sp_v1_ne h1 h2
  have n1 : sp_v1 f 1 = nI (sp_n (sp_v1 f)) := by rw [sp_v1_n, vn 1 (by omega) (fun j _ => by omega)]; exact hw.n
  have h28 : g2 a 8 = nI (sp_n (sp_v1 f)) := by rw [e2, st_nk (by omega), s1, sp_v1_n]; exact hw.n
  have hk2 : ∀ v, v < sp_n (sp_v1 f) → g2 (a + 1) v = sp_v1 f (11 + 6 * v) := fun v hv => by
    rw [sp_v1_n] at hv
    rw [g2ne _ (by omega), vn _ (by omega) (fun j _ => by omega)]
    exact hc.2.1.at 0 _ _ hv (by omega) (by omega) (by omega)
  have hv2 : ∀ v, v < sp_n (sp_v1 f) → g2 (a + 6) v = sp_v1 f (16 + 6 * v) := fun v hv => by
    rw [sp_v1_n] at hv
    rw [g2ne _ (by omega), sp_v1_at hv]; exact hv6 v hv
  have ok2 : ∀ v, v < sp_n (sp_v1 f) → sp_v1 f (16 + 6 * v) = -1 ∨ ∃ k, k < sp_n (sp_v1 f) ∧ sp_v1 f (16 + 6 * v) = nI k := fun v hv => by
    rw [sp_v1_n] at hv ⊢
    rw [sp_v1_at hv]; exact sp_for_ok hw hv
  refine k_tally (f := sp_v1 f) h28 (by rw [sp_v1_n]; exact n2) hk2 hv2 ok2 (fun g3 h3 hh3 => ?_)
  have g3a : g3 a = g2 a := h3 a (by omega)
  have D3 : crD F g3 a (sp_v1 f) d := by
    refine ⟨⟨?_, fun v j hv hj => ?_, hh3, hc.2.2.2.cg hL (vn 10 (by omega) (fun j _ => by omega)) (fun p hp => vn p (by omega) (fun j _ => by omega)) (fun k hk => ?_)⟩, fun v hv => ?_, ?_⟩
    · unfold cr_s
      rw [g3a, e2]
      refine ⟨?_, ?_, ?_, ?_, ?_, ?_, ?_, ?_, ?_, ?_⟩
      · rw [st_nk (by omega), vn _ (by omega) (fun j _ => by omega)]; exact s1
      · rw [st_nk (by omega), vn _ (by omega) (fun j _ => by omega)]; exact s2
      · rw [st_nk (by omega), vn _ (by omega) (fun j _ => by omega)]; exact s3
      · rw [st_nk (by omega), vn _ (by omega) (fun j _ => by omega)]; exact s4
      · rw [st_nk (by omega), vn _ (by omega) (fun j _ => by omega)]; exact s5
      · rw [st_nk (by omega), vn _ (by omega) (fun j _ => by omega)]; exact s6
      · rw [st_at, s7]; unfold sp_v1; rw [pk_us]
      · rw [st_nk (by omega), vn _ (by omega) (fun j _ => by omega)]; exact s8
      · rw [st_nk (by omega), vn _ (by omega) (fun j _ => by omega)]; exact s9
      · rw [st_nk (by omega), vn _ (by omega) (fun j _ => by omega)]; exact s10
    · rw [sp_v1_n] at hv
      rw [h3 _ (by omega), g2ne _ (by omega), vn _ (by omega) (fun j _ => by omega)]
      exact hc.2.1 v j hv hj
    · rw [h3 _ (by omega), g2ne _ (by omega)]
    · rw [h3 _ (by omega)]; exact hv2 v hv
    · rw [g3a, e2, st_nk (by omega)]; exact hd
  have S3 : sv_sm (sp_fr a) g0 g3 := by
    have : sv_sm (sp_fr a) g0 g2 := by rw [e2]; exact hS.st (Or.inr ⟨by omega, by omega⟩)
    exact this.tr (h3.mono (fun k z => Or.inr (by omega)))
  have kk3 : ∀ v, v < sp_n (sp_v1 f) → g3 (a + 1) v = sp_v1 f (11 + 6 * v) := fun v hv => D3.1.2.1.at 0 _ _ hv (by omega) (by omega) (by omega)
  refine k_elected (f := sp_v1 f) (by rw [D3.1.1.1]; exact n1) (by rw [sp_v1_n]; exact n2) kk3 hh3 ?_
  intro g6 e6
  have D6 : crD F g6 a (sp_v2 f) d := by
    have := D3.fld (p := 13) (r := 7) (x := sp_el (sp_v1 f) (sp_n f) (f 7)) hL ha (by unfold sp_pr; omega)
    rw [e6, sp_v1_n, ← h7]
    exact this
  have S6 : sv_sm (sp_fr a) g0 g6 := by rw [e6]; exact S3.st (Or.inr ⟨by omega, by omega⟩)
  have v2n : ∀ p, p ≠ 7 → sp_v2 f p = sp_v1 f p := fun p hp => by unfold sp_v2; rw [pk_un hp]
  have n6 : sp_n (sp_v2 f) = sp_n f := (sp_n_cg (v2n 1 (by omega))).trans sp_v1_n
  refine k_smoke (f := f) (T := sp_for f) (c := sp_v2 f 7) (n := sp_n f) ?_ n2 D6.1.1.2.2.2.2.2.1 ?_ ?_ ?_ (fun v hv => ?_) (fun v hv => sp_for_ok hw hv) (fun v hv => ?_) ?_
  · rw [D6.1.1.1, v2n 1 (by omega), vn 1 (by omega) (fun j _ => by omega)]; exact hw.n
  · unfold sp_v2; rw [pk_us]; exact sp_el_ok (Nat.le_refl _) (Or.inl h7)
  · rw [D6.1.1.2.1, v2n _ (by omega), vn _ (by omega) (fun j _ => by omega)]
  · rw [D6.1.1.2.2.1, v2n _ (by omega), vn _ (by omega) (fun j _ => by omega)]
  · rw [D6.2.1 v (by omega), v2n _ (by omega), sp_v1_at hv]
  · have := D6.1.2.1 v 4 (by omega) (by omega)
    rw [show a + 1 + 4 = a + 5 by omega, show 11 + 6 * v + 4 = 15 + 6 * v by omega] at this
    rw [this, v2n _ (by omega), vn _ (by omega) (fun j _ => by omega)]
  intro g9 e9
  have D9 : crD F g9 a (sp_v3 f) d := by
    rw [e9]
    exact D6.fld (p := 17) (r := 8) hL ha (by unfold sp_pr; omega)
  have S9 : sv_sm (sp_fr a) g0 g9 := by rw [e9]; exact S6.st (Or.inr ⟨by omega, by omega⟩)
  have z9 : g9 a 16 = f 0 := by
    rw [D9.1.1.2.2.2.2.2.2.2.1]
    unfold sp_v3
    rw [pk_un (by omega), v2n _ (by omega), vn _ (by omega) (fun j _ => by omega)]
  refine k_draw z9 ?_
  intro g12 e12
  have D12 : crD F g12 a (sp_v4 f) d := by
    rw [e12]
    exact (D9.fld (p := 16) (r := 0) hL ha (by unfold sp_pr; omega)).fld (p := 12) (r := 9) hL ha (by unfold sp_pr; omega)
  have S12 : sv_sm (sp_fr a) g0 g12 := by rw [e12]; exact (S9.st (Or.inr ⟨by omega, by omega⟩)).st (Or.inr ⟨by omega, by omega⟩)
  refine k_wets (f := sp_v4 f) (T := sp_for f) (d := d) hL ha ?_ (by rw [sp_v4_n]; exact n2) D12 (fun v hv => ?_) (fun v hv => ?_) (fun g13 h13 D13 => ?_)
  · rw [sp_v4_n, sp_v4_ne (by omega), vn 1 (by omega) (fun j _ => by omega)]; exact hw.n
  · rw [sp_v4_n] at hv
    rw [sp_v4_ne (by omega), sp_v1_at hv]
  · rw [sp_v4_n] at hv ⊢
    exact sp_for_ok hw hv
  · rw [sp_v4_n] at D13
    exact q g13 (S12.tr (h13.mono (fun k z => Or.inr z))) D13
theorem k_round_l {g0 : sv_Mg} {d : Int32} {Q : sv_Mg → Prop} (hL : sv_Lay F) (ha : sv_isC a) (hw : sp_W B f) (hB : B < 90000) (h7 : f 7 = -1) (q : ∀ g', sv_sm (sp_fr a) g0 g' → crD F g' a (sp_votes f) d → Q g') :
    ∀ m i g, i ≤ sp_n f → sp_n f + 1 ≤ i + m → cr5 F g a f → g a 15 = d → sv_sm (sp_fr a) g0 g → (∀ j, j < i → g (a + 6) j = sp_for f j) → wp_X0_round_38 F a Q m (sp_runs f) (sp_o (sp_mo f (sp_set f))) (nI i) g := by
  have n2 := hw.n2
  have a75 : a + 7 < 82 := by rcases ha with h | h | h <;> omega
  have a3 : 3 < a := by rcases ha with h | h | h <;> omega
  intro m
  induction m with
  | zero => intro i g h1 h2; omega
  | succ m ih =>
    intro i g h1 h2 hc hd hS hv
    rw [wp_X0_round_38]
    have e8 := hc.n hw
    by_cases hi : sp_n f ≤ i
    · refine br_y (by rw [e8]; exact (pl_le (by omega) (by omega)).mpr hi) ?_
      exact k_round_e hL ha hc hw h7 (fun j hj => hv j (by omega)) hd hS q
    · refine br_n (fun z => hi (by rw [e8] at z; exact (pl_le (by omega) (by omega)).mp z)) ?_
      refine k_for hL ha hc hw hB (by omega) (fun g1 h1' => ⟨pl_in (by omega) (by omega), ?_⟩)
      rw [pl_clamp (by omega)]
      intro g2 e2 v3 e3
      rw [e3, nI_1]
      have g2ne : ∀ k, k ≠ a + 6 → k ≠ 3 → g2 k = g k := fun k hk hk3 => by rw [e2, st_ne hk]; exact h1' k hk3
      refine ih (i + 1) g2 (by omega) (by omega) (hc.mv hL (fun k hk => g2ne k (by omega) (by omega))) (by rw [g2ne _ (by omega) (by omega)]; exact hd) ?_ (fun j hj => ?_)
      · rw [e2]; exact (hS.tr (h1'.mono (fun k z => Or.inl z))).st (Or.inr ⟨by omega, by omega⟩)
      · rw [e2]
        by_cases ej : j = i
        · subst ej; exact st_at
        · rw [st_nk ej, h1' _ (by omega)]; exact hv j (by omega)
theorem k_round {Q : sv_Mg → Prop} (hL : sv_Lay F) (ha : sv_isC a) (hc : cr F g a f) (hw : sp_W B f) (hB : B < 90000) (q : ∀ g', sv_sm (sp_fr a) g g' → cr F g' a (sp_round f) → Q g') : wp_X0_round F a g Q := by
  have n2 := hw.n2
  have a75 : a + 7 < 82 := by rcases ha with h | h | h <;> omega
  intro g1 e1
  have s13 : g1 a 13 = f 7 := by rw [e1, st_nk (by omega)]; exact hc.1.1.2.2.2.2.2.1
  have s8 : g1 a 8 = nI (sp_n f) := by rw [e1, st_nk (by omega)]; exact hc.1.n hw
  have s15 : g1 a 15 = f 2 + 1 := by rw [e1, st_at, hc.2.2]
  have S1 : sv_sm (sp_fr a) g g1 := by rw [e1]; exact sv_sm.rf.st (Or.inr ⟨by omega, by omega⟩)
  have g1ne : ∀ k, k ≠ a → g1 k = g k := fun k hk => by rw [e1, st_ne hk]
  have C1 : cr5 F g1 a f := by
    obtain ⟨⟨s1, s2, s3, s4, s5, s6, s7, s8, s9, s10⟩, h2, h3, h4⟩ := hc.1
    refine ⟨?_, fun v j hv hj => ?_, fun u hu => ?_, h4.cg hL rfl (fun p _ => rfl) (fun k hk => g1ne k (by omega))⟩
    · rw [e1]
      refine ⟨?_, ?_, ?_, ?_, ?_, ?_, ?_, ?_, ?_, ?_⟩ <;> (rw [st_nk (by omega)]; assumption)
    · rw [g1ne _ (by omega)]; exact h2 v j hv hj
    · rw [g1ne _ (by omega)]; exact h3 u hu
  have D1 : crD F g1 a f (f 2 + 1) := ⟨C1, fun v hv => by rw [g1ne _ (by omega)]; exact hc.2.1 v hv, s15⟩
  have stop : 0 ≤ f 7 ∨ f 1 ≤ 0 → Q g1 := by
    intro hs
    refine q g1 S1 ?_
    unfold sp_round
    rw [if_pos hs]
    have := D1.day hL s15
    unfold cr
    rw [pk_us]
    exact this
  rw [s13, s8]
  rcases (show sp_v1n (sp_n f) (f 7) from hw.1.2.2.2.2.1).ge n2 with ⟨c1, c2, c3⟩ | ⟨c1, c2, c3⟩
  · refine br_y c1 ?_
    by_cases h0 : sp_n f = 0
    · refine br_y ((pl_eq0 (by omega)).mpr h0) (stop (Or.inr ?_))
      rw [hw.n, h0]; decide
    · refine br_n (fun z => h0 ((pl_eq0 (by omega)).mp z)) ?_
      refine k_runs C1 hw (k_leader C1 hw ⟨_, k_round_l hL ha hw hB c1 (fun g' h1 h2 => ?_) (sp_n f + 1) 0 g1 (Nat.zero_le _) (by omega) C1 s15 S1 (fun j hj => absurd hj (Nat.not_lt_zero j))⟩)
      refine q g' h1 ?_
      have hs : ¬ (0 ≤ f 7 ∨ f 1 ≤ 0) := by
        intro z
        rcases z with z | z
        · exact c3 z
        · rw [hw.n] at z
          exact h0 (Nat.le_zero.mp ((pl_le (b := 0) (by omega) (by omega)).mp z))
      unfold sp_round
      rw [if_neg hs]
      have e2 : sp_votes f 2 = f 2 := sp_votes_ne (by omega) (fun j _ => by omega) (fun j _ => by omega)
      rw [e2]
      unfold cr
      rw [pk_us]
      exact h2.day hL h2.2.2
  · exact br_n c1 (stop (Or.inl c3))
/-- so many rounds -/
def sp_it (f : Nat → Int32) : Nat → Nat → Int32
  | 0 => f
  | k + 1 => sp_round (sp_it f k)
theorem sp_W.it (hw : sp_W B f) : ∀ k, sp_W (B + k) (sp_it f k)
  | 0 => hw
  | k + 1 => (sp_W.it hw k).round
theorem sp_it_n (hw : sp_W B f) : ∀ k, sp_n (sp_it f k) = sp_n f
  | 0 => rfl
  | k + 1 => (sp_round_n (hw.it k)).trans (sp_it_n hw k)
theorem sp_it_71 (hw : sp_W B f) {p : Nat} (hp : 71 ≤ p) : ∀ k, sp_it f k p = f p
  | 0 => rfl
  | k + 1 => (sp_round_71 (hw.it k) hp).trans (sp_it_71 hw hp k)
theorem k_go {n : Nat} {w : Int32} {Q : sv_Mg → Prop} (hwn : w = nI n) (hL : sv_Lay F) (ha : sv_isC a) (hc : cr F g a f) (hw : sp_W B f) (hB : B + n < 90000) (q : ∀ g', sv_sm (sp_fr a) g g' → cr F g' a (sp_it f n) → Q g') : wp_X0_go F a w g Q := by
  subst hwn
  have go : ∀ m i g', i ≤ n → n + 1 ≤ i + m → sv_sm (sp_fr a) g g' → cr F g' a (sp_it f i) → wp_X0_go_2 F a Q m (nI n) (nI i) g' := by
    intro m
    induction m with
    | zero => intro i g' h1 h2; omega
    | succ m ih =>
      intro i g' h1 h2 hS hc'
      rw [wp_X0_go_2]
      by_cases hi : n ≤ i
      · have e : i = n := by omega
        refine br_y ((pl_le (by omega) (by omega)).mpr hi) (q g' hS ?_)
        rw [← e]; exact hc'
      · refine br_n (fun z => hi ((pl_le (by omega) (by omega)).mp z)) ?_
        refine k_round hL ha hc' (hw.it i) (by omega) (fun g2 h3 h4 => ?_)
        intro v2 e2
        rw [e2, nI_1]
        exact ih (i + 1) g2 (by omega) (by omega) (hS.tr h3) h4
  exact ⟨_, go (n + 1) 0 g (Nat.zero_le _) (by omega) sv_sm.rf hc⟩
theorem r_go {n : Nat} {w : Int32} {Q : sv_Mg → Prop} (hwn : w = nI n) (hw : sp_W B (g 59)) (hB : B + n < 90000) (q : ∀ g', sv_sm sp_t4 g g' → g' 59 = sp_it (g 59) n → Q g') : wp_X7_goesOn F w g Q := by
  subst hwn
  have go : ∀ m i g', i ≤ n → n + 1 ≤ i + m → sv_sm sp_t4 g g' → g' 59 = sp_it (g 59) i → wp_X7_goesOn_2 F Q m (nI n) (nI i) g' := by
    intro m
    induction m with
    | zero => intro i g' h1 h2; omega
    | succ m ih =>
      intro i g' h1 h2 hS hc'
      rw [wp_X7_goesOn_2]
      by_cases hi : n ≤ i
      · have e : i = n := by omega
        refine br_y ((pl_le (by omega) (by omega)).mpr hi) (q g' hS ?_)
        rw [← e]; exact hc'
      · refine br_n (fun z => hi ((pl_le (by omega) (by omega)).mp z)) ?_
        refine r_round (sp_W.rd (B := B + i) (by rw [hc']; exact hw.it i)) (fun g2 h3 h4 => ?_)
        intro v2 e2
        rw [e2, nI_1]
        refine ih (i + 1) g2 (by omega) (by omega) (hS.tr h3) ?_
        rw [h4, hc']; rfl
  exact ⟨_, go (n + 1) 0 g (Nat.zero_le _) (by omega) sv_sm.rf rfl⟩
end KE
