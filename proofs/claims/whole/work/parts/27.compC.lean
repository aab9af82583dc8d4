/-! THE SYSTEM'S CONCLAVE: a round -/
theorem k_fill_l {F : sv_Fr} {g0 : sv_Mg} {a0 n0 : Nat} {v : Int32} {Q : sv_Mg → Prop} (hn : n0 < 90000) (q : ∀ g', sv_sm (fun k => k = a0) g0 g' → (∀ u, u < n0 → g' a0 u = v) → Q g') :
    ∀ m i g, i ≤ n0 → n0 + 1 ≤ i + m → sv_sm (fun k => k = a0) g0 g → (∀ u, u < i → g a0 u = v) → wp_J7_fill_53178_5 F a0 n0 Q m v (nI i) (nI n0) g := by
  intro m
  induction m with
  | zero => intro i g h1 h2; omega
  | succ m ih =>
    intro i g h1 h2 hS hv
    rw [wp_J7_fill_53178_5]
    by_cases hi : n0 ≤ i
    · exact br_y ((pl_le (by omega) (by omega)).mpr hi) (q g hS (fun u hu => hv u (by omega)))
    · refine br_n (fun z => hi ((pl_le (by omega) (by omega)).mp z)) ⟨pl_in (by omega) (by omega), ?_⟩
      rw [pl_clamp (by omega)]
      intro g1 e1 v2 e2
      rw [e2, nI_1]
      subst e1
      refine ih (i + 1) _ (by omega) (by omega) (hS.st rfl) (fun u hu => ?_)
      by_cases e : u = i
      · subst e; exact st_at
      · rw [st_nk e]; exact hv u (by omega)
theorem k_fill {F : sv_Fr} {g : sv_Mg} {a0 n0 : Nat} {v : Int32} {Q : sv_Mg → Prop} (hn : n0 < 90000) (q : ∀ g', sv_sm (fun k => k = a0) g g' → (∀ u, u < n0 → g' a0 u = v) → Q g') : wp_J7_fill_53178 F a0 n0 v g Q := by
  intro v3 e3
  rw [e3]
  exact ⟨n0 + 1, k_fill_l hn q (n0 + 1) 0 g (Nat.zero_le _) (by omega) sv_sm.rf (fun u hu => absurd hu (Nat.not_lt_zero u))⟩
section KC
variable {F : sv_Fr} {g : sv_Mg} {a B : Nat} {f : Nat → Int32}
theorem k_tally_l {g0 : sv_Mg} {Q : sv_Mg → Prop} (hn : g0 a 8 = nI (sp_n f)) (n2 : sp_n f ≤ 10) (hk : ∀ v, v < sp_n f → g0 (a + 1) v = f (11 + 6 * v)) (hv : ∀ v, v < sp_n f → g0 (a + 6) v = f (16 + 6 * v)) (ok : ∀ v, v < sp_n f → f (16 + 6 * v) = -1 ∨ ∃ k, k < sp_n f ∧ f (16 + 6 * v) = nI k)
    (q : ∀ g, sv_sm (fun k => k = a + 7) g0 g → cr_h g a f → Q g) :
    ∀ m i g, i ≤ sp_n f → sp_n f + 1 ≤ i + m → sv_sm (fun k => k = a + 7) g0 g → (∀ u, u < 10 → g (a + 7) u = nI (sp_has f (nI u) i)) → wp_X0_tally_10 F a Q m (nI i) g := by
  intro m
  induction m with
  | zero => intro i g h1 h2; omega
  | succ m ih =>
    intro i g h1 h2 hS hh
    have e8 : g a = g0 a := hS a (by omega)
    have e1 : g (a + 1) = g0 (a + 1) := hS _ (by omega)
    have e6 : g (a + 6) = g0 (a + 6) := hS _ (by omega)
    rw [wp_X0_tally_10]
    by_cases hi : sp_n f ≤ i
    · have e : sp_n f = i := by omega
      refine br_y (by rw [e8, hn]; exact (pl_le (by omega) (by omega)).mpr hi) (q g hS (fun u hu => ?_))
      unfold sp_hv
      rw [e]
      exact hh u hu
    · refine br_n (fun z => hi (by rw [e8, hn] at z; exact (pl_le (by omega) (by omega)).mp z)) ⟨pl_in (by omega) (by omega), ?_⟩
      rw [pl_clamp (by omega), e6, hv i (by omega)]
      rcases ok i (by omega) with e | ⟨k, hk1, e⟩
      · rw [e]
        refine k_voter_n (n := sp_n f) (by rw [e8]; exact hn) (Or.inl (by decide)) (br_y rfl ?_)
        intro v1 ev
        rw [ev, nI_1]
        refine ih (i + 1) g (by omega) (by omega) hS (fun u hu => ?_)
        rw [hh u hu, sp_has, if_neg (by rw [e]; exact fun z => pl_m1 (by omega) z.symm), Nat.add_zero]
      · rw [e]
        refine k_voter_y (n := sp_n f) (by rw [e8]; exact hn) n2 hk1 (br_n ne10 ⟨pl_in (by omega) (by omega), ?_⟩)
        rw [e6, hv i (by omega), e, pl_clamp (n := k) (by omega)]
        refine ⟨pl_in (by omega) (by omega), pl_in (by omega) (by omega), ?_⟩
        rw [e1, hk i (by omega)]
        refine k_weight ⟨pl_in (by omega) (by omega), ?_⟩
        intro g1 eg v1 ev
        rw [ev, nI_1]
        subst eg
        refine ih (i + 1) _ (by omega) (by omega) (hS.st rfl) (fun u hu => ?_)
        by_cases eu : u = k
        · subst eu
          rw [st_at, hh u hu, sp_has, if_pos e, ← nI_add, sp_w_I f i]
        · rw [st_nk eu, hh u hu, sp_has, if_neg (by rw [e]; exact fun z => eu ((pl_eq (by omega) (by omega)).mp z).symm), Nat.add_zero]
theorem k_tally {Q : sv_Mg → Prop} (hn : g a 8 = nI (sp_n f)) (n2 : sp_n f ≤ 10) (hk : ∀ v, v < sp_n f → g (a + 1) v = f (11 + 6 * v)) (hv : ∀ v, v < sp_n f → g (a + 6) v = f (16 + 6 * v)) (ok : ∀ v, v < sp_n f → f (16 + 6 * v) = -1 ∨ ∃ k, k < sp_n f ∧ f (16 + 6 * v) = nI k)
    (q : ∀ g', sv_sm (fun k => k = a + 7) g g' → cr_h g' a f → Q g') : wp_X0_tally F a g Q := by
  refine k_fill (by omega) (fun g1 h1 h2 => ?_)
  have e8 : g1 a = g a := h1 a (by omega)
  have e1 : g1 (a + 1) = g (a + 1) := h1 _ (by omega)
  have e6 : g1 (a + 6) = g (a + 6) := h1 _ (by omega)
  refine ⟨_, k_tally_l (f := f) (by rw [e8]; exact hn) n2 (by rw [e1]; exact hk) (by rw [e6]; exact hv) ok (fun g2 h3 h4 => q g2 (h1.tr h3) h4) (sp_n f + 1) 0 g1 (Nat.zero_le _) (by omega) sv_sm.rf (fun u hu => ?_)⟩
  rw [h2 u hu]; rfl
theorem k_want_l {Q : Int32 → sv_Mg → Prop} (hn : g a 8 = nI (sp_n f)) (n2 : sp_n f ≤ 10) (hk : ∀ v, v < sp_n f → g (a + 1) v = f (11 + 6 * v)) (q : Q (nI (sp_want f)) g) : ∀ m i, i ≤ sp_n f → sp_n f + 1 ≤ i + m → wp_X0_wanted_4 F a Q m (nI (sp_all f i)) (nI i) g := by
  intro m
  induction m with
  | zero => intro i h1 h2; omega
  | succ m ih =>
    intro i h1 h2
    rw [wp_X0_wanted_4]
    have hs := sp_all_le f i
    by_cases hi : sp_n f ≤ i
    · have e : i = sp_n f := by omega
      refine br_y (by rw [hn]; exact (pl_le (by omega) (by omega)).mpr hi) ?_
      rw [pl_lit 2, pl_lit 3, pk_mul, nI_add, pk_div (by omega) (by omega) (by omega), e]
      exact q
    · refine br_n (fun z => hi (by rw [hn] at z; exact (pl_le (by omega) (by omega)).mp z)) ⟨pl_in (by omega) (by omega), ?_⟩
      rw [pl_clamp (by omega), hk i (by omega)]
      refine k_weight ?_
      have ih2 := ih (i + 1) (by omega) (by omega)
      rw [sp_all, ← nI_add, sp_w_I f i] at ih2
      intro v1 e1 v2 e2
      rw [e1, e2, nI_1]
      exact ih2
theorem k_want {Q : Int32 → sv_Mg → Prop} (hn : g a 8 = nI (sp_n f)) (n2 : sp_n f ≤ 10) (hk : ∀ v, v < sp_n f → g (a + 1) v = f (11 + 6 * v)) (q : Q (nI (sp_want f)) g) : wp_X0_wanted F a g Q :=
  ⟨_, k_want_l hn n2 hk q (sp_n f + 1) 0 (Nat.zero_le _) (by omega)⟩
theorem sp_want_le (f : Nat → Int32) (h : sp_n f ≤ 10) : sp_want f < 100 := by
  have := sp_all_le f (sp_n f)
  unfold sp_want; omega
theorem sp_el_none {c : Int32} : ∀ {m : Nat}, (∀ j, j < m → sp_hv f (nI j) < sp_want f) → sp_el f m c = c
  | 0, _ => rfl
  | m + 1, h => by rw [sp_el, if_pos (h m (by omega))]; exact sp_el_none (fun j hj => h j (by omega))
theorem sp_el_first {k : Nat} : ∀ {n : Nat} {c : Int32}, k < n → ¬ sp_hv f (nI k) < sp_want f → (∀ j, j < k → sp_hv f (nI j) < sp_want f) → sp_el f n c = nI k
  | 0, c, h, _, _ => absurd h (Nat.not_lt_zero k)
  | n + 1, c, h, h1, h2 => by
    rw [sp_el]
    by_cases e : k = n
    · subst e; rw [if_neg h1]; exact sp_el_none h2
    · exact sp_el_first (by omega) h1 h2
theorem k_elected {Q : Int32 → sv_Mg → Prop} (hn : g a 8 = nI (sp_n f)) (n2 : sp_n f ≤ 10) (hk : ∀ v, v < sp_n f → g (a + 1) v = f (11 + 6 * v)) (hh : cr_h g a f) (q : Q (sp_el f (sp_n f) (-1)) g) : wp_X0_elected F a g Q := by
  refine k_want hn n2 hk ?_
  have l2 := sp_want_le f n2
  have go : ∀ m i, i ≤ sp_n f → sp_n f + 1 ≤ i + m → (∀ j, j < i → sp_hv f (nI j) < sp_want f) → wp_X0_elected_7 F a Q m (nI (sp_want f)) (nI i) g := by
    intro m
    induction m with
    | zero => intro i h1 h2; omega
    | succ m ih =>
      intro i h1 h2 hb
      rw [wp_X0_elected_7]
      by_cases hi : sp_n f ≤ i
      · refine br_y (by rw [hn]; exact (pl_le (by omega) (by omega)).mpr hi) ?_
        rw [sp_el_none (fun j hj => hb j (by omega))] at q
        exact q
      · refine br_n (fun z => hi (by rw [hn] at z; exact (pl_le (by omega) (by omega)).mp z)) ⟨pl_in (by omega) (by omega), ?_⟩
        have l1 := sp_hv_le f (nI i) n2
        rw [pl_clamp (by omega), hh i (by omega)]
        by_cases hc : sp_hv f (nI i) < sp_want f
        · refine br_y ((pl_lt (by omega) (by omega)).mpr hc) ?_
          intro v2 e2
          rw [e2, nI_1]
          refine ih (i + 1) (by omega) (by omega) (fun j hj => ?_)
          by_cases ej : j = i
          · subst ej; exact hc
          · exact hb j (by omega)
        · refine br_n (fun z => hc ((pl_lt (by omega) (by omega)).mp z)) ?_
          rw [sp_el_first (by omega) hc hb] at q
          exact q
  exact ⟨_, go (sp_n f + 1) 0 (Nat.zero_le _) (by omega) (fun j hj => absurd hj (Nat.not_lt_zero j))⟩
/-- -1, or a number below n -/
def sp_v1n (n : Nat) (x : Int32) : Prop := x = -1 ∨ ∃ k, k < n ∧ x = nI k
theorem sp_v1n.ge {n : Nat} {x : Int32} (h : sp_v1n n x) (hn : n ≤ 10) : (x = -1 ∧ x < 0 ∧ ¬ 0 ≤ x) ∨ (¬ x = -1 ∧ ¬ x < 0 ∧ 0 ≤ x) := by
  rcases h with rfl | ⟨k, hk, rfl⟩
  · exact Or.inl ⟨rfl, by decide, by decide⟩
  · exact Or.inr ⟨pl_m1 (by omega), pl_nn (by omega), pl_nn' (by omega)⟩
theorem k_smoke {T : Nat → Int32} {c : Int32} {n : Nat} {Q : Int32 → sv_Mg → Prop} (hn : g a 8 = nI n) (n2 : n ≤ 10) (h13 : g a 13 = c) (hc : sp_v1n n c) (h9 : g a 9 = f 4) (h10 : g a 10 = f 5) (h6 : ∀ v, v < n → g (a + 6) v = T v) (hT : ∀ v, v < n → sp_v1n n (T v)) (h5 : ∀ v, v < n → g (a + 5) v = f (15 + 6 * v)) (q : Q (sp_smk c (sp_dmp f T n)) g) : wp_X0_smokeNow F a g Q := by
  unfold sp_smk at q
  have go : ∀ m i, i ≤ n → n + 1 ≤ i + m → c < 0 → wp_X0_smokeNow_25 F a Q m (sp_dmp f T i) (nI i) g := by
    intro m
    induction m with
    | zero => intro i h1 h2; omega
    | succ m ih =>
      intro i h1 h2 hc0
      rw [wp_X0_smokeNow_25]
      by_cases hi : n ≤ i
      · have e : i = n := by omega
        refine br_y (by rw [hn]; exact (pl_le (by omega) (by omega)).mpr hi) ?_
        rw [if_pos hc0, ← e] at q
        have q := br_ite (P := fun z => Q z g) q
        exact ⟨fun z => br_ite (P := fun z => Q z g) (q.1 z), q.2⟩
      · refine br_n (fun z => hi (by rw [hn] at z; exact (pl_le (by omega) (by omega)).mp z)) ⟨pl_in (by omega) (by omega), ?_⟩
        rw [pl_clamp (by omega), h6 i (by omega), h5 i (by omega)]
        have ih2 := ih (i + 1) (by omega) (by omega) hc0
        rw [sp_dmp] at ih2
        rcases (hT i (by omega)).ge n2 with ⟨e1, e2, e3⟩ | ⟨e1, e2, e3⟩
        · rw [if_neg e3, Int32.add_zero] at ih2
          refine br_y e1 ?_
          intro v2 ev2
          rw [ev2, nI_1]
          exact ih2
        · rw [if_pos e3] at ih2
          refine br_n e1 ⟨pl_in (by omega) (by omega), ?_⟩
          intro v1 ev1 v2 ev2
          rw [ev1, ev2, nI_1]
          exact ih2
  unfold wp_X0_smokeNow
  rw [h13, h9, h10]
  rcases hc.ge n2 with ⟨e1, e2, e3⟩ | ⟨e1, e2, e3⟩
  · refine br_y e1 ?_
    intro v1 ev1
    rw [ev1]
    exact ⟨_, go (n + 1) 0 (Nat.zero_le _) (by omega) e2⟩
  · rw [if_neg e2] at q
    exact br_n e1 q
theorem k_draw {Q : Int32 → sv_Mg → Prop} {z : Int32} (hz : g a 16 = z) (q : Q (sp_dr (sp_z z)) (sv_st g a 16 (sp_z z))) : wp_X0_draw F a g Q := by
  subst hz
  intro g1 e1
  have e : g1 a 16 = sp_z (g a 16) := by rw [e1, st_at]; rfl
  rw [e, e1]
  exact q
/-- texts hang on few places of a row -/
theorem cr_t.cg {g' : sv_Mg} {f' : Nat → Int32} (h : cr_t F g f) (hL : sv_Lay F) (h10 : f' 10 = f 10) (h71 : ∀ p, 71 ≤ p → f' p = f p) (hg : ∀ k, 82 ≤ k → g' k = g k) : cr_t F g' f' := by
  have et : sp_t f' = sp_t f := by unfold sp_t; rw [h10]
  intro t ht
  rw [et] at ht
  obtain ⟨q, e1, e2, e3, e4, e5⟩ := h t ht
  have hq := (hL.2.2 t q e1).1
  have ek : sp_key f' t = sp_key f t := by unfold sp_key; rw [h71 _ (by omega)]
  have el : sp_len f' t = sp_len f t := by unfold sp_len; rw [h71 _ (by omega)]
  refine ⟨q, e1, by rw [hg q hq, ek]; exact e2, by rw [hg q hq, h71 _ (by omega)]; exact e3, by rw [el]; exact e4, fun k hk => ?_⟩
  rw [el] at hk
  rw [hg (q + 1) (by omega), h71 _ (by omega)]
  exact e5 k hk
theorem sp_n_cg {f' : Nat → Int32} (h : f' 1 = f 1) : sp_n f' = sp_n f := by unfold sp_n; rw [h]
theorem sp_hv_cg {f' : Nat → Int32} {v : Int32} (h1 : f' 1 = f 1) (h : ∀ k, k < sp_n f → f' (11 + 6 * k) = f (11 + 6 * k) ∧ f' (16 + 6 * k) = f (16 + 6 * k)) : sp_hv f' v = sp_hv f v := by
  unfold sp_hv
  rw [sp_n_cg h1]
  exact sp_has_cg h
theorem crD.cg {g' : sv_Mg} {f' : Nat → Int32} {d d' : Int32} (h : crD F g a f d) (hL : sv_Lay F) (h1 : f' 1 = f 1) (h10 : f' 10 = f 10) (h71 : ∀ p, 71 ≤ p → f' p = f p) (hk : ∀ k, k < sp_n f → f' (11 + 6 * k) = f (11 + 6 * k) ∧ f' (16 + 6 * k) = f (16 + 6 * k))
    (hg : ∀ k, k = a + 6 ∨ k = a + 7 ∨ 82 ≤ k → g' k = g k) (hs : cr_s g' a f') (hv : cr_v g' a f') (hd : g' a 15 = d') : crD F g' a f' d' := by
  refine ⟨⟨hs, hv, fun u hu => ?_, h.1.2.2.2.cg hL h10 h71 (fun k hk => hg k (by omega))⟩, fun v hv => ?_, hd⟩
  · rw [hg _ (by omega), sp_hv_cg h1 hk]; exact h.1.2.2.1 u hu
  · rw [sp_n_cg h1] at hv
    rw [hg _ (by omega), (hk v hv).2]; exact h.2.1 v hv
theorem sp_wets_ne {T : Nat → Int32} {p : Nat} (hp : p ≠ 0) : ∀ {i : Nat}, (∀ j, j < i → p ≠ 15 + 6 * j) → sp_wets T i f p = f p
  | 0, _ => rfl
  | i + 1, h => by
    rw [sp_wets]
    split
    · exact sp_wets_ne hp (fun j hj => h j (by omega))
    · rw [pk_un (h i (by omega)), pk_un hp]; exact sp_wets_ne hp (fun j hj => h j (by omega))
theorem k_wets {T : Nat → Int32} {d : Int32} {Q : sv_Mg → Prop} (hL : sv_Lay F) (ha : sv_isC a) (hw1 : f 1 = nI (sp_n f)) (n2 : sp_n f ≤ 10) (hc : crD F g a f d) (hT : ∀ v, v < sp_n f → f (16 + 6 * v) = T v) (hT2 : ∀ v, v < sp_n f → sp_v1n (sp_n f) (T v)) (q : ∀ g', sv_sm (fun k => a ≤ k ∧ k ≤ a + 7) g g' → crD F g' a (sp_wets T (sp_n f) f) d → Q g') : wp_X0_wetPapers F a g Q := by
  have hne : ∀ i p, p ≠ 0 → (∀ j, j < i → p ≠ 15 + 6 * j) → sp_wets T i f p = f p := fun i p h1 h2 => sp_wets_ne h1 h2
  have a75 : a + 7 < 82 := by rcases ha with h | h | h <;> omega
  have go : ∀ m i g', i ≤ sp_n f → sp_n f + 1 ≤ i + m → sv_sm (fun k => a ≤ k ∧ k ≤ a + 7) g g' → crD F g' a (sp_wets T i f) d → wp_X0_wetPapers_2 F a Q m (nI i) g' := by
    intro m
    induction m with
    | zero => intro i g' h1 h2; omega
    | succ m ih =>
      intro i g' h1 h2 hS hc'
      rw [wp_X0_wetPapers_2]
      have en : sp_n (sp_wets T i f) = sp_n f := sp_n_cg (hne i 1 (by omega) (fun j _ => by omega))
      have e8 : g' a 8 = nI (sp_n f) := by rw [hc'.1.1.1, hne i 1 (by omega) (fun j _ => by omega)]; exact hw1
      by_cases hi : sp_n f ≤ i
      · have e : i = sp_n f := by omega
        refine br_y (by rw [e8]; exact (pl_le (by omega) (by omega)).mpr hi) (q g' hS ?_)
        rw [← e]; exact hc'
      · refine br_n (fun z => hi (by rw [e8] at z; exact (pl_le (by omega) (by omega)).mp z)) ⟨pl_in (by omega) (by omega), ?_⟩
        rw [pl_clamp (by omega), hc'.2.1 i (by omega), hne i _ (by omega) (fun j _ => by omega), hT i (by omega)]
        have es : sp_wets T (i + 1) f = if T i < 0 then sp_wets T i f else upd (upd (sp_wets T i f) 0 (sp_z (sp_wets T i f 0))) (15 + 6 * i) (sp_rem (sp_dr (sp_z (sp_wets T i f 0))) 10) := rfl
        rcases (hT2 i (by omega)).ge n2 with ⟨e1, e2, e3⟩ | ⟨e1, e2, e3⟩
        · refine br_y e1 ?_
          intro v1 ev
          rw [ev, nI_1]
          rw [if_pos e2] at es
          refine ih (i + 1) g' (by omega) (by omega) hS ?_
          rw [es]; exact hc'
        · refine br_n e1 ?_
          rw [if_neg e2] at es
          refine k_draw hc'.1.1.2.2.2.2.2.2.2.1 ⟨pl_in (by omega) (by omega), ?_⟩
          intro g2 eg v1 ev
          rw [ev, nI_1]
          subst eg
          refine ih (i + 1) _ (by omega) (by omega) ((hS.st ⟨by omega, by omega⟩).st ⟨by omega, by omega⟩) ?_
          rw [es]
          obtain ⟨s1, s2, s3, s4, s5, s6, s7, s8, s9, s10⟩ := hc'.1.1
          have ga : ∀ k x, sv_st (sv_st g' a 16 (sp_z (sp_wets T i f 0))) (a + 5) i x a k = sv_st g' a 16 (sp_z (sp_wets T i f 0)) a k := fun k x => by rw [st_ne (by omega)]
          refine hc'.cg hL ?_ ?_ (fun p hp => ?_) (fun k hk => ⟨?_, ?_⟩) (fun k hk => ?_) ?_ (fun v j hv hj => ?_) ?_
          · rw [pk_un (by omega), pk_un (by omega)]
          · rw [pk_un (by omega), pk_un (by omega)]
          · rw [pk_un (by omega), pk_un (by omega)]
          · rw [pk_un (by omega), pk_un (by omega)]
          · rw [pk_un (by omega), pk_un (by omega)]
          · rw [st_ne (by omega), st_ne (by omega)]
          · unfold cr_s
            simp only [ga]
            refine ⟨?_, ?_, ?_, ?_, ?_, ?_, ?_, ?_, ?_, ?_⟩
            · rw [st_nk (by omega), pk_un (by omega), pk_un (by omega)]; exact s1
            · rw [st_nk (by omega), pk_un (by omega), pk_un (by omega)]; exact s2
            · rw [st_nk (by omega), pk_un (by omega), pk_un (by omega)]; exact s3
            · rw [st_nk (by omega), pk_un (by omega), pk_un (by omega)]; exact s4
            · rw [st_nk (by omega), pk_un (by omega), pk_un (by omega)]; exact s5
            · rw [st_nk (by omega), pk_un (by omega), pk_un (by omega)]; exact s6
            · rw [st_nk (by omega), pk_un (by omega), pk_un (by omega)]; exact s7
            · rw [st_at, pk_un (by omega), pk_us]
            · rw [st_nk (by omega), pk_un (by omega), pk_un (by omega)]; exact s9
            · rw [st_nk (by omega), pk_un (by omega), pk_un (by omega)]; exact s10
          · rw [sp_n_cg (f := sp_wets T i f) (by rw [pk_un (by omega), pk_un (by omega)])] at hv
            by_cases ep : j = 4 ∧ v = i
            · obtain ⟨rfl, rfl⟩ := ep
              rw [show a + 1 + 4 = a + 5 by omega, st_at, show 11 + 6 * v + 4 = 15 + 6 * v by omega, pk_us]
              rfl
            · have e0 : upd (upd (sp_wets T i f) 0 (sp_z (sp_wets T i f 0))) (15 + 6 * i) (sp_rem (sp_dr (sp_z (sp_wets T i f 0))) 10) (11 + 6 * v + j) = sp_wets T i f (11 + 6 * v + j) := by
                rw [pk_un (by omega), pk_un (by omega)]
              rw [e0, ← hc'.1.2.1 v j hv hj]
              by_cases ej : j = 4
              · subst ej
                rw [show a + 1 + 4 = a + 5 by omega, st_nk (by omega), st_ne (by omega)]
              · rw [st_ne (by omega), st_ne (by omega)]
          · rw [ga, st_nk (by omega)]; exact hc'.2.2
  exact ⟨_, go (sp_n f + 1) 0 g (Nat.zero_le _) (by omega) sv_sm.rf hc⟩
end KC
