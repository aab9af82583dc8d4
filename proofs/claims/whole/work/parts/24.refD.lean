/-! THE REFERENCE: a round -/
def sp_z (z : Int32) : Int32 := (z * 1103515245) + 12345
def sp_dr (z : Int32) : Int32 := ((z : Int32).toUInt32 >>> ((8 : Int32).toUInt32 &&& Int32.toUInt32 31)).toInt32
def sp_rem (a b : Int32) : Int32 := a - a / b * b
theorem r_draw {F : sv_Fr} {g : sv_Mg} {Q : Int32 → sv_Mg → Prop} (q : Q (sp_dr (sp_z (g 59 0))) (sv_st g 59 0 (sp_z (g 59 0)))) : wp_X7_draw F g Q := by
  intro g1 e1
  have e : g1 59 0 = sp_z (g 59 0) := by rw [e1, st_at]; rfl
  rw [e, e1]
  exact q
theorem r_want_l {F : sv_Fr} {g : sv_Mg} {n : Nat} {Q : Int32 → sv_Mg → Prop} (hn : g 59 1 = nI n) (hn2 : n ≤ 10) (q : Q (nI ((2 * sp_all (g 59) n + 2) / 3)) g) : ∀ m i, i ≤ n → n + 1 ≤ i + m → wp_X7_wanted_4 F Q m (nI (sp_all (g 59) i)) (nI i) g := by
  intro m
  induction m with
  | zero => intro i h1 h2; omega
  | succ m ih =>
    intro i h1 h2
    rw [wp_X7_wanted_4]
    have hs := sp_all_le (g 59) i
    by_cases hi : n ≤ i
    · have e : i = n := by omega
      subst e
      refine br_y (by rw [hn]; exact (pl_le (by omega) (by omega)).mpr hi) ?_
      rw [pl_lit 2, pl_lit 3, pk_mul, nI_add, pk_div (by omega) (by omega) (by omega)]
      exact q
    · refine br_n (fun z => hi (by rw [hn] at z; exact (pl_le (by omega) (by omega)).mp z)) ?_
      refine r_weight (by omega) ?_
      have ih2 := ih (i + 1) (by omega) (by omega)
      rw [sp_all, ← nI_add] at ih2
      intro v1 e1 v2 e2
      rw [e1, e2, nI_1]
      exact ih2
theorem r_want {F : sv_Fr} {g : sv_Mg} {Q : Int32 → sv_Mg → Prop} (hn : g 59 1 = nI (sp_n (g 59))) (hn2 : sp_n (g 59) ≤ 10) (q : Q (nI (sp_want (g 59))) g) : wp_X7_wanted F g Q :=
  ⟨_, r_want_l hn hn2 q (sp_n (g 59) + 1) 0 (Nat.zero_le _) (by omega)⟩
/-! what depends on what -/
theorem sp_w_cg {f f' : Nat → Int32} {k : Nat} (h : f' (11 + 6 * k) = f (11 + 6 * k)) : sp_w f' k = sp_w f k := by
  unfold sp_w; rw [h]
theorem sp_has_cg {f f' : Nat → Int32} {v : Int32} : ∀ {n : Nat}, (∀ k, k < n → f' (11 + 6 * k) = f (11 + 6 * k) ∧ f' (16 + 6 * k) = f (16 + 6 * k)) → sp_has f' v n = sp_has f v n
  | 0, _ => rfl
  | n + 1, h => by
    rw [sp_has, sp_has, sp_has_cg (fun k hk => h k (by omega)), (h n (by omega)).2, sp_w_cg (h n (by omega)).1]
theorem sp_all_cg {f f' : Nat → Int32} : ∀ {n : Nat}, (∀ k, k < n → f' (11 + 6 * k) = f (11 + 6 * k)) → sp_all f' n = sp_all f n
  | 0, _ => rfl
  | n + 1, h => by
    rw [sp_all, sp_all, sp_all_cg (fun k hk => h k (by omega)), sp_w_cg (h n (by omega))]
/-- all new votes are put down -/
def sp_vt (f T : Nat → Int32) : Nat → Nat → Int32
  | 0 => f
  | k + 1 => upd (sp_vt f T k) (16 + 6 * k) (T k)
theorem sp_vt_ne {f T : Nat → Int32} {p : Nat} : ∀ {m : Nat}, (∀ j, j < m → p ≠ 16 + 6 * j) → sp_vt f T m p = f p
  | 0, _ => rfl
  | m + 1, h => by rw [sp_vt, pk_un (h m (by omega)), sp_vt_ne (fun j hj => h j (by omega))]
theorem sp_vt_at {f T : Nat → Int32} {k : Nat} : ∀ {m : Nat}, k < m → sp_vt f T m (16 + 6 * k) = T k
  | 0, h => absurd h (Nat.not_lt_zero k)
  | m + 1, h => by
    rw [sp_vt]
    by_cases e : k = m
    · subst e; exact pk_us
    · rw [pk_un (by omega), sp_vt_at (by omega)]
def sp_dmp (f T : Nat → Int32) : Nat → Int32
  | 0 => f 4 - f 5 / 10
  | k + 1 => sp_dmp f T k + (if 0 ≤ T k then f (15 + 6 * k) else 0)
/-- from above down: the last that has enough -/
def sp_el (f : Nat → Int32) : Nat → Int32 → Int32
  | 0, c => c
  | k + 1, c => sp_el f k (if sp_hv f (nI k) < sp_want f then c else nI k)
def sp_smk (ch d : Int32) : Int32 := if ch < 0 then (if 10 ≤ d then (if 25 ≤ d then 3 else 2) else 1) else 0
def sp_wets (T : Nat → Int32) : Nat → (Nat → Int32) → Nat → Int32
  | 0, f => f
  | k + 1, f => if T k < 0 then sp_wets T k f else upd (upd (sp_wets T k f) 0 (sp_z (sp_wets T k f 0))) (15 + 6 * k) (sp_rem (sp_dr (sp_z (sp_wets T k f 0))) 10)
/-- the row once all have voted, and somebody perhaps is chosen -/
def sp_v1 (f : Nat → Int32) : Nat → Int32 := upd (sp_vt f (sp_for f) (sp_n f)) 3 (f 3 + 1)
def sp_v2 (f : Nat → Int32) : Nat → Int32 := upd (sp_v1 f) 7 (sp_el (sp_v1 f) (sp_n f) (f 7))
def sp_v3 (f : Nat → Int32) : Nat → Int32 := upd (sp_v2 f) 8 (sp_smk (sp_v2 f 7) (sp_dmp f (sp_for f) (sp_n f)))
def sp_v4 (f : Nat → Int32) : Nat → Int32 := upd (upd (sp_v3 f) 0 (sp_z (f 0))) 9 (sp_rem (sp_dr (sp_z (f 0))) 4)
def sp_votes (f : Nat → Int32) : Nat → Int32 := sp_wets (sp_for f) (sp_n f) (sp_v4 f)
def sp_round (f : Nat → Int32) : Nat → Int32 := if 0 ≤ f 7 ∨ f 1 ≤ 0 then upd f 2 (f 2 + 1) else upd (sp_votes f) 2 (sp_votes f 2 + 1)
theorem upd_st {g : sv_Mg} {a k : Nat} {v : Int32} : sv_st g a k v a = upd (g a) k v := sv_st_eq g a k v
theorem upd_id {f : Nat → Int32} {k : Nat} : upd f k (f k) = f := by
  funext j
  by_cases e : j = k
  · subst e; exact pk_us
  · exact pk_un e
theorem upd_upd {f : Nat → Int32} {k : Nat} {v w : Int32} : upd (upd f k v) k w = upd f k w := by
  funext j
  by_cases e : j = k
  · subst e; rw [pk_us, pk_us]
  · rw [pk_un e, pk_un e, pk_un e]
def sp_t4 : Nat → Prop := fun k => k = 59 ∨ k = 62 ∨ k = 71 ∨ k = 72
theorem r_wets_l {F : sv_Fr} {g0 : sv_Mg} {f T : Nat → Int32} {n : Nat} {Q : sv_Mg → Prop} (hf1 : f 1 = nI n) (hn2 : n ≤ 10) (q : ∀ g, sv_sm sp_t4 g0 g → g 59 = sp_wets T n f → Q g) :
    ∀ m i g, i ≤ n → n + 1 ≤ i + m → sv_sm sp_t4 g0 g → (∀ k, k < n → g 62 k = T k) → g 59 = sp_wets T i f → wp_X7_votes_214 F Q m (nI i) g := by
  have h1 : ∀ i, sp_wets T i f 1 = f 1 := by
    intro i
    induction i with
    | zero => rfl
    | succ i ih =>
      rw [sp_wets]
      split
      · exact ih
      · rw [pk_un (by omega), pk_un (by omega), ih]
  intro m
  induction m with
  | zero => intro i g h1 h2; omega
  | succ m ih =>
    intro i g hi1 hi2 hS hT hg
    rw [wp_X7_votes_214]
    have hn : g 59 1 = nI n := by rw [hg, h1, hf1]
    by_cases hi : n ≤ i
    · have e : i = n := by omega
      subst e
      exact br_y (by rw [hn]; exact (pl_le (by omega) (by omega)).mpr hi) (q g hS hg)
    · refine br_n (fun z => hi (by rw [hn] at z; exact (pl_le (by omega) (by omega)).mp z)) ?_
      rw [pl_clamp (by omega), hT i (by omega)]
      refine ⟨pl_in (by omega) (by omega), ?_⟩
      by_cases hc : T i < 0
      · refine br_y hc ?_
        intro v2 e2
        rw [e2, nI_1]
        exact ih (i + 1) g (by omega) (by omega) hS hT (by rw [hg, sp_wets, if_pos hc])
      · refine br_n hc ?_
        refine r_draw (r_put (j := 4) rfl (by omega) (by omega) ?_)
        intro v2 e2
        rw [e2, nI_1]
        refine ih (i + 1) _ (by omega) (by omega) ((hS.st (Or.inl rfl)).st (Or.inl rfl)) (fun k hk => ?_) ?_
        · rw [st_ne (by decide), st_ne (by decide)]; exact hT k hk
        · rw [upd_st, upd_st, sp_wets, if_neg hc, hg, show 11 + 6 * i + 4 = 15 + 6 * i by omega]
          rfl
theorem r_v198 {F : sv_Fr} {g0 g : sv_Mg} {T : Nat → Int32} {n : Nat} {s : Int32} {Q : sv_Mg → Prop} (hn : g 59 1 = nI n) (hn2 : n ≤ 10) (hS : sv_sm sp_t4 g0 g) (hT : ∀ k, k < n → g 62 k = T k) (q : ∀ g', sv_sm sp_t4 g0 g' → g' 59 = sp_wets T n (upd (upd (upd (g 59) 8 s) 0 (sp_z (g 59 0))) 9 (sp_rem (sp_dr (sp_z (g 59 0))) 4)) → Q g') : wp_X7_votes_198 F Q s 8 g := by
  refine ⟨by unfold vp_in; decide, fun g1 e1 => ?_⟩
  have t8 : (8 : Int32).toNatClampNeg = 8 := by decide
  rw [t8] at e1
  subst e1
  refine r_draw ?_
  rw [st_nk (by decide)]
  intro g2 e2
  subst e2
  refine ⟨_, r_wets_l (n := n) (T := T) ?_ hn2 q (n + 1) 0 _ (Nat.zero_le _) (by omega) (((hS.st (Or.inl rfl)).st (Or.inl rfl)).st (Or.inl rfl)) (fun k hk => ?_) ?_⟩
  · rw [pk_un (by decide), pk_un (by decide), pk_un (by decide)]; exact hn
  · rw [st_ne (by decide), st_ne (by decide), st_ne (by decide)]; exact hT k hk
  · rw [upd_st, upd_st, upd_st]; rfl
theorem r_el_l {F : sv_Fr} {g0 : sv_Mg} {f T : Nat → Int32} {n : Nat} {dm : Int32} {Q : sv_Mg → Prop} (hn : f 1 = nI n) (hnn : n = sp_n f) (hn2 : n ≤ 10) (q : ∀ g c, c = sp_el f n (f 7) → sv_sm sp_t4 g0 g → g 59 = sp_wets T n (upd (upd (upd (upd f 7 c) 8 (sp_smk c dm)) 0 (sp_z (f 0))) 9 (sp_rem (sp_dr (sp_z (f 0))) 4)) → Q g) :
    ∀ k c g, k ≤ n → sp_el f k c = sp_el f n (f 7) → sv_sm sp_t4 g0 g → (∀ j, j < n → g 62 j = T j) → g 59 = upd f 7 c → wp_X7_votes_117 F Q (k + 1) dm (nI k - 1) g := by
  intro k
  induction k with
  | zero =>
    intro c g _ e hS hT hg
    rw [wp_X7_votes_117]
    refine br_y (by decide) ?_
    have hn' : g 59 1 = nI n := by rw [hg, pk_un (by decide)]; exact hn
    have e7 : g 59 7 = c := by rw [hg]; exact pk_us
    have e0 : g 59 0 = f 0 := by rw [hg]; exact pk_un (by decide)
    have q2 : ∀ s, s = sp_smk c dm → wp_X7_votes_198 F Q s 8 g := by
      intro s es
      refine r_v198 hn' hn2 hS hT (fun g' h1 h2 => ?_)
      refine q g' c e h1 ?_
      rw [h2, es, hg]
      simp only [pk_un (f := f) (k := 7) (j := 0) (x := c) (by decide)]
    rw [e7]
    unfold sp_smk at q2
    by_cases c1 : c < 0
    · simp only [if_pos c1] at q2
      refine br_y c1 ?_
      by_cases c2 : (10 : Int32) ≤ dm
      · simp only [if_pos c2] at q2
        refine br_y c2 ?_
        by_cases c3 : (25 : Int32) ≤ dm
        · simp only [if_pos c3] at q2
          exact br_y c3 (q2 3 rfl)
        · simp only [if_neg c3] at q2
          exact br_n c3 (q2 2 rfl)
      · simp only [if_neg c2] at q2
        exact br_n c2 (q2 1 rfl)
    · simp only [if_neg c1] at q2
      exact br_n c1 (q2 0 rfl)
  | succ k ih =>
    intro c g hk e hS hT hg
    rw [wp_X7_votes_117, nI_pred]
    refine br_n (pl_nn (by omega)) ?_
    have hn' : g 59 1 = nI n := by rw [hg, pk_un (by decide)]; exact hn
    have hnn' : n = sp_n (g 59) := by unfold sp_n; rw [hn', pl_clamp (by omega)]
    have ehv : sp_hv (g 59) (nI k) = sp_hv f (nI k) := by
      unfold sp_hv
      rw [← hnn', ← hnn]
      refine sp_has_cg (fun j hj => ?_)
      rw [hg, pk_un (by omega), pk_un (by omega)]
      exact ⟨rfl, rfl⟩
    have ewa : sp_want (g 59) = sp_want f := by
      unfold sp_want
      rw [← hnn', ← hnn, sp_all_cg (fun j hj => ?_)]
      rw [hg, pk_un (by omega)]
    refine r_has (by rw [← hnn']; exact hn') (by omega) (r_want (by rw [← hnn']; exact hn') (by omega) ?_)
    rw [ehv, ewa]
    have l1 := sp_hv_le f (nI k) (by omega)
    have l2 : sp_want f < 100 := by
      have := sp_all_le f (sp_n f)
      unfold sp_want; omega
    have fin : ∀ c', (if sp_hv f (nI k) < sp_want f then c else nI k) = c' → wp_X7_votes_150 F Q (wp_X7_votes_117 F Q (k + 1)) dm (nI k) c' 7 g := by
      intro c' ec
      refine ⟨by unfold vp_in; decide, fun g1 e1 v2 e2 => ?_⟩
      have t7 : (7 : Int32).toNatClampNeg = 7 := by decide
      rw [t7] at e1
      rw [e2, pl_am1]
      refine ih c' g1 (by omega) ?_ (by rw [e1]; exact hS.st (Or.inl rfl)) (fun j hj => ?_) ?_
      · rw [← e, sp_el, ec]
      · rw [e1, st_ne (by decide)]; exact hT j hj
      · rw [e1, upd_st, hg, upd_upd]
    by_cases hc : sp_hv f (nI k) < sp_want f
    · refine br_y ((pl_lt (by omega) (by omega)).mpr hc) ?_
      have e7 : g 59 7 = c := by rw [hg]; exact pk_us
      rw [e7]
      exact fin c (if_pos hc)
    · exact br_n (fun z => hc ((pl_lt (by omega) (by omega)).mp z)) (fin (nI k) (if_neg hc))
theorem r_v48_l {F : sv_Fr} {g0 : sv_Mg} {f : Nat → Int32} {n : Nat} {Q : sv_Mg → Prop} (hn : f 1 = nI n) (hnn : n = sp_n f) (hn2 : n ≤ 10) (q : ∀ g, sv_sm sp_t4 g0 g → g 59 = sp_votes f → Q g) :
    ∀ m i g, i ≤ n → n + 1 ≤ i + m → sv_sm sp_t4 g0 g → (∀ j, j < n → g 62 j = sp_for f j) → g 59 = sp_vt f (sp_for f) i → wp_X7_votes_48 F Q m (sp_dmp f (sp_for f) i) (nI i) g := by
  intro m
  induction m with
  | zero => intro i g h1 h2; omega
  | succ m ih =>
    intro i g hi1 hi2 hS hT hg
    rw [wp_X7_votes_48]
    have hn' : g 59 1 = nI n := by rw [hg, sp_vt_ne (fun j _ => by omega)]; exact hn
    by_cases hi : n ≤ i
    · have e : i = n := by omega
      subst e
      refine br_y (by rw [hn']; exact (pl_le (by omega) (by omega)).mpr hi) ?_
      intro g1 e1 v2 e2
      have eg : g1 59 = sp_v1 f := by
        rw [e1, upd_st, hg, sp_vt_ne (fun j _ => by omega)]
        unfold sp_v1
        rw [← hnn]
      have e11 : g1 59 1 = nI i := by rw [e1, st_nk (by decide)]; exact hn'
      rw [e2, e11]
      have h71 : sp_v1 f 7 = f 7 := by unfold sp_v1; rw [pk_un (by decide), sp_vt_ne (fun j _ => by omega)]
      have h01 : sp_v1 f 0 = f 0 := by unfold sp_v1; rw [pk_un (by decide), sp_vt_ne (fun j _ => by omega)]
      have h11 : sp_v1 f 1 = nI i := by rw [← eg]; exact e11
      have hsn : i = sp_n (sp_v1 f) := by unfold sp_n; rw [h11, pl_clamp (by omega)]
      refine ⟨_, r_el_l (f := sp_v1 f) (T := sp_for f) h11 hsn hn2 (fun g2 c ec h1 h2 => ?_) i (sp_v1 f 7) g1 (Nat.le_refl _) rfl (by rw [e1]; exact hS.st (Or.inl rfl)) (fun j hj => ?_) ?_⟩
      · refine q g2 h1 ?_
        rw [h2, h01]
        unfold sp_votes sp_v4 sp_v3
        have e7 : sp_v2 f 7 = c := by
          unfold sp_v2
          rw [pk_us, ← hnn, ec, h71]
        rw [e7, ← hnn]
        unfold sp_v2
        rw [← hnn, ec, h71]
      · rw [e1, st_ne (by decide)]; exact hT j hj
      · rw [eg, upd_id]
    · refine br_n (fun z => hi (by rw [hn'] at z; exact (pl_le (by omega) (by omega)).mp z)) ?_
      rw [pl_clamp (by omega)]
      refine ⟨pl_in (by omega) (by omega), ?_⟩
      refine r_put (j := 5) rfl (by omega) (by omega) ⟨pl_in (by omega) (by omega), ?_⟩
      rw [st_ne (by decide), hT i (by omega)]
      have fin : ∀ d, (if 0 ≤ sp_for f i then f (15 + 6 * i) else 0) = d → wp_X7_votes_90 F Q (wp_X7_votes_48 F Q m) (nI i) d (sp_dmp f (sp_for f) i) (sv_st g 59 (11 + 6 * i + 5) (sp_for f i)) := by
        intro d ed v1 e1 v2 e2
        rw [e1, e2, nI_1]
        have := ih (i + 1) (sv_st g 59 (11 + 6 * i + 5) (sp_for f i)) (by omega) (by omega) (hS.st (Or.inl rfl)) (fun j hj => by rw [st_ne (by decide)]; exact hT j hj) (by rw [upd_st, hg, sp_vt, show 11 + 6 * i + 5 = 16 + 6 * i by omega])
        rw [sp_dmp, ed] at this
        exact this
      by_cases hc : 0 ≤ sp_for f i
      · refine br_y hc (r_of (j := 4) rfl (by omega) (by omega) ?_)
        rw [st_nk (by omega)]
        refine fin _ ?_
        rw [if_pos hc, hg, sp_vt_ne (fun j _ => by omega), show 11 + 6 * i + 4 = 15 + 6 * i by omega]
      · exact br_n hc (fin 0 (if_neg hc))
theorem r_v2_l {F : sv_Fr} {g0 : sv_Mg} {Q : sv_Mg → Prop} (hr : sp_rd g0) (q : ∀ g, sv_sm sp_t4 g0 g → g 59 = sp_votes (g0 59) → Q g) :
    ∀ m i g, i ≤ sp_n (g0 59) → sp_n (g0 59) + 1 ≤ i + m → sv_sm (fun k => k = 62 ∨ k = 71 ∨ k = 72) g0 g → (∀ j, j < i → g 62 j = sp_for (g0 59) j) → wp_X7_votes_2 F Q m (nI i) g := by
  obtain ⟨⟨hn, hn2⟩, ⟨ht, ht2⟩, hw⟩ := id hr
  intro m
  induction m with
  | zero => intro i g h1 h2; omega
  | succ m ih =>
    intro i g hi1 hi2 hS hT
    rw [wp_X7_votes_2]
    have e59 : g 59 = g0 59 := hS 59 (by omega)
    by_cases hi : sp_n (g0 59) ≤ i
    · have e : i = sp_n (g0 59) := by omega
      refine br_y (by rw [e59, hn]; exact (pl_le (by omega) (by omega)).mpr hi) ?_
      intro v1 e1
      rw [e1, e59]
      exact ⟨_, r_v48_l hn rfl hn2 q (sp_n (g0 59) + 1) 0 g (Nat.zero_le _) (by omega) (hS.mono (fun k z => by unfold sp_t4; omega)) (fun j hj => hT j (by omega)) e59⟩
    · refine br_n (fun z => hi (by rw [e59, hn] at z; exact (pl_le (by omega) (by omega)).mp z)) ?_
      refine r_for (by unfold sp_rd; rw [e59]; exact hr) (by omega) (fun g1 h1 => ?_)
      refine ⟨pl_in (by omega) (by omega), fun g2 e2 v e3 => ?_⟩
      rw [e3, nI_1]
      rw [pl_clamp (by omega), e59] at e2
      have hS1 : sv_sm (fun k => k = 62 ∨ k = 71 ∨ k = 72) g0 g1 := hS.tr (h1.mono (fun k z => by unfold sp_tmp at z; omega))
      refine ih (i + 1) g2 (by omega) (by omega) (by rw [e2]; exact hS1.st (Or.inl rfl)) (fun j hj => ?_)
      by_cases ej : j = i
      · subst ej; rw [e2, st_at]
      · rw [e2, st_nk ej, h1 62 (by unfold sp_tmp; omega)]
        exact hT j (by omega)
/-- a vote, and all that follows -/
theorem r_votes {F : sv_Fr} {g : sv_Mg} {Q : sv_Mg → Prop} (hr : sp_rd g) (q : ∀ g', sv_sm sp_t4 g g' → g' 59 = sp_votes (g 59) → Q g') : wp_X7_votes F g Q :=
  ⟨_, r_v2_l hr q (sp_n (g 59) + 1) 0 g (Nat.zero_le _) (by omega) sv_sm.rf (fun j hj => absurd hj (Nat.not_lt_zero j))⟩
theorem r_round {F : sv_Fr} {g : sv_Mg} {Q : sv_Mg → Prop} (hr : sp_rd g) (q : ∀ g', sv_sm sp_t4 g g' → g' 59 = sp_round (g 59) → Q g') : wp_X7_round F g Q := by
  unfold sp_round at q
  have fin : ∀ g', sv_sm sp_t4 g g' → ∀ g'', g'' = sv_st g' 59 2 (g' 59 2 + 1) → g'' 59 = upd (g' 59) 2 (g' 59 2 + 1) ∧ sv_sm sp_t4 g g'' := by
    intro g' hS g'' e
    rw [e]
    exact ⟨upd_st, hS.st (Or.inl rfl)⟩
  by_cases c1 : 0 ≤ g 59 7
  · refine br_y c1 ?_
    intro g1 e1
    obtain ⟨h1, h2⟩ := fin g sv_sm.rf g1 e1
    exact q g1 h2 (by rw [if_pos (Or.inl c1)]; exact h1)
  · refine br_n c1 ?_
    by_cases c2 : g 59 1 ≤ 0
    · refine br_y c2 ?_
      intro g1 e1
      obtain ⟨h1, h2⟩ := fin g sv_sm.rf g1 e1
      exact q g1 h2 (by rw [if_pos (Or.inr c2)]; exact h1)
    · refine br_n c2 (r_votes hr (fun g1 h1 e1 => ?_))
      intro g2 e2
      obtain ⟨h3, h4⟩ := fin g1 h1 g2 e2
      exact q g2 h4 (by rw [if_neg (fun z => z.elim c1 c2), h3, e1])
