/-! SHEETS: sheet, mark, copy -/
section CK
variable {F : sv_Fr} {g g' : sv_Mg} {a B : Nat} {f : Nat → Int32}
theorem k_clear {s n : Int32} {Q : sv_Mg → Prop} (q : ∀ g', sv_sm (fun k => k = a ∨ k = a + 1) g g' → g' a 1 = s → g' a 2 = n → (∀ k, k < 24 → g' (a + 1) k = 0) → Q g') : wp_X4_clear F a s n g Q := by
  intro g1 e1 g2 e2
  refine k_fill (by omega) (fun g3 h3 f3 => ?_)
  have S2 : sv_sm (fun k => k = a ∨ k = a + 1) g g2 := by
    rw [e2, e1]; exact (sv_sm.rf.st (Or.inl rfl)).st (Or.inl rfl)
  refine q g3 (S2.tr (h3.mono (fun k z => Or.inr z))) ?_ ?_ f3
  · rw [h3 a (by omega), e2, st_nk (by omega), e1, st_at]
  · rw [h3 a (by omega), e2, st_at]
theorem r_clear {i : Nat} {s n : Int32} {Q : Int32 → sv_Mg → Prop} (hi : i ≤ 3) (q : ∀ g', sv_sm (fun k => 73 ≤ k ∧ k ≤ 75) g g' → g' 73 = upd (g 73) i s → g' 74 = upd (g 74) i n → (∀ k, k < 24 → g' 75 (24 * i + k) = 0) → (∀ p, p < 24 * i ∨ 24 * i + 24 ≤ p → g' 75 p = g 75 p) → Q n g') : vp_in (nI i) 4 ∧ ∀ g_10, g_10 = sv_st g 73 (nI i).toNatClampNeg s → wp_X7_sheet_62 F Q (nI i) n (nI i) g_10 := by
  have i4 : vp_in (nI i) 4 := pl_in (by omega) (by omega)
  refine ⟨i4, fun g1 e1 => ⟨i4, fun g2 e2 => ?_⟩⟩
  rw [pl_clamp (by omega)] at e1 e2
  have S2 : sv_sm (fun k => 73 ≤ k ∧ k ≤ 75) g g2 := by
    rw [e2, e1]; exact (sv_sm.rf.st ⟨by omega, by omega⟩).st ⟨by omega, by omega⟩
  have ei : ∀ k, ((24 * nI i) + nI k : Int32) = nI (24 * i + k) := fun k => by rw [pl_lit 24, pk_mul, nI_add]
  have go : ∀ m k g', k ≤ 24 → 25 ≤ k + m → sv_sm (fun k => k = 75) g2 g' → (∀ j, j < k → g' 75 (24 * i + j) = 0) → (∀ p, p < 24 * i ∨ 24 * i + 24 ≤ p → g' 75 p = g2 75 p) → wp_X7_sheet_66 F Q m (nI i) (nI k) g' := by
    intro m
    induction m with
    | zero => intro k g' h1 h2; omega
    | succ m ih =>
      intro k g' h1 h2 S z1 z2
      rw [wp_X7_sheet_66, ei, pl_clamp (n := 24 * i + k) (by omega), pl_clamp (n := i) (by omega), pl_lit 24]
      by_cases hk : 24 ≤ k
      · refine br_y ((pl_le (by omega) (by omega)).mpr hk) ⟨i4, ?_⟩
        have e74 : g' 74 = upd (g 74) i n := by rw [S 74 (by omega), e2, upd_st, e1, st_ne (by omega)]
        rw [e74, pk_us]
        refine q g' (S2.tr (S.mono (fun k z => by omega))) ?_ e74 (fun k hk => z1 k (by omega)) (fun p hp => ?_)
        · rw [S 73 (by omega), e2, st_ne (by omega), e1, upd_st]
        · rw [z2 p hp, e2, st_ne (by omega), e1, st_ne (by omega)]
      · refine br_n (fun z => hk ((pl_le (by omega) (by omega)).mp z)) ⟨pl_in (by omega) (by omega), ?_⟩
        intro g3 e3 v4 e4
        rw [e4, nI_1]
        refine ih (k + 1) g3 (by omega) (by omega) (by rw [e3]; exact S.st rfl) (fun j hj => ?_) (fun p hp => ?_)
        · rw [e3]
          by_cases ej : j = k
          · subst ej; exact st_at
          · rw [st_nk (by omega)]; exact z1 j (by omega)
        · rw [e3, st_nk (by omega)]; exact z2 p hp
  exact ⟨_, go 25 0 g2 (by omega) (by omega) sv_sm.rf (fun j hj => absurd hj (Nat.not_lt_zero j)) (fun p _ => rfl)⟩
theorem pl_m101 {v : Int32} (h1 : ¬ v < -1) (h2 : ¬ 1 < v) : v = -1 ∨ v = 0 ∨ v = 1 := by
  have a1 : ¬ v.toInt < -1 := fun z => h1 (Int32.lt_iff_toInt_lt.mpr z)
  have a2 : ¬ 1 < v.toInt := fun z => h2 (Int32.lt_iff_toInt_lt.mpr z)
  have : v.toInt = -1 ∨ v.toInt = 0 ∨ v.toInt = 1 := by omega
  rcases this with z | z | z
  · exact Or.inl (Int32.toInt_inj.mp z)
  · exact Or.inr (Or.inl (Int32.toInt_inj.mp z))
  · exact Or.inr (Or.inr (Int32.toInt_inj.mp z))
theorem iv_num0 : iv_num 0 := Or.inr ⟨by decide, by decide⟩
/-- one sheet is new, on both sides -/
theorem iv_clear {g1 g2 : sv_Mg} {i n : Nat} {s : Int32} (h : Inv F g) (hi : i ≤ 3) (hs : s = -1 ∨ s = 0 ∨ s = 1) (hn : n ≤ 24) (S1 : sv_sm (fun k => k = 32 + 2 * i ∨ k = 32 + 2 * i + 1) g g1) (c1 : g1 (32 + 2 * i) 1 = s) (c2 : g1 (32 + 2 * i) 2 = nI n) (c3 : ∀ k, k < 24 → g1 (32 + 2 * i + 1) k = 0) (S2 : sv_sm (fun k => 73 ≤ k ∧ k ≤ 75) g1 g2) (d1 : g2 73 = upd (g1 73) i s) (d2 : g2 74 = upd (g1 74) i (nI n)) (d3 : ∀ k, k < 24 → g2 75 (24 * i + k) = 0) (d4 : ∀ p, p < 24 * i ∨ 24 * i + 24 ≤ p → g2 75 p = g1 75 p) : Inv F g2 := by
  refine h.sh (fun j hj => ?_) (fun k k1 k2 k3 => ?_)
  · by_cases ej : j = i
    · subst ej
      have e33 : ∀ k, k < 24 → g2 (33 + 2 * j) k = 0 := fun k hk => by
        rw [S2 _ (by omega), show 33 + 2 * j = 32 + 2 * j + 1 by omega]; exact c3 k hk
      refine ⟨?_, ?_, fun k hk => ⟨?_, ?_, fun _ => ?_⟩, ?_, n, hn, ?_⟩
      · rw [S2 _ (by omega), c1, d1, pk_us]
      · rw [S2 _ (by omega), c2, d2, pk_us]
      · rw [e33 k hk, d3 k hk]
      · rw [d3 k hk]; exact iv_num0
      · rw [d3 k hk]; decide
      · rw [d1, pk_us]; exact hs
      · rw [d2, pk_us]
    · refine (h.2.2.2.2.1 j hj).mv ?_ ?_ ?_ ?_ (fun k hk => ?_)
      · rw [S2 _ (by omega), S1 _ (by omega)]
      · rw [S2 _ (by omega), S1 _ (by omega)]
      · rw [d1, pk_un ej, S1 73 (by omega)]
      · rw [d2, pk_un ej, S1 74 (by omega)]
      · rw [d4 _ (by omega), S1 75 (by omega)]
  · rw [S2 k k2, S1 k (by omega)]
theorem l_sheet (h : Inv F g) (v w x : Int32) : wp_X6_sheet F v w x g (fun r g1 => wp_X7_sheet F v w x g1 (fun r2 g2 => iv_E F r r2 g2)) := by
  rcases iv_rng v (n := 3) (by omega) with hv | ⟨i, hi, rfl⟩
  · exact k_sh_n hv (br_y rfl (r_sh_n hv (br_y rfl ⟨rfl, h⟩)))
  have i4 : vp_in (nI i) 4 := pl_in (by omega) (by omega)
  rcases pl_in_iff w (-1) 1 with hw | hw
  · refine k_sh_y hi (br_n ne10 (k_in_y hw.1 hw.2 (br_n ne10 ?_)))
    rw [pl_clamp (by omega)]
    have pre : ∀ (g1 : sv_Mg) (Q : Int32 → sv_Mg → Prop), ((w < 0 → wp_X7_sheet_29 F Q (nI i) w x g1) ∧ (¬ w < 0 → ((x ≤ 24 → wp_X7_sheet_29 F Q (nI i) w x g1) ∧ (¬ x ≤ 24 → Q (-1000000001) g1)))) → wp_X7_sheet F (nI i) w x g1 Q := fun g1 Q q => r_sh_y hi (br_n ne10 (r_in_y hw.1 hw.2 (br_n ne10 q)))
    have hs := pl_m101 hw.1 hw.2
    by_cases cm : w = -1
    · refine br_y cm ⟨i4, k_clear (fun g1 S1 c1 c2 c3 => ?_)⟩
      have w0 : w < 0 := by rw [cm]; decide
      have w0' : ¬ 0 ≤ w := by rw [cm]; decide
      refine pre g1 _ (br_y w0 (br_y w0 ?_))
      have := r_clear (F := F) (g := g1) (i := i) (s := w) (n := 0) (Q := fun r2 g2 => iv_E F 0 r2 g2) hi (fun g2 S2 d1 d2 d3 d4 => ⟨rfl, iv_clear (n := 0) h hi hs (by omega) S1 (by rw [c1, cm]) c2 c3 S2 d1 d2 d3 d4⟩)
      exact ⟨this.1, fun g10 e10 => br_n w0' (this.2 g10 e10)⟩
    · have w0 : ¬ w < 0 := by
        rcases hs with z | z | z
        · exact absurd z cm
        · rw [z]; decide
        · rw [z]; decide
      have w0' : 0 ≤ w := Int32.not_lt.mp w0
      refine br_n cm ?_
      by_cases cx : x ≤ 24
      · refine br_y cx ?_
        by_cases cx0 : 0 ≤ x
        · obtain ⟨n, hn, rfl⟩ := pl_rng (x := x) (n := 24) (by omega) (Int32.not_lt.mpr cx0) (Int32.not_lt.mpr cx)
          refine br_y cx0 ⟨i4, k_clear (fun g1 S1 c1 c2 c3 => ?_)⟩
          refine pre g1 _ (br_n w0 (br_y cx (br_n w0 (br_y cx0 ?_))))
          have := r_clear (F := F) (g := g1) (i := i) (s := w) (n := nI n) (Q := fun r2 g2 => iv_E F (nI n) r2 g2) hi (fun g2 S2 d1 d2 d3 d4 => ⟨rfl, iv_clear (n := n) h hi hs hn S1 c1 c2 c3 S2 d1 d2 d3 d4⟩)
          exact ⟨this.1, fun g10 e10 => br_y w0' (this.2 g10 e10)⟩
        · exact br_n cx0 (pre g _ (br_n w0 (br_y cx (br_n w0 (br_n cx0 ⟨rfl, h⟩)))))
      · exact br_n cx (pre g _ (br_n w0 (br_n cx ⟨rfl, h⟩)))
  · exact k_sh_y hi (br_n ne10 (k_in_n hw (br_y rfl (r_sh_y hi (br_n ne10 (r_in_n hw (br_y rfl ⟨rfl, h⟩)))))))
/-! mark -/
theorem iv_short (v : Int32) : iv_num v.toInt16.toInt32 ∧ v.toInt16.toInt32 ≠ -1000000005 := by
  have e : v.toInt16.toInt32.toInt = v.toInt16.toInt := Int16.toInt_toInt32 _
  have h1 := Int16.le_toInt v.toInt16
  have h2 := Int16.toInt_lt v.toInt16
  refine ⟨Or.inr ⟨by rw [e]; omega, by rw [e]; omega⟩, fun z => ?_⟩
  rw [z] at e
  have : (-1000000005 : Int32).toInt = -1000000005 := rfl
  omega
theorem iv_float {v : Int32} (h1 : ¬ v < -99999) (h2 : ¬ 99999 < v) : iv_num v := by
  have m1 : (-99999 : Int32).toInt = -99999 := rfl
  have m2 : (99999 : Int32).toInt = 99999 := rfl
  have a1 : ¬ v.toInt < -99999 := fun z => h1 (Int32.lt_iff_toInt_lt.mpr (by rw [m1]; exact z))
  have a2 : ¬ 99999 < v.toInt := fun z => h2 (Int32.lt_iff_toInt_lt.mpr (by rw [m2]; exact z))
  exact Or.inr ⟨by omega, by omega⟩
/-- one place is marked, on both sides -/
theorem iv_mark {g1 g2 : sv_Mg} {i p : Nat} {x : Int32} (h : Inv F g) (hi : i ≤ 3) (hp : p < 24) (hx : iv_num x) (hx0 : g 73 i = 0 → x ≠ -1000000005) (e1 : g1 = sv_st g (32 + 2 * i + 1) p x) (e2 : g2 = sv_st g1 75 (24 * i + p) x) : Inv F g2 := by
  refine h.sh (fun j hj => ?_) (fun k k1 k2 k3 => ?_)
  · have e73 : g2 73 = g 73 := by rw [e2, st_ne (by omega), e1, st_ne (by omega)]
    have e74 : g2 74 = g 74 := by rw [e2, st_ne (by omega), e1, st_ne (by omega)]
    have e32 : ∀ j, g2 (32 + 2 * j) = g (32 + 2 * j) := fun j => by
      by_cases z : 32 + 2 * j = 75
      · omega
      · rw [e2, st_ne z, e1, st_ne (by omega)]
    obtain ⟨s1, s2, s3, s4, s5⟩ := h.2.2.2.2.1 j hj
    refine ⟨by rw [e32, e73]; exact s1, by rw [e32, e74]; exact s2, fun k hk => ?_, by rw [e73]; exact s4, by rw [e74]; exact s5⟩
    rw [e73]
    by_cases ejk : j = i ∧ k = p
    · obtain ⟨rfl, rfl⟩ := ejk
      have x1 : g2 (33 + 2 * j) k = x := by rw [e2, st_ne (by omega), e1, show 33 + 2 * j = 32 + 2 * j + 1 by omega, st_at]
      have x2 : g2 75 (24 * j + k) = x := by rw [e2, st_at]
      rw [x1, x2]
      exact ⟨rfl, hx, hx0⟩
    · have x1 : g2 (33 + 2 * j) k = g (33 + 2 * j) k := by
        rw [e2, st_ne (by omega), e1]
        by_cases z : j = i
        · subst z
          rw [show 33 + 2 * j = 32 + 2 * j + 1 by omega, st_nk (fun z => ejk ⟨rfl, z⟩)]
        · rw [st_ne (by omega)]
      have x2 : g2 75 (24 * j + k) = g 75 (24 * j + k) := by
        rw [e2, st_nk (by omega), e1, st_ne (by omega)]
      rw [x1, x2]; exact s3 k hk
  · rw [e2, st_ne (by omega), e1, st_ne (by omega)]
theorem l_mark (h : Inv F g) (v w x : Int32) : wp_X6_mark F v w x g (fun r g1 => wp_X7_mark F v w x g1 (fun r2 g2 => iv_E F r r2 g2)) := by
  rcases iv_rng v (n := 3) (by omega) with hv | ⟨i, hi, rfl⟩
  · exact k_sh_n hv (br_y rfl (r_sh_n hv (br_y rfl ⟨rfl, h⟩)))
  have i4 : vp_in (nI i) 4 := pl_in (by omega) (by omega)
  refine k_sh_y hi (br_n ne10 ⟨i4, ?_⟩)
  have cl : (nI i).toNatClampNeg = i := pl_clamp (by omega)
  rw [cl]
  obtain ⟨s1, s2, s3, s4, n, hn, s5⟩ := h.2.2.2.2.1 i (by omega)
  have pre : ∀ (g1 : sv_Mg) (Q : Int32 → sv_Mg → Prop), g1 73 = g 73 → g1 74 = g 74 → ((0 ≤ (g 73 i) → wp_X7_in F w 0 (nI n - 1) g1 (fun r_20 g_19 => ((r_20 = 0 → Q (-1000000013) g_19) ∧ (¬ r_20 = 0 → vp_in (nI i) 4 ∧ (((g_19 73 i) = 0 → ((x = (-1000000005) → Q (-1000000012) g_19) ∧ (¬ x = (-1000000005) → wp_X7_mark_60 F Q (nI i) w x g_19))) ∧ (¬ (g_19 73 i) = 0 → wp_X7_mark_60 F Q (nI i) w x g_19)))))) ∧ (¬ 0 ≤ (g 73 i) → Q (-1000000011) g1)) → wp_X7_mark F (nI i) w x g1 Q := by
    intro g1 Q e73 e74 q
    refine r_sh_y hi (br_n ne10 ⟨i4, ?_⟩)
    rw [cl, e73, e74, s5]
    exact ⟨fun c => ⟨i4, q.1 c⟩, q.2⟩
  by_cases cm : g 73 i = -1
  · exact br_y (by rw [s1]; exact cm) (br_n ne10 (pre g _ rfl rfl (br_n (by rw [cm]; decide) ⟨rfl, h⟩)))
  have c0 : 0 ≤ g 73 i := by
    rcases s4 with z | z | z
    · exact absurd z cm
    · rw [z]; decide
    · rw [z]; decide
  refine br_n (by rw [s1]; exact cm) (br_y rfl ?_)
  rcases pl_ix w (n := n) (by omega) with ⟨p, hp, rfl⟩ | hw
  · refine br_n (pl_nn (by omega)) ?_
    rw [s2, s5]
    refine br_n (fun z => absurd ((pl_le (by omega) (by omega)).mp z) (by omega)) (br_n ne10 ?_)
    rw [s1]
    have ei : ((24 * nI i) + nI p : Int32) = nI (24 * i + p) := by rw [pl_lit 24, pk_mul, nI_add]
    have pre2 : ∀ (g1 : sv_Mg) (Q : Int32 → sv_Mg → Prop), g1 73 = g 73 → g1 74 = g 74 → (((g 73 i) = 0 → ((x = (-1000000005) → Q (-1000000012) g1) ∧ (¬ x = (-1000000005) → wp_X7_mark_60 F Q (nI i) (nI p) x g1))) ∧ (¬ (g 73 i) = 0 → wp_X7_mark_60 F Q (nI i) (nI p) x g1)) → wp_X7_mark F (nI i) (nI p) x g1 Q := by
      intro g1 Q e73 e74 q
      refine pre g1 Q e73 e74 (br_y c0 (r_in_y (pl_nn (by omega)) ?_ (br_n ne10 ⟨i4, ?_⟩)))
      · rw [pl_pred (by omega)]
        exact fun z => absurd ((pl_lt (by omega) (by omega)).mp z) (by omega)
      · rw [e73]; exact q
    have r92 : ∀ (g1 : sv_Mg) (y : Int32) (Q : Int32 → sv_Mg → Prop), g1 73 = g 73 → (g 73 i = 0 → y = x.toInt16.toInt32) → (¬ g 73 i = 0 → y = x) → Q 1 (sv_st g1 75 (24 * i + p) y) → wp_X7_mark_92 F Q (nI i) (nI p) x g1 := by
      intro g1 y Q e73 y1 y2 q
      refine ⟨i4, ?_⟩
      rw [cl, e73, ei, pl_clamp (by omega)]
      refine ⟨fun c => ⟨pl_in (by omega) (by omega), fun g2 e2 => ?_⟩, fun c => ⟨pl_in (by omega) (by omega), fun g2 e2 => ?_⟩⟩
      · rw [e2, ← y1 c]; exact q
      · rw [e2, ← y2 c]; exact q
    have i24 : vp_in (nI p) 24 := pl_in (by omega) (by omega)
    rw [pl_clamp (n := p) (by omega)]
    by_cases cs : g 73 i = 0
    · refine br_y cs ?_
      by_cases cn : x = -1000000005
      · exact br_y cn (pre2 g _ rfl rfl (br_y cs (br_y cn ⟨rfl, h⟩)))
      · refine br_n cn ⟨i24, fun g1 e1 => ?_⟩
        have e73 : g1 73 = g 73 := by rw [e1, st_ne (by omega)]
        refine pre2 g1 _ e73 (by rw [e1, st_ne (by omega)]) (br_y cs (br_n cn ⟨i4, ?_⟩))
        rw [cl, e73, cs]
        refine br_n (by decide) (r92 g1 x.toInt16.toInt32 _ e73 (fun _ => rfl) (fun c => absurd cs c) ⟨rfl, iv_mark h hi (by omega) (iv_short x).1 (fun _ => (iv_short x).2) e1 rfl⟩)
    · have cs1 : g 73 i = 1 := by
        rcases s4 with z | z | z
        · exact absurd z cm
        · exact absurd z cs
        · exact z
      refine br_n cs ?_
      have done : ∀ g1, g1 = sv_st g (32 + 2 * i + 1) p x → iv_num x → (x = -1000000005 ∨ (¬ x < -99999 ∧ ¬ 99999 < x)) → wp_X7_mark F (nI i) (nI p) x g1 (fun r2 g2 => iv_E F 1 r2 g2) := by
        intro g1 e1 hx hx2
        have e73 : g1 73 = g 73 := by rw [e1, st_ne (by omega)]
        have fin : wp_X7_mark_92 F (fun r2 g2 => iv_E F 1 r2 g2) (nI i) (nI p) x g1 := r92 g1 x _ e73 (fun c => absurd c cs) (fun _ => rfl) ⟨rfl, iv_mark h hi (by omega) hx (fun c => absurd c cs) e1 rfl⟩
        refine pre2 g1 _ e73 (by rw [e1, st_ne (by omega)]) (br_n cs ⟨i4, ?_⟩)
        rw [cl, e73]
        refine br_y cs1 ⟨fun _ => fin, fun cn => ?_⟩
        have := hx2.resolve_left cn
        exact r_in_y this.1 this.2 (br_n ne10 fin)
      refine ⟨fun cn => ⟨i24, fun g1 e1 => done g1 e1 (Or.inl cn) (Or.inl cn)⟩, fun cn => ?_⟩
      rcases pl_in_iff x (-99999) 99999 with hx | hx
      · exact k_in_y hx.1 hx.2 (br_n ne10 ⟨i24, fun g1 e1 => done g1 e1 (iv_float hx.1 hx.2) (Or.inr hx)⟩)
      · refine k_in_n hx (br_y rfl (pre2 g _ rfl rfl (br_n cs ⟨i4, ?_⟩)))
        rw [cl]
        exact br_y cs1 (br_n cn (r_in_n hx (br_y rfl ⟨rfl, h⟩)))
  · have ref : ∀ Q : Int32 → sv_Mg → Prop, Q (-1000000013) g → wp_X7_mark F (nI i) w x g Q := fun Q q => pre g Q rfl rfl (br_y c0 (r_in_n (iv_ub (by omega) hw) (br_y rfl q)))
    by_cases cw : w < 0
    · exact br_y cw (br_y rfl (ref _ ⟨rfl, h⟩))
    · refine br_n cw ?_
      rw [s2, s5]
      exact br_y (hw.resolve_left cw) (br_y rfl (ref _ ⟨rfl, h⟩))
end CK
