/-! check -/
/-- what check answers: j rounds to go, k done, w told, T what is told -/
def sp_ck (f T : Nat → Int32) (w : Nat) : Nat → Nat → Int32
  | 0, k => if w ≤ 2 * k then 0 else 1 + nI (2 * k)
  | j + 1, k => if 2 * k < w ∧ T (2 * k) = sp_it f (k + 1) 8 then (if 2 * k + 1 < w ∧ T (2 * k + 1) = nI (sp_top (sp_it f (k + 1))) then sp_ck f T w j (k + 1) else 1 + nI (2 * k + 1)) else 1 + nI (2 * k)
section CO
variable {F : sv_Fr} {g g' : sv_Mg} {a B : Nat} {f : Nat → Int32}
theorem sp_it_day {d : Nat} (hw : sp_W B f) (hd : f 2 = nI d) : ∀ k, sp_it f k 2 = nI (d + k)
  | 0 => hd
  | k + 1 => by rw [sp_it, sp_round_day (hw.it k), sp_it_day hw hd k, nI_1, Nat.add_assoc]
theorem k_told {i w : Nat} {x : Int32} {Q : Int32 → sv_Mg → Prop} (hw : w ≤ 60) (hi : i < 90000) (q1 : i < w ∧ g 56 i = x → Q 1 g) (q0 : ¬ (i < w ∧ g 56 i = x) → Q 0 g) : wp_X6_isTold F (nI i) (nI w) x g Q := by
  unfold wp_X6_isTold
  rw [show (60 : Int32) = nI 60 from rfl]
  by_cases c : i < w
  · refine br_n (fun z => absurd ((pl_le (by omega) (by omega)).mp z) (by omega)) (br_n (fun z => absurd ((pl_le (by omega) (by omega)).mp z) (by omega)) ⟨pl_in (by omega) (by omega), ?_⟩)
    rw [pl_clamp (by omega)]
    exact ⟨fun e => q1 ⟨c, e⟩, fun e => q0 (fun z => e z.2)⟩
  · exact br_y ((pl_le (by omega) (by omega)).mpr (by omega)) (q0 (fun z => c z.1))
theorem k_check_l {g1 : sv_Mg} {T : Nat → Int32} {w n d m : Nat} {R : Int32} {Q : Int32 → sv_Mg → Prop} (hL : sv_Lay F) (hW : sp_W B f) (hB : B + 100 < 90000) (hd : f 2 = nI d) (hd2 : d ≤ 9999) (hw : w ≤ 60) (hn : n ≤ 30) (hm : m = if 9999 - d < n then 9999 - d else n) (hT : ∀ k, k < w → g1 56 k = T k) (q : ∀ g', sv_sm iv_tp g1 g' → Q R g') :
    ∀ j k (g' : sv_Mg), j + k = m → 2 * k ≤ w → sv_sm iv_tp g1 g' → cr F g' 23 (sp_it f k) → sp_ck f T w j k = R → wp_X6_check_50 F Q (j + 1) (nI n) (nI w) (nI (2 * k)) (nI k) g' := by
  have mn : m ≤ n := by rw [hm]; split <;> omega
  have md : d + m ≤ 9999 := by rw [hm]; split <;> omega
  intro j
  induction j with
  | zero =>
    intro k g' hk h2 S C e
    have fin : wp_X6_check_128 F Q (nI w) (nI (2 * k)) g' := by
      rw [sp_ck] at e
      refine ⟨fun c => ?_, fun c => ?_⟩
      · rw [if_pos ((pl_le (by omega) (by omega)).mp c)] at e
        rw [e]; exact q g' S
      · rw [if_neg (fun z => c ((pl_le (by omega) (by omega)).mpr z))] at e
        rw [e]; exact q g' S
    refine ⟨fun _ => fin, fun c => ⟨fun _ => fin, fun c2 => ?_⟩⟩
    exfalso
    have c1 : ¬ n ≤ k := fun z => c ((pl_le (by omega) (by omega)).mpr z)
    have hmd : m = 9999 - d := by rw [hm]; rw [if_pos]; apply Classical.byContradiction; intro z; rw [if_neg z] at hm; omega
    apply c2
    rw [C.2.2, sp_it_day hW hd, show (9999 : Int32) = nI 9999 from rfl]
    exact (pl_le (by omega) (by omega)).mpr (by omega)
  | succ j ih =>
    intro k g' hk h2 S C e
    refine br_n (fun z => absurd ((pl_le (by omega) (by omega)).mp z) (by omega)) (br_n ?_ ?_)
    · rw [C.2.2, sp_it_day hW hd, show (9999 : Int32) = nI 9999 from rfl]
      exact fun z => absurd ((pl_le (by omega) (by omega)).mp z) (by omega)
    refine k_round hL sv_C23 C (hW.it k) (by omega) (fun g2 S2 C2 => ?_)
    have C2 : cr F g2 23 (sp_it f (k + 1)) := C2
    have S3 : sv_sm iv_tp g1 g2 := S.tr (iv_tp23 S2)
    have T3 : ∀ i, i < w → g2 56 i = T i := fun i hi => by rw [S3 56 (by unfold iv_tp; omega)]; exact hT i hi
    rw [sp_ck] at e
    refine k_told hw (by omega) (fun c => br_n ne10 ?_) (fun c => br_y rfl ?_)
    · have c' : 2 * k < w ∧ T (2 * k) = sp_it f (k + 1) 8 := ⟨c.1, by rw [← T3 _ c.1, c.2]; exact C2.1.1.2.2.2.2.2.2.2.2.1⟩
      rw [if_pos c'] at e
      intro v ev
      rw [nI_1] at ev
      subst ev
      refine k_top C2.1 (hW.it (k + 1)) ?_
      refine k_told hw (by omega) (fun c2 => br_n ne10 ?_) (fun c2 => br_y rfl ?_)
      · rw [if_pos ⟨c2.1, by rw [← T3 _ c2.1, c2.2]⟩] at e
        intro v ev u eu
        rw [nI_1] at ev eu
        subst ev; subst eu
        exact ih (k + 1) g2 (by omega) (by omega) S3 C2 e
      · rw [if_neg (fun z => c2 ⟨z.1, by rw [T3 _ z.1, z.2]⟩)] at e
        rw [e]; exact q g2 S3
    · rw [if_neg (fun z => c ⟨z.1, by rw [T3 _ z.1, z.2]; exact C2.1.1.2.2.2.2.2.2.2.2.1.symm⟩)] at e
      rw [e]; exact q g2 S3
def iv_ca (k : Nat) : Prop := k = 59 ∨ k = 62 ∨ k = 71 ∨ k = 72
theorem r_check_l {g1 : sv_Mg} {T : Nat → Int32} {w m : Nat} {R : Int32} {Q : Int32 → sv_Mg → Prop} (hW : sp_W B f) (hB : B + 100 < 90000) (hw : w ≤ 60) (hm : m ≤ 30) (hT : ∀ k, k < w → g1 81 k = T k) (q : ∀ g', sv_sm sp_t4 g1 g' → (∀ p, 71 ≤ p → g' 59 p = f p) → wp_X7_copyAll F 61 1443 59 1443 g' (fun g2 => Q R g2)) :
    ∀ j k (g' : sv_Mg), j + k = m → 2 * k ≤ w → sv_sm sp_t4 g1 g' → g' 59 = sp_it f k → sp_ck f T w j k = R → wp_X7_check_80 F Q (j + 2) (nI w) (nI (2 * m)) (nI (2 * k)) (nI k) g' := by
  have fin : ∀ r (g' : sv_Mg), r < 90000 → sv_sm sp_t4 g1 g' → (∀ p, 71 ≤ p → g' 59 p = f p) → (¬ (r = w ∧ r = 2 * m) → 1 + nI r = R) → (r = w → r = 2 * m → 0 = R) → wp_X7_check_181 F Q (nI w) (nI (2 * m)) (nI r) g' := by
    intro r g' hr S h71 e1 e2
    have := q g' S h71
    unfold wp_X7_check_181
    have hQ : (fun g_1 => ((nI r = nI w → ((nI r = nI (2 * m) → Q 0 g_1) ∧ (¬ nI r = nI (2 * m) → Q (1 + nI r) g_1))) ∧ (¬ nI r = nI w → Q (1 + nI r) g_1))) = (fun g2 => Q R g2) := by
      funext g2
      apply propext
      by_cases c1 : r = w
      · by_cases c2 : r = 2 * m
        · rw [← e2 c1 c2]
          exact ⟨fun z => (z.1 (by rw [c1])).1 (by rw [c2]), fun z => br_y (by rw [c1]) (br_y (by rw [c2]) z)⟩
        · rw [← e1 (fun z => c2 z.2)]
          have n2 : ¬ nI r = nI (2 * m) := fun z => c2 ((pl_eq (by omega) (by omega)).mp z)
          exact ⟨fun z => (z.1 (by rw [c1])).2 n2, fun z => br_y (by rw [c1]) (br_n n2 z)⟩
      · rw [← e1 (fun z => c1 z.1)]
        have n1 : ¬ nI r = nI w := fun z => c1 ((pl_eq (by omega) (by omega)).mp z)
        exact ⟨fun z => z.2 n1, fun z => br_n n1 z⟩
    rw [hQ]
    exact this
  intro j
  induction j with
  | zero =>
    intro k g' hk h2 S e59 e
    have hkm : k = m := by omega
    subst hkm
    refine br_y (by rw [show (2 : Int32) = nI 2 from rfl, pk_mul]; exact (pl_le (by omega) (by omega)).mpr (Nat.le_refl _)) ?_
    rw [sp_ck] at e
    refine fin (2 * k) g' (by omega) S (fun p hp => by rw [e59]; exact sp_it_71 hW hp k) (fun z => ?_) (fun z _ => ?_)
    · rw [if_neg (by omega)] at e; exact e
    · rw [if_pos (by omega)] at e; exact e
  | succ j ih =>
    intro k g' hk h2 S e59 e
    have p2 : (2 * nI k : Int32) = nI (2 * k) := by rw [show (2 : Int32) = nI 2 from rfl, pk_mul]
    have km : k < m := by omega
    refine br_n (by rw [p2]; exact fun z => absurd ((pl_le (by omega) (by omega)).mp z) (by omega)) (br_y p2.symm ?_)
    have hWk : sp_W (B + k) (g' 59) := by rw [e59]; exact hW.it k
    refine r_round hWk.rd (fun g2 S2 e2 => ?_)
    have e2 : g2 59 = sp_it f (k + 1) := by rw [e2, e59]; rfl
    have S3 : sv_sm sp_t4 g1 g2 := S.tr S2
    have T3 : ∀ i, i < w → g2 81 i = T i := fun i hi => by rw [S3 81 (by unfold sp_t4; omega)]; exact hT i hi
    have h71 : ∀ p, 71 ≤ p → g2 59 p = f p := fun p hp => by rw [e2]; exact sp_it_71 hW hp (k + 1)
    rw [sp_ck] at e
    -- stop with r told right
    have stop : ∀ r, (r = 2 * k ∨ r = 2 * k + 1) → 1 + nI r = R → wp_X7_check_80 F Q (j + 2) (nI w) (nI (2 * m)) (nI r) (nI (k + 1)) g2 := by
      intro r hr eR
      have p3 : (2 * nI (k + 1) : Int32) = nI (2 * (k + 1)) := by rw [show (2 : Int32) = nI 2 from rfl, pk_mul]
      have fr := fin r g2 (by omega) S3 h71 (fun _ => eR) (fun _ z => by omega)
      refine ⟨fun _ => fr, fun _ => br_n (by rw [p3]; exact fun z => absurd ((pl_eq (by omega) (by omega)).mp z) (by omega)) fr⟩
    have st1 : ∀ r, (r = 2 * k ∨ r = 2 * k + 1) → 1 + nI r = R → wp_X7_check_171 F Q (wp_X7_check_80 F Q (j + 2)) (nI w) (nI (2 * m)) (nI k) (nI r) g2 := by
      intro r hr eR v ev u eu
      rw [show nI r + 0 = nI r from nI_add r 0] at ev
      rw [nI_1] at eu
      subst ev; subst eu
      exact stop r hr eR
    have q21 : (2 * nI k + 1 : Int32) = nI (2 * k + 1) := by rw [p2, nI_1]
    -- the smoke is not told right
    have bad : 1 + nI (2 * k) = R → wp_X7_check_130 F Q (wp_X7_check_80 F Q (j + 2)) (nI w) (nI (2 * m)) (nI k) (nI (2 * k)) g2 := by
      intro eR v ev
      rw [show nI (2 * k) + 0 = nI (2 * k) from nI_add (2 * k) 0] at ev
      subst ev
      exact br_n (by rw [q21]; exact fun z => absurd ((pl_eq (by omega) (by omega)).mp z) (by omega)) (st1 (2 * k) (Or.inl rfl) eR)
    by_cases c : 2 * k < w
    · refine br_n (fun z => absurd ((pl_le (by omega) (by omega)).mp z) (by omega)) ⟨pl_in (by omega) (by omega), ?_⟩
      rw [pl_clamp (by omega), T3 _ c, e2]
      by_cases cT : T (2 * k) = sp_it f (k + 1) 8
      · rw [if_pos ⟨c, cT⟩] at e
        refine br_y cT ?_
        intro v ev
        rw [nI_1] at ev
        subst ev
        refine br_y q21.symm ?_
        by_cases c2 : 2 * k + 1 < w
        · refine br_n (fun z => absurd ((pl_le (by omega) (by omega)).mp z) (by omega)) ⟨pl_in (by omega) (by omega), ?_⟩
          have hWk1 : sp_W (B + (k + 1)) (g2 59) := by rw [e2]; exact hW.it (k + 1)
          refine r_mostHad hWk1.n hWk1.n2 ?_
          rw [pl_clamp (by omega), T3 _ c2, e2]
          by_cases cT2 : T (2 * k + 1) = nI (sp_top (sp_it f (k + 1)))
          · rw [if_pos ⟨c2, cT2⟩] at e
            refine br_y cT2 ?_
            intro v ev u eu
            rw [nI_1] at ev eu
            subst ev; subst eu
            exact ih (k + 1) g2 (by omega) (by omega) S3 e2 e
          · rw [if_neg (fun z => cT2 z.2)] at e
            exact br_n cT2 (st1 (2 * k + 1) (Or.inr rfl) e)
        · rw [if_neg (fun z => c2 z.1)] at e
          exact br_y ((pl_le (by omega) (by omega)).mpr (by omega)) (st1 (2 * k + 1) (Or.inr rfl) e)
      · rw [if_neg (fun z => cT z.2)] at e
        exact br_n cT (bad e)
    · rw [if_neg (fun z => c z.1)] at e
      exact br_y ((pl_le (by omega) (by omega)).mpr (by omega)) (bad e)
theorem iv_w0 (h : Inv F g) (a1 : g' 0 9 = 0) (a2 : g' 58 34 = 0) (e10 : g' 0 10 = g 0 10) (e3 : g' 58 3 = g 58 3) (e8 : g' 58 8 = g 58 8) (hk : ∀ k, k ≠ 0 → k ≠ 58 → ¬ iv_tp k → g' k = g k) : Inv F g' := h.wt ⟨0, by omega, a1, a2, fun k hk => absurd hk (by omega)⟩ e10 e3 e8 (fun k k1 k2 k3 k4 k5 => hk k k1 k3 k5)
theorem l_check (h : Inv F g) (v : Int32) : wp_X6_check F v g (fun r g1 => wp_X7_check F v g1 (fun r2 g2 => iv_E F r r2 g2)) := by
  obtain ⟨w, hw, e0, e58, hT⟩ := h.2.2.2.2.2.2.1
  intro v2 ev2 g1 e1
  rw [e0] at ev2
  subst ev2
  have S1 : sv_sm (fun k => k = 0) g g1 := by rw [e1]; exact sv_sm.rf.st rfl
  have f9 : g1 0 9 = 0 := by rw [e1, st_at]
  have f10 : g1 0 10 = g 0 10 := by rw [e1, st_nk (by omega)]
  have inv0 : ∀ g2 : sv_Mg, g2 = sv_st g1 58 34 0 → Inv F g2 := by
    intro g2 e2
    refine iv_w0 h ?_ ?_ ?_ ?_ ?_ (fun k k1 k2 k3 => ?_)
    · rw [e2, st_ne (by omega)]; exact f9
    · rw [e2, st_at]
    · rw [e2, st_ne (by omega)]; exact f10
    · rw [e2, st_nk (by omega), S1 58 (by omega)]
    · rw [e2, st_nk (by omega), S1 58 (by omega)]
    · rw [e2, st_ne k2, S1 k k1]
  rcases iv_rng2 v (l := 1) (n := 30) (by omega) (by omega) with hv | ⟨n, n1, n30, rfl⟩
  · refine k_in_n hv (br_y rfl ?_)
    intro v3 ev3 g2 e2
    exact r_in_n hv (br_y rfl ⟨rfl, inv0 g2 e2⟩)
  refine k_rng_y 1 30 rfl rfl rfl n1 n30 (by omega) (br_n ne10 ?_)
  rcases h.2.2.1 with ⟨i1, i2⟩ | ⟨i1, i2, i3, i4, i5⟩
  · refine br_y (by rw [f10]; exact i1) ?_
    intro v3 ev3 g2 e2
    refine r_rng_y 1 30 rfl rfl rfl n1 n30 (by omega) (br_n ne10 (br_y ?_ ⟨rfl, inv0 g2 e2⟩))
    rw [e2, st_nk (by omega), S1 58 (by omega)]; exact i2
  refine br_n (by rw [f10, i1]; exact ne10) ?_
  refine k_become h.L sv_C23 sv_C15 (by omega) (i4.mv h.L (fun k z => S1 k (by omega))) i3 (fun g2 S2 C2 => ?_)
  obtain ⟨d, hd, hdB, hWd⟩ := i3.at
  obtain ⟨f, hf⟩ : ∃ f : Nat → Int32, f = fun p => if p < 1443 then g 60 p else g 59 p := ⟨_, rfl⟩
  have h43 : sp_43 (g 60) f := fun p hp => by rw [hf]; exact if_pos hp
  have W6 : sp_W d f := hWd.c43 h43
  have hdf : f 2 = nI d := by rw [h43 2 (by omega)]; exact hd
  obtain ⟨m, hm⟩ : ∃ m, m = if 9999 - d < n then 9999 - d else n := ⟨_, rfl⟩
  have mn : m ≤ 30 := by rw [hm]; split <;> omega
  have S2' : sv_sm (fun k => k = 0 ∨ iv_tp k) g g2 := (S1.mono (fun k z => Or.inl z)).tr ((iv_tpa S2).mono (fun k z => Or.inr z))
  refine ⟨m + 1, k_check_l (f := f) (T := g 56) (d := d) (m := m) (B := d) h.L W6 (by omega) hdf hdB hw n30 hm (fun k _ => by rw [S2' 56 (by unfold iv_tp; omega)]) (fun g3 S3 => ?_) m 0 g2 (by omega) (by omega) sv_sm.rf (C2.c43 hWd h43) rfl⟩
  have S3' : sv_sm (fun k => k = 0 ∨ iv_tp k) g g3 := S2'.tr (S3.mono (fun k z => Or.inr z))
  have z0 : g3 0 = g1 0 := by rw [S3 0 (by unfold iv_tp; omega), S2 0 (by unfold sp_fa; omega)]
  intro v3 ev3 g4 e4
  rw [S3' 58 (by unfold iv_tp; omega), e58] at ev3
  subst ev3
  have S4 : sv_sm (fun k => k = 0 ∨ k = 58 ∨ iv_tp k) g g4 := by rw [e4]; exact (S3'.mono (fun k z => z.elim Or.inl (fun z => Or.inr (Or.inr z)))).st (Or.inr (Or.inl rfl))
  have q58 : ∀ p, p ≠ 34 → g4 58 p = g 58 p := fun p hp => by rw [e4, st_nk hp, S3' 58 (by unfold iv_tp; omega)]
  refine r_rng_y 1 30 rfl rfl rfl n1 n30 (by omega) (br_n ne10 (br_n (by rw [q58 3 (by omega), i2]; exact ne10) ?_))
  refine r_copyAll (by omega) (fun g5 S5 c5 d5 => r_copyAll (by omega) (fun g6 S6 c6 d6 => r_within ?_))
  have e59 : g4 59 = g 59 := S4 59 (by unfold iv_tp; omega)
  have e60 : g5 60 = g 60 := by rw [S5 60 (by omega), S4 60 (by unfold iv_tp; omega)]
  have E6 : g6 59 = f := by
    funext p
    rw [hf]
    by_cases hp : p < 1443
    · rw [c6 p hp, e60]; exact (if_pos hp).symm
    · rw [d6 p (by omega), S5 59 (by omega), e59]; exact (if_neg hp).symm
  have eM : (if (9999 - (g6 59 2)) < 0 then 0 else if nI n < (9999 - (g6 59 2)) then nI n else (9999 - (g6 59 2))) = nI m := by
    rw [E6, hdf, show (9999 : Int32) = nI 9999 from rfl, pk_sub (by omega), if_neg (pl_nn (by omega)), hm]
    by_cases c : n < 9999 - d
    · rw [if_pos ((pl_lt (by omega) (by omega)).mpr c), if_neg (by omega)]
    · rw [if_neg (fun z => c ((pl_lt (by omega) (by omega)).mp z))]
      by_cases c2 : 9999 - d < n
      · rw [if_pos c2]
      · rw [if_neg c2]; congr 1; omega
  rw [eM]
  intro v4 ev4
  rw [show (2 : Int32) = nI 2 from rfl, pk_mul] at ev4
  subst ev4
  refine ⟨m + 2, r_check_l (f := f) (T := g 56) (B := d) (g1 := g6) (R := sp_ck f (g 56) w m 0) W6 (by omega) hw mn (fun k hk => ?_) (fun g7 S7 h71 => ?_) m 0 g6 (by omega) (by omega) sv_sm.rf E6 rfl⟩
  · rw [S6 81 (by omega), S5 81 (by omega), S4 81 (by unfold iv_tp; omega)]; exact (hT k hk).symm
  refine r_copyAll (by omega) (fun g8 S8 c8 d8 => ⟨rfl, ?_⟩)
  have fk : ∀ k, k ≠ 59 → k ≠ 61 → k ≠ 62 → k ≠ 71 → k ≠ 72 → g8 k = g4 k := fun k k1 k2 k3 k4 k5 => by rw [S8 k k1, S7 k (by unfold sp_t4; omega), S6 k k1, S5 k k2]
  have E59 : g8 59 = g 59 := by
    funext p
    by_cases hp : p < 1443
    · rw [c8 p hp, S7 61 (by unfold sp_t4; omega), S6 61 (by omega), c5 p hp, e59]
    · rw [d8 p (by omega), h71 p (by omega), hf]; exact if_neg hp
  refine iv_w0 h ?_ ?_ ?_ ?_ ?_ (fun k k1 k2 k3 => ?_)
  · rw [fk 0 (by omega) (by omega) (by omega) (by omega) (by omega), e4, st_ne (by omega), z0]; exact f9
  · rw [fk 58 (by omega) (by omega) (by omega) (by omega) (by omega), e4, st_at]
  · rw [fk 0 (by omega) (by omega) (by omega) (by omega) (by omega), e4, st_ne (by omega), z0]; exact f10
  · rw [fk 58 (by omega) (by omega) (by omega) (by omega) (by omega)]; exact q58 3 (by omega)
  · rw [fk 58 (by omega) (by omega) (by omega) (by omega) (by omega)]; exact q58 8 (by omega)
  · by_cases c59 : k = 59
    · subst c59; exact E59
    · rw [fk k c59 (by unfold iv_tp at k3; omega) (by unfold iv_tp at k3; omega) (by unfold iv_tp at k3; omega) (by unfold iv_tp at k3; omega)]
      exact S4 k (by unfold iv_tp at k3; unfold iv_tp; omega)
end CO
