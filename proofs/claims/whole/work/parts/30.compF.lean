/-! BECOMING, CONVINCING, COMING, STARTING OVER; thinks and putsBack -/
theorem bc_s {R : Nat → Prop} {g g1 : sv_Mg} {a a1 i : Nat} (hR : R a) (hR1 : ¬ R a1) (h : sv_sm R g g1 ∧ ∀ p, 8 ≤ p → p < i → g1 a p = g a1 p) {g2 : sv_Mg} (e : g2 = sv_st g1 a i (g1 a1 i)) : sv_sm R g g2 ∧ ∀ p, 8 ≤ p → p < i + 1 → g2 a p = g a1 p := by
  subst e
  refine ⟨h.1.st hR, fun p h1 h2 => ?_⟩
  by_cases ep : p = i
  · subst ep; rw [st_at, h.1 a1 hR1]
  · rw [st_nk ep]; exact h.2 p h1 (by omega)
theorem bc_a {R : Nat → Prop} {g g1 : sv_Mg} {a a1 j : Nat} (hR : R (a + j)) (hR1 : ¬ R (a1 + j)) (hj : 1 ≤ j) (h : sv_sm R g g1 ∧ (∀ p, 8 ≤ p → p < 19 → g1 a p = g a1 p) ∧ ∀ i, 1 ≤ i → i < j → ∀ v, v < 10 → g1 (a + i) v = g (a1 + i) v) {g2 : sv_Mg} (e : g2 = sv_sa g1 (a + j) (va_cpy (g1 (a1 + j)) (g1 (a + j)) 0 0 10)) :
    sv_sm R g g2 ∧ (∀ p, 8 ≤ p → p < 19 → g2 a p = g a1 p) ∧ ∀ i, 1 ≤ i → i < j + 1 → ∀ v, v < 10 → g2 (a + i) v = g (a1 + i) v := by
  subst e
  refine ⟨h.1.sa hR, fun p h1 h2 => ?_, fun i h1 h2 v hv => ?_⟩
  · rw [sa_ne (by omega)]; exact h.2.1 p h1 h2
  · by_cases ei : i = j
    · subst ei
      rw [sa_at, pk_cpy_in (by omega) (by omega), h.1 _ hR1]
      congr 1; omega
    · rw [sa_ne (by omega)]; exact h.2.2 i h1 (by omega) v hv
section KF
variable {F : sv_Fr} {g : sv_Mg} {a a1 B : Nat} {f : Nat → Int32}
def sp_fa (a : Nat) : Nat → Prop := fun k => a ≤ k ∧ k ≤ a + 7
theorem k_become {Q : sv_Mg → Prop} (hL : sv_Lay F) (ha : sv_isC a) (ha1 : sv_isC a1) (hne : a ≠ a1) (hc : cr F g a1 f) (hw : sp_W B f) (q : ∀ g', sv_sm (sp_fa a) g g' → cr F g' a f → Q g') : wp_X0_become F a a1 g Q := by
  have dj : ∀ j, j ≤ 7 → ¬ sp_fa a (a1 + j) := by
    intro j hj z
    unfold sp_fa at z
    rcases ha with h | h | h <;> rcases ha1 with h' | h' | h' <;> omega
  have dj0 : ¬ sp_fa a a1 := dj 0 (by omega)
  have ra : sp_fa a a := ⟨by omega, by omega⟩
  have rj : ∀ j, j ≤ 7 → sp_fa a (a + j) := fun j hj => ⟨by omega, by omega⟩
  have a75 : a + 7 < 82 := by rcases ha with h | h | h <;> omega
  intro g1 e1 g2 e2 g3 e3 g4 e4 g5 e5 g6 e6 g7 e7 g8 e8 g9 e9 g10 e10 g11 e11
  have t := bc_s (g := g) (g1 := g) (a := a) (a1 := a1) (i := 8) ra dj0 ⟨sv_sm.rf, fun p h1 h2 => by omega⟩ e1
  have t := bc_s ra dj0 t e2
  have t := bc_s ra dj0 t e3
  have t := bc_s ra dj0 t e4
  have t := bc_s ra dj0 t e5
  have t := bc_s ra dj0 t e6
  have t := bc_s ra dj0 t e7
  have t := bc_s ra dj0 t e8
  have t := bc_s ra dj0 t e9
  have t := bc_s ra dj0 t e10
  have t := bc_s ra dj0 t e11
  clear e1 e2 e3 e4 e5 e6 e7 e8 e9 e10 e11
  intro g12 e12 g13 e13 g14 e14 g15 e15 g16 e16 g17 e17 g18 e18
  have t := bc_a (j := 1) (rj 1 (by omega)) (dj 1 (by omega)) (by omega) ⟨t.1, t.2, fun i h1 h2 => by omega⟩ e12
  have t := bc_a (j := 2) (rj 2 (by omega)) (dj 2 (by omega)) (by omega) t e13
  have t := bc_a (j := 3) (rj 3 (by omega)) (dj 3 (by omega)) (by omega) t e14
  have t := bc_a (j := 4) (rj 4 (by omega)) (dj 4 (by omega)) (by omega) t e15
  have t := bc_a (j := 5) (rj 5 (by omega)) (dj 5 (by omega)) (by omega) t e16
  have t := bc_a (j := 6) (rj 6 (by omega)) (dj 6 (by omega)) (by omega) t e17
  have t := bc_a (j := 7) (rj 7 (by omega)) (dj 7 (by omega)) (by omega) t e18
  obtain ⟨hS, hs, hA⟩ := t
  refine q g18 hS ?_
  obtain ⟨⟨⟨s1, s2, s3, s4, s5, s6, s7, s8, s9, s10⟩, c2, c3, c4⟩, c5, c6⟩ := hc
  refine ⟨⟨⟨?_, ?_, ?_, ?_, ?_, ?_, ?_, ?_, ?_, ?_⟩, fun v j hv hj => ?_, fun u hu => ?_, c4.cg hL rfl (fun _ _ => rfl) (fun k hk => hS k (fun z => by have := z.2; omega))⟩, fun v hv => ?_, ?_⟩
  · rw [hs 8 (by omega) (by omega)]; exact s1
  · rw [hs 9 (by omega) (by omega)]; exact s2
  · rw [hs 10 (by omega) (by omega)]; exact s3
  · rw [hs 11 (by omega) (by omega)]; exact s4
  · rw [hs 12 (by omega) (by omega)]; exact s5
  · rw [hs 13 (by omega) (by omega)]; exact s6
  · rw [hs 14 (by omega) (by omega)]; exact s7
  · rw [hs 16 (by omega) (by omega)]; exact s8
  · rw [hs 17 (by omega) (by omega)]; exact s9
  · rw [hs 18 (by omega) (by omega)]; exact s10
  · have n2 := hw.n2
    have := hA (1 + j) (by omega) (by omega) v (by omega)
    rw [show a + 1 + j = a + (1 + j) by omega, this, show a1 + (1 + j) = a1 + 1 + j by omega]
    exact c2 v j hv hj
  · rw [hA 7 (by omega) (by omega) u hu]; exact c3 u hu
  · have n2 := hw.n2
    rw [hA 6 (by omega) (by omega) v (by omega)]; exact c5 v hv
  · rw [hs 15 (by omega) (by omega)]; exact c6
/-- all of a party are convinced -/
def sp_cv (f : Nat → Int32) (p : Int32) : Nat → Nat → Int32
  | 0 => f
  | k + 1 => upd (sp_cv f p k) (14 + 6 * k) (if f (13 + 6 * k) = p then 99 else f (14 + 6 * k))
theorem sp_cv_ne {p : Int32} {r : Nat} : ∀ {m : Nat}, (∀ j, j < m → r ≠ 14 + 6 * j) → sp_cv f p m r = f r
  | 0, _ => rfl
  | m + 1, h => by rw [sp_cv, pk_un (h m (by omega)), sp_cv_ne (fun j hj => h j (by omega))]
theorem sp_cv_at {p : Int32} {k : Nat} : ∀ {m : Nat}, k < m → sp_cv f p m (14 + 6 * k) = if f (13 + 6 * k) = p then 99 else f (14 + 6 * k)
  | 0, h => absurd h (Nat.not_lt_zero k)
  | m + 1, h => by
    rw [sp_cv]
    by_cases e : k = m
    · subst e; exact pk_us
    · rw [pk_un (by omega), sp_cv_at (by omega)]
theorem crD.wet {v j : Nat} {x d : Int32} (h : crD F g a f d) (hL : sv_Lay F) (ha : sv_isC a) (hj : 1 ≤ j ∧ j < 5) (n2 : sp_n f ≤ 10) (hv : v < sp_n f) : crD F (sv_st g (a + 1 + j) v x) a (upd f (11 + 6 * v + j) x) d := by
  have a75 : a + 7 < 82 := by rcases ha with h | h | h <;> omega
  refine h.cg hL ?_ ?_ (fun q hq => ?_) (fun k hk => ⟨?_, ?_⟩) (fun k hk => ?_) ?_ (fun v' j' hv' hj' => ?_) ?_
  · rw [pk_un (by omega)]
  · rw [pk_un (by omega)]
  · rw [pk_un (by omega)]
  · rw [pk_un (by omega)]
  · rw [pk_un (by omega)]
  · rw [st_ne (by omega)]
  · unfold cr_s
    rw [st_ne (by omega)]
    obtain ⟨s1, s2, s3, s4, s5, s6, s7, s8, s9, s10⟩ := h.1.1
    refine ⟨?_, ?_, ?_, ?_, ?_, ?_, ?_, ?_, ?_, ?_⟩ <;> (rw [pk_un (by omega)]; assumption)
  · rw [sp_n_cg (f := f) (by rw [pk_un (by omega)])] at hv'
    by_cases e1 : j' = j
    · subst e1
      by_cases e2 : v' = v
      · subst e2; rw [st_at, pk_us]
      · rw [st_nk e2, pk_un (by omega)]; exact h.1.2.1 v' j' hv' hj'
    · rw [st_ne (by omega), pk_un (by omega)]; exact h.1.2.1 v' j' hv' hj'
  · rw [st_ne (by omega)]; exact h.2.2
/-- a row with a voter's place changed -/
theorem sp_W.wet {v j k : Nat} {x : Int32} (hw : sp_W B f) (hv : v < sp_n f) (hj : j < 5) (hk : k < sp_lim j) (hx : x = nI k) : sp_W B (upd f (11 + 6 * v + j) x) := by
  subst hx
  have n2 := hw.n2
  have en : sp_n (upd f (11 + 6 * v + j) (nI k)) = sp_n f := sp_n_cg (by rw [pk_un (by omega)])
  have et : sp_t (upd f (11 + 6 * v + j) (nI k)) = sp_t f := by unfold sp_t; rw [pk_un (by omega)]
  obtain ⟨⟨w1, w2⟩, w3, w4, w5, w6, w7, ⟨r, d, w81, w82, w83, w84⟩, w9⟩ := hw.1
  refine ⟨⟨?_, ?_, ?_, ?_, ?_, ?_, ⟨r, d, ?_, ?_, w83, w84⟩, ?_⟩, hw.2.cg (by rw [pk_un (by omega)]) (fun p hp => by rw [pk_un (by omega)])⟩
  · rw [en, pk_un (by omega)]; exact ⟨w1, w2⟩
  · rw [en]
    intro v' j' hv' hj'
    by_cases e : v' = v ∧ j' = j
    · obtain ⟨rfl, rfl⟩ := e
      rw [pk_us]; exact ⟨k, hk, rfl⟩
    · rw [pk_un (by omega)]; exact w3 v' j' hv' hj'
  · rw [en]
    intro v' hv'
    rw [pk_un (by omega)]; exact w4 v' hv'
  · rw [pk_un (by omega), pk_un (by omega), pk_un (by omega)]; exact w5
  · rw [en, pk_un (by omega)]; exact w6
  · rw [pk_un (by omega), pk_un (by omega)]; exact w7
  · rw [pk_un (by omega)]; exact w81
  · rw [pk_un (by omega)]; exact w82
  · rw [et, pk_un (by omega)]; exact w9
/-- a row with its rules changed -/
theorem sp_W.rule {r k : Nat} {x : Int32} (hw : sp_W B f) (hr : r = 4 ∨ r = 5 ∨ (r = 6 ∧ 1 ≤ k)) (hk : k < 100) (hx : x = nI k) : sp_W B (upd f r x) := by
  subst hx
  have n2 := hw.n2
  have en : sp_n (upd f r (nI k)) = sp_n f := sp_n_cg (by rw [pk_un (by omega)])
  have et : sp_t (upd f r (nI k)) = sp_t f := by unfold sp_t; rw [pk_un (by omega)]
  obtain ⟨⟨w1, w2⟩, w3, w4, ⟨w51, w52, w53⟩, w6, w7, ⟨r', d, w81, w82, w83, w84⟩, w9⟩ := hw.1
  refine ⟨⟨?_, ?_, ?_, ⟨?_, ?_, ?_⟩, ?_, ?_, ⟨r', d, ?_, ?_, w83, w84⟩, ?_⟩, hw.2.cg (by rw [pk_un (by omega)]) (fun p hp => by rw [pk_un (by omega)])⟩
  · rw [en, pk_un (by omega)]; exact ⟨w1, w2⟩
  · rw [en]
    intro v' j' hv' hj'
    rw [pk_un (by omega)]; exact w3 v' j' hv' hj'
  · rw [en]
    intro v' hv'
    rw [pk_un (by omega)]; exact w4 v' hv'
  · by_cases e : r = 4
    · subst e; rw [pk_us]; exact ⟨k, hk, rfl⟩
    · rw [pk_un (by omega)]; exact w51
  · by_cases e : r = 5
    · subst e; rw [pk_us]; exact ⟨k, hk, rfl⟩
    · rw [pk_un (by omega)]; exact w52
  · by_cases e : r = 6
    · subst e; rw [pk_us]; exact ⟨k, by omega, hk, rfl⟩
    · rw [pk_un (by omega)]; exact w53
  · rw [en, pk_un (by omega)]; exact w6
  · rw [pk_un (by omega), pk_un (by omega)]; exact w7
  · rw [pk_un (by omega)]; exact w81
  · rw [pk_un (by omega)]; exact w82
  · rw [et, pk_un (by omega)]; exact w9
theorem sp_W.seed {x : Int32} (hw : sp_W B f) : sp_W B (upd f 0 x) := by
  have n2 := hw.n2
  have en : sp_n (upd f 0 x) = sp_n f := sp_n_cg (by rw [pk_un (by omega)])
  have et : sp_t (upd f 0 x) = sp_t f := by unfold sp_t; rw [pk_un (by omega)]
  obtain ⟨⟨w1, w2⟩, w3, w4, w5, w6, w7, ⟨r', d, w81, w82, w83, w84⟩, w9⟩ := hw.1
  refine ⟨⟨?_, ?_, ?_, ?_, ?_, ?_, ⟨r', d, ?_, ?_, w83, w84⟩, ?_⟩, hw.2.cg (by rw [pk_un (by omega)]) (fun p hp => by rw [pk_un (by omega)])⟩
  · rw [en, pk_un (by omega)]; exact ⟨w1, w2⟩
  · rw [en]
    intro v' j' hv' hj'
    rw [pk_un (by omega)]; exact w3 v' j' hv' hj'
  · rw [en]
    intro v' hv'
    rw [pk_un (by omega)]; exact w4 v' hv'
  · rw [pk_un (by omega), pk_un (by omega), pk_un (by omega)]; exact w5
  · rw [en, pk_un (by omega)]; exact w6
  · rw [pk_un (by omega), pk_un (by omega)]; exact w7
  · rw [pk_un (by omega)]; exact w81
  · rw [pk_un (by omega)]; exact w82
  · rw [et, pk_un (by omega)]; exact w9
theorem sp_cv_n {p : Int32} {m : Nat} : sp_n (sp_cv f p m) = sp_n f := sp_n_cg (sp_cv_ne (fun j _ => by omega))
theorem sp_W.cv {p : Int32} (hw : sp_W B f) : ∀ {m : Nat}, m ≤ sp_n f → sp_W B (sp_cv f p m)
  | 0, _ => hw
  | m + 1, hm => by
    have ih := sp_W.cv (p := p) hw (m := m) (by omega)
    rw [sp_cv]
    have key : ∃ k, k < 100 ∧ (if f (13 + 6 * m) = p then 99 else f (14 + 6 * m)) = nI k := by
      split
      · exact ⟨99, by omega, rfl⟩
      · obtain ⟨k, hk, e⟩ := hw.1.2.1 m 3 (by omega) (by omega)
        exact ⟨k, hk, by rw [← e]; congr 1; omega⟩
    obtain ⟨k, hk, e⟩ := key
    have := ih.wet (v := m) (j := 3) (k := k) (by rw [sp_cv_n]; omega) (by omega) hk e
    rw [show 11 + 6 * m + 3 = 14 + 6 * m by omega] at this
    exact this
theorem k_convince {p : Int32} {Q : sv_Mg → Prop} (hL : sv_Lay F) (ha : sv_isC a) (hc : cr F g a f) (hw : sp_W B f) (q : ∀ g', sv_sm (sp_fa a) g g' → cr F g' a (sp_cv f p (sp_n f)) → Q g') : wp_X0_convince F a p g Q := by
  have n2 := hw.n2
  have go : ∀ m i g', i ≤ sp_n f → sp_n f + 1 ≤ i + m → sv_sm (sp_fa a) g g' → crD F g' a (sp_cv f p i) (f 2) → wp_X0_convince_2 F a Q m p (nI i) g' := by
    intro m
    induction m with
    | zero => intro i g' h1 h2; omega
    | succ m ih =>
      intro i g' h1 h2 hS hc'
      rw [wp_X0_convince_2]
      have e8 : g' a 8 = nI (sp_n f) := by rw [hc'.1.1.1, sp_cv_ne (fun j _ => by omega)]; exact hw.n
      by_cases hi : sp_n f ≤ i
      · have e : i = sp_n f := by omega
        refine br_y (by rw [e8]; exact (pl_le (by omega) (by omega)).mpr hi) (q g' hS ?_)
        unfold cr
        rw [sp_cv_ne (fun j _ => by omega), ← e]; exact hc'
      · refine br_n (fun z => hi (by rw [e8] at z; exact (pl_le (by omega) (by omega)).mp z)) ⟨pl_in (by omega) (by omega), ?_⟩
        have e3 : g' (a + 3) i = f (13 + 6 * i) := by
          rw [hc'.1.2.1.at 2 (13 + 6 * i) (a + 3) (v := i) (by rw [sp_cv_n]; omega) (by omega) (by omega) (by omega), sp_cv_ne (fun j _ => by omega)]
        rw [pl_clamp (by omega), e3]
        have es : sp_cv f p (i + 1) = upd (sp_cv f p i) (14 + 6 * i) (if f (13 + 6 * i) = p then 99 else f (14 + 6 * i)) := rfl
        by_cases c : f (13 + 6 * i) = p
        · rw [if_pos c] at es
          refine br_y c ⟨pl_in (by omega) (by omega), ?_⟩
          intro g2 e2 v2 ev
          rw [ev, nI_1]
          refine ih (i + 1) g2 (by omega) (by omega) (by rw [e2]; exact hS.st ⟨by omega, by omega⟩) ?_
          rw [es, e2]
          have := hc'.wet (v := i) (j := 3) (x := 99) hL ha (by omega) (by rw [sp_cv_n]; exact n2) (by rw [sp_cv_n]; omega)
          rw [show 11 + 6 * i + 3 = 14 + 6 * i by omega, show a + 1 + 3 = a + 4 by omega] at this
          exact this
        · rw [if_neg c] at es
          refine br_n c ?_
          intro v2 ev
          rw [ev, nI_1]
          refine ih (i + 1) g' (by omega) (by omega) hS ?_
          rw [es, show f (14 + 6 * i) = sp_cv f p i (14 + 6 * i) by rw [sp_cv_ne (fun j _ => by omega)], upd_id]
          exact hc'
  exact ⟨_, go (sp_n f + 1) 0 g (Nat.zero_le _) (by omega) sv_sm.rf hc⟩
/-! thinks, putsBack, copyAll -/
theorem r_thinks {Q : sv_Mg → Prop} (q : ∀ g', sv_sm (fun k => k = 64) g g' → (∀ k, k < 71 → g' 64 k = g 59 k) → Q g') : wp_X7_thinks F g Q := by
  have go : ∀ m i g', i ≤ 71 → 72 ≤ i + m → sv_sm (fun k => k = 64) g g' → (∀ k, k < i → g' 64 k = g 59 k) → wp_X7_thinks_2 F Q m (nI i) g' := by
    intro m
    induction m with
    | zero => intro i g' h1 h2; omega
    | succ m ih =>
      intro i g' h1 h2 hS hc'
      rw [wp_X7_thinks_2, pl_lit 71]
      by_cases hi : 71 ≤ i
      · exact br_y ((pl_le (by omega) (by omega)).mpr hi) (q g' hS (fun k hk => hc' k (by omega)))
      · refine br_n (fun z => hi ((pl_le (by omega) (by omega)).mp z)) ⟨pl_in (by omega) (by omega), pl_in (by omega) (by omega), ?_⟩
        rw [pl_clamp (by omega), hS 59 (by decide)]
        intro g2 e2 v2 ev
        rw [ev, nI_1]
        refine ih (i + 1) g2 (by omega) (by omega) (by rw [e2]; exact hS.st rfl) (fun k hk => ?_)
        rw [e2]
        by_cases ek : k = i
        · subst ek; exact st_at
        · rw [st_nk ek]; exact hc' k (by omega)
  exact ⟨_, go 72 0 g (Nat.zero_le _) (by omega) sv_sm.rf (fun k hk => absurd hk (Nat.not_lt_zero k))⟩
theorem r_putsBack {Q : sv_Mg → Prop} (q : ∀ g', sv_sm (fun k => k = 59) g g' → (∀ k, k < 71 → g' 59 k = g 64 k) → (∀ k, 71 ≤ k → g' 59 k = g 59 k) → Q g') : wp_X7_putsBack F g Q := by
  have go : ∀ m i g', i ≤ 71 → 72 ≤ i + m → sv_sm (fun k => k = 59) g g' → (∀ k, k < i → g' 59 k = g 64 k) → (∀ k, i ≤ k → g' 59 k = g 59 k) → wp_X7_putsBack_2 F Q m (nI i) g' := by
    intro m
    induction m with
    | zero => intro i g' h1 h2; omega
    | succ m ih =>
      intro i g' h1 h2 hS hc' hr
      rw [wp_X7_putsBack_2, pl_lit 71]
      by_cases hi : 71 ≤ i
      · exact br_y ((pl_le (by omega) (by omega)).mpr hi) (q g' hS (fun k hk => hc' k (by omega)) (fun k hk => hr k (by omega)))
      · refine br_n (fun z => hi ((pl_le (by omega) (by omega)).mp z)) ⟨pl_in (by omega) (by omega), pl_in (by omega) (by omega), ?_⟩
        rw [pl_clamp (by omega), hS 64 (by decide)]
        intro g2 e2 v2 ev
        rw [ev, nI_1]
        refine ih (i + 1) g2 (by omega) (by omega) (by rw [e2]; exact hS.st rfl) (fun k hk => ?_) (fun k hk => ?_)
        · rw [e2]
          by_cases ek : k = i
          · subst ek; exact st_at
          · rw [st_nk ek]; exact hc' k (by omega)
        · rw [e2, st_nk (by omega)]; exact hr k (by omega)
  exact ⟨_, go 72 0 g (Nat.zero_le _) (by omega) sv_sm.rf (fun k hk => absurd hk (Nat.not_lt_zero k)) (fun k _ => rfl)⟩
theorem r_copyAll {a0 : Nat} {Q : sv_Mg → Prop} (hne : a0 ≠ a1) (q : ∀ g', sv_sm (fun k => k = a1) g g' → (∀ k, k < 1443 → g' a1 k = g a0 k) → (∀ k, 1443 ≤ k → g' a1 k = g a1 k) → Q g') : wp_X7_copyAll F a0 1443 a1 1443 g Q := by
  have go : ∀ m i g', i ≤ 1443 → 1444 ≤ i + m → sv_sm (fun k => k = a1) g g' → (∀ k, k < i → g' a1 k = g a0 k) → (∀ k, i ≤ k → g' a1 k = g a1 k) → wp_X7_copyAll_2 F a0 1443 a1 1443 Q m (nI i) g' := by
    intro m
    induction m with
    | zero => intro i g' h1 h2; omega
    | succ m ih =>
      intro i g' h1 h2 hS hc' hr
      rw [wp_X7_copyAll_2, pl_lit 1443]
      by_cases hi : 1443 ≤ i
      · exact br_y ((pl_le (by omega) (by omega)).mpr hi) (q g' hS (fun k hk => hc' k (by omega)) (fun k hk => hr k (by omega)))
      · refine br_n (fun z => hi ((pl_le (by omega) (by omega)).mp z)) ⟨pl_in (by omega) (by omega), pl_in (by omega) (by omega), ?_⟩
        rw [pl_clamp (by omega), hS a0 hne]
        intro g2 e2 v2 ev
        rw [ev, nI_1]
        refine ih (i + 1) g2 (by omega) (by omega) (by rw [e2]; exact hS.st rfl) (fun k hk => ?_) (fun k hk => ?_)
        · rw [e2]
          by_cases ek : k = i
          · subst ek; exact st_at
          · rw [st_nk ek]; exact hc' k (by omega)
        · rw [e2, st_nk (by omega)]; exact hr k (by omega)
  exact ⟨_, go 1444 0 g (Nat.zero_le _) (by omega) sv_sm.rf (fun k hk => absurd hk (Nat.not_lt_zero k)) (fun k _ => rfl)⟩
end KF
