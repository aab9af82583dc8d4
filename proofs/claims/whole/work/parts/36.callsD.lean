/-! CALLS THAT ONLY READ: as, conclave, butOne, decides -/
section CD
variable {F : sv_Fr} {g : sv_Mg} {a B : Nat} {f : Nat → Int32}
/-- is one kind under another -/
def sp_und (k o : Nat) : Bool := o == 0 || k == o || (o == 1 && k == 3) || (o == 2 && k == 4)
def sp_b (b : Bool) : Int32 := if b then 1 else 0
theorem r_under : ∀ k, k < 6 → ∀ o, o < 6 → ∀ {Q : Int32 → sv_Mg → Prop}, Q (sp_b (sp_und k o)) g → wp_X7_isUnder F (nI k) (nI o) g Q := by
  intro k hk o ho Q q
  have hk' : k = 0 ∨ k = 1 ∨ k = 2 ∨ k = 3 ∨ k = 4 ∨ k = 5 := by omega
  have ho' : o = 0 ∨ o = 1 ∨ o = 2 ∨ o = 3 ∨ o = 4 ∨ o = 5 := by omega
  rcases ho' with rfl | rfl | rfl | rfl | rfl | rfl
  · exact br_y rfl (by have e : sp_b (sp_und k 0) = 1 := rfl
                       rw [e] at q; exact q)
  · refine br_n (by decide) ?_
    rcases hk' with rfl | rfl | rfl | rfl | rfl | rfl
    · exact br_n (by decide) (br_y rfl (br_n (by decide) (br_n (by decide) q)))
    · exact br_y rfl q
    · exact br_n (by decide) (br_y rfl (br_n (by decide) (br_n (by decide) q)))
    · exact br_n (by decide) (br_y rfl (br_y rfl q))
    · exact br_n (by decide) (br_y rfl (br_n (by decide) (br_n (by decide) q)))
    · exact br_n (by decide) (br_y rfl (br_n (by decide) (br_n (by decide) q)))
  · refine br_n (by decide) ?_
    rcases hk' with rfl | rfl | rfl | rfl | rfl | rfl
    · exact br_n (by decide) (br_n (by decide) (br_y rfl (br_n (by decide) q)))
    · exact br_n (by decide) (br_n (by decide) (br_y rfl (br_n (by decide) q)))
    · exact br_y rfl q
    · exact br_n (by decide) (br_n (by decide) (br_y rfl (br_n (by decide) q)))
    · exact br_n (by decide) (br_n (by decide) (br_y rfl (br_y rfl q)))
    · exact br_n (by decide) (br_n (by decide) (br_y rfl (br_n (by decide) q)))
  all_goals
    refine br_n (by decide) ?_
    rcases hk' with rfl | rfl | rfl | rfl | rfl | rfl
    all_goals first
      | exact br_y rfl q
      | exact br_n (by decide) (br_n (by decide) (br_n (by decide) q))
/-- one step up -/
def sp_abv (k : Nat) : Option Nat := match k with
  | 0 => none
  | 1 => some 0
  | 2 => some 0
  | 3 => some 1
  | 4 => some 2
  | _ => some 0
def sp_up (o : Nat) : Nat → Option Nat → Bool
  | 0, _ => false
  | _ + 1, none => false
  | n + 1, some k => k == o || sp_up o n (sp_abv k)
theorem sp_up_und : ∀ k, k < 6 → ∀ o, o < 6 → sp_up o 6 (some k) = sp_und k o := by decide
theorem k_ofKind_l {o : Nat} (ho : o < 6) {Q : Int32 → sv_Mg → Prop} : ∀ n i (s : Option Nat), i ≤ 6 → i + n = 6 → (∀ k, s = some k → k < 6) → Q (sp_b (sp_up o n s)) g → wp_X6_isOfKind_4 F Q (n + 1) (nI o) (sp_o s) (nI i) g := by
  intro n
  induction n with
  | zero =>
    intro i s h1 h2 hs q
    rw [wp_X6_isOfKind_4]
    have : i = 6 := by omega
    subst this
    exact br_y (by decide) q
  | succ n ih =>
    intro i s h1 h2 hs q
    rw [wp_X6_isOfKind_4, pl_lit 6]
    refine br_n (fun z => absurd ((pl_le (by omega) (by omega)).mp z) (by omega)) ?_
    cases s with
    | none => exact k_in_n (Or.inl (by decide)) (br_y rfl q)
    | some k =>
      have hk := hs k rfl
      refine k_rng_y 0 5 rfl rfl rfl (Nat.zero_le k) (by omega) (by omega) (br_n ne10 ?_)
      show (nI k = nI o → _) ∧ _
      by_cases c : k = o
      · subst c
        have e : sp_up k (n + 1) (some k) = true := by simp [sp_up]
        rw [e] at q
        exact br_y rfl q
      · refine br_n (fun z => c ((pl_eq (by omega) (by omega)).mp z)) ⟨pl_in (by omega) (by omega), ?_⟩
        intro v2 e2 v3 e3
        rw [show sp_o (some k) = nI k from rfl, pl_clamp (by omega)] at e2
        rw [e3, nI_1]
        have ea : sv_above k = sp_o (sp_abv k) := by
          have hk' : k = 0 ∨ k = 1 ∨ k = 2 ∨ k = 3 ∨ k = 4 ∨ k = 5 := by omega
          rcases hk' with rfl | rfl | rfl | rfl | rfl | rfl <;> rfl
        rw [e2, ea]
        refine ih (i + 1) (sp_abv k) (by omega) (by omega) (fun k' hk' => ?_) ?_
        · have hk2 : k = 0 ∨ k = 1 ∨ k = 2 ∨ k = 3 ∨ k = 4 ∨ k = 5 := by omega
          rcases hk2 with rfl | rfl | rfl | rfl | rfl | rfl <;> (simp [sp_abv] at hk'; try omega)
        · have e : sp_up o (n + 1) (some k) = sp_up o n (sp_abv k) := by
            rw [sp_up]
            have : (k == o) = false := by simpa using c
            rw [this]; rfl
          rw [e] at q; exact q
theorem k_ofKind {k o : Nat} {Q : Int32 → sv_Mg → Prop} (hk : k < 6) (ho : o < 6) (q : Q (sp_b (sp_und k o)) g) : wp_X6_isOfKind F (nI k) (nI o) g Q :=
  ⟨7, k_ofKind_l ho 6 0 (some k) (by omega) (by omega) (fun k' hk' => by cases hk'; exact hk) (by rw [sp_up_und k hk o ho]; exact q)⟩
theorem l_as (h : Inv F g) (v w : Int32) : wp_X6_as F v w g (fun r g1 => wp_X7_as F v w g1 (fun r2 g2 => iv_E F r r2 g2)) := by
  have n2 := h.n2
  rcases iv_voter h v with hv | ⟨i, hi, rfl⟩
  · exact k_voter_n h.k8 hv (br_y rfl (r_voter_n h.n n2 hv (br_y rfl ⟨rfl, h⟩)))
  refine k_voter_y h.k8 n2 hi (br_n ne10 ?_)
  rcases iv_rng w (n := 5) (by omega) with hw | ⟨o, ho, rfl⟩
  · exact k_in_n hw (br_y rfl (r_voter_y h.n n2 hi (br_n ne10 (r_in_n hw (br_y rfl ⟨rfl, h⟩)))))
  refine k_rng_y 0 5 rfl rfl rfl (Nat.zero_le o) ho (by omega) (br_n ne10 ⟨pl_in (by omega) (by omega), ?_⟩)
  rw [pl_clamp (by omega)]
  obtain ⟨k, hk, ek⟩ := h.W.1.2.1 i 0 hi (by omega)
  have hk : k < 6 := hk
  have e8 : g 8 i = nI k := by rw [← ek]; exact h.C.1.2.1.at 0 _ _ hi (by omega) rfl (by omega)
  have e11 : g 11 i = g 59 (11 + 6 * i + 3) := h.C.1.2.1.at 3 _ _ hi (by omega) rfl (by omega)
  rw [e8]
  refine k_ofKind hk (by omega) ?_
  have ref : ∀ Q : Int32 → sv_Mg → Prop, ((sp_b (sp_und k o) = 0 → Q (-1000000012) g) ∧ (¬ sp_b (sp_und k o) = 0 → Q (g 59 (11 + 6 * i + 3)) g)) → wp_X7_as F (nI i) (nI o) g Q := by
    intro Q q
    refine r_voter_y h.n n2 hi (br_n ne10 (r_rng_y 0 5 rfl rfl rfl (Nat.zero_le o) ho (by omega) (br_n ne10 (r_of (j := 0) rfl (by omega) (by omega) ?_))))
    rw [ek]
    refine r_under k hk o (by omega) ⟨q.1, fun c => r_of (j := 3) rfl (by omega) (by omega) (q.2 c)⟩
  refine ⟨fun c => ref _ ⟨fun _ => ⟨rfl, h⟩, fun c' => absurd c c'⟩, fun c => ⟨pl_in (by omega) (by omega), ref _ ⟨fun c' => absurd c' c, fun _ => ⟨e11, h⟩⟩⟩⟩
/-- the leader, if he has anything -/
def sp_ld (f : Nat → Int32) : Int32 := match sp_mo f (sp_set f) with
  | none => -1
  | some b => if sp_hv f (nI b) = 0 then -1 else nI b
theorem r_leader {Q : Int32 → sv_Mg → Prop} (hn : g 59 1 = nI (sp_n (g 59))) (hn2 : sp_n (g 59) ≤ 10) (q : Q (sp_ld (g 59)) g) : wp_X7_leader F g Q := by
  unfold sp_ld at q
  refine r_all (r_most hn hn2 ?_)
  cases e : sp_mo (g 59) (sp_set (g 59)) with
  | none => rw [e] at q; exact br_y (by decide) q
  | some b =>
    rw [e] at q
    have hb := sp_mo_lt e
    have l1 := sp_hv_le (g 59) (nI b) hn2
    refine br_n (pl_nn (by omega)) (r_has hn hn2 ?_)
    show (nI (sp_hv (g 59) (nI b)) ≤ 0 → _) ∧ _
    dsimp only at q
    by_cases c : sp_hv (g 59) (nI b) = 0
    · rw [if_pos c] at q
      exact br_y ((pl_le (b := 0) (by omega) (by omega)).mpr (by omega)) q
    · rw [if_neg c] at q
      exact br_n (fun z => c (Nat.le_zero.mp ((pl_le (b := 0) (by omega) (by omega)).mp z))) q
theorem r_mostHad {Q : Int32 → sv_Mg → Prop} (hn : g 59 1 = nI (sp_n (g 59))) (hn2 : sp_n (g 59) ≤ 10) (q : Q (nI (sp_top (g 59))) g) : wp_X7_mostHad F g Q := by
  refine r_leader hn hn2 ?_
  unfold sp_top at q
  unfold sp_ld
  cases e : sp_mo (g 59) (sp_set (g 59)) with
  | none => rw [e] at q; exact br_n pl_m1' q
  | some b =>
    rw [e] at q
    have hb := sp_mo_lt e
    dsimp only at q ⊢
    by_cases c : sp_hv (g 59) (nI b) = 0
    · rw [if_pos c]
      rw [c] at q
      exact br_n (by decide) q
    · rw [if_neg c]
      exact br_y (pl_nn' (by omega)) (r_has hn hn2 q)
theorem l_conclave (h : Inv F g) (w : Int32) : wp_X6_conclave F w g (fun r g1 => wp_X7_conclave F w g1 (fun r2 g2 => iv_E F r r2 g2)) := by
  have n2 := h.n2
  obtain ⟨s1, s2, s3, s4, s5, s6, s7, s8, s9, s10⟩ := h.C.1.1
  rcases iv_rng w (n := 5) (by omega) with hw | ⟨j, hj, rfl⟩
  · have o : ∀ j, j ≤ 5 → ¬ w = nI j := fun j hj => iv_out (l := 0) hw (by omega) (by omega) hj
    exact br_n (o 0 (by omega)) (br_n (o 1 (by omega)) (br_n (o 2 (by omega)) (br_n (o 3 (by omega)) (br_n (o 4 (by omega)) (br_n (o 5 (by omega)) (br_n (o 0 (by omega)) (br_n (o 1 (by omega)) (br_n (o 2 (by omega)) (br_n (o 3 (by omega)) (br_n (o 4 (by omega)) (br_n (o 5 (by omega)) ⟨rfl, h⟩)))))))))))
  have hjj : j = 0 ∨ j = 1 ∨ j = 2 ∨ j = 3 ∨ j = 4 ∨ j = 5 := by omega
  rcases hjj with rfl | rfl | rfl | rfl | rfl | rfl
  · exact br_y rfl (br_y rfl ⟨s6, h⟩)
  · exact br_n (by decide) (br_y rfl (k_want h.k8 n2 (fun v hv => h.C.1.2.1 v 0 hv (by omega)) (br_n (by decide) (br_y rfl (r_want h.n n2 ⟨rfl, h⟩)))))
  · iterate 2 refine br_n (by decide) ?_
    refine br_y rfl ?_
    iterate 2 refine br_n (by decide) ?_
    exact br_y rfl ⟨s9, h⟩
  · iterate 3 refine br_n (by decide) ?_
    refine br_y rfl ?_
    iterate 3 refine br_n (by decide) ?_
    exact br_y rfl ⟨s5, h⟩
  · iterate 4 refine br_n (by decide) ?_
    refine br_y rfl (k_runs h.C.1 h.W ?_)
    iterate 4 refine br_n (by decide) ?_
    exact br_y rfl (r_runs h.n n2 ⟨rfl, h⟩)
  · iterate 5 refine br_n (by decide) ?_
    refine br_y rfl (k_top h.C.1 h.W ?_)
    have ref : ∀ Q : Int32 → sv_Mg → Prop, Q (if sp_top (g 59) = 0 then -1000000005 else sp_o (sp_mo (g 59) (sp_set (g 59)))) g → wp_X7_conclave F (nI 5) g Q := by
      intro Q q
      iterate 5 refine br_n (by decide) ?_
      refine br_y rfl (r_leader h.n n2 ?_)
      unfold sp_ld
      unfold sp_top at q
      cases e : sp_mo (g 59) (sp_set (g 59)) with
      | none => rw [e] at q; exact br_n pl_m1' q
      | some b =>
        rw [e] at q
        have hb := sp_mo_lt e
        dsimp only at q ⊢
        by_cases c : sp_hv (g 59) (nI b) = 0
        · rw [if_pos c] at q ⊢
          exact br_n (by decide) q
        · rw [if_neg c] at q ⊢
          exact br_y (pl_nn' (by omega)) q
    have lt : sp_top (g 59) < 100 := by
      unfold sp_top
      cases e : sp_mo (g 59) (sp_set (g 59)) with
      | none => dsimp only; omega
      | some b => have := sp_hv_le (g 59) (nI b) n2; dsimp only; omega
    by_cases c : sp_top (g 59) = 0
    · refine br_y ((pl_le (b := 0) (by omega) (by omega)).mpr (by omega)) (ref _ ?_)
      rw [if_pos c]; exact ⟨rfl, h⟩
    · refine br_n (fun z => c (Nat.le_zero.mp ((pl_le (b := 0) (by omega) (by omega)).mp z))) (k_leader h.C.1 h.W (ref _ ?_))
      rw [if_neg c]; exact ⟨rfl, h⟩
def sp_bo (f : Nat → Int32) : Nat → Int32
  | 0 => 0
  | k + 1 => sp_bo f k ||| (if nI (sp_hv f (nI k)) = nI (sp_want f) - 1 then 1 <<< (nI k &&& 31) else 0)
theorem l_butOne (h : Inv F g) : wp_X6_butOne F g (fun r g1 => wp_X7_butOne F g1 (fun r2 g2 => iv_E F r r2 g2)) := by
  have n2 := h.n2
  have hn := h.n
  have k8 := h.k8
  have ref : ∀ m i, i ≤ sp_n (g 59) → sp_n (g 59) + 1 ≤ i + m → wp_X7_butOne_4 F (fun r2 g2 => iv_E F (sp_bo (g 59) (sp_n (g 59))) r2 g2) m (sp_bo (g 59) i) (nI i) g := by
    intro m
    induction m with
    | zero => intro i h1 h2; omega
    | succ m ih =>
      intro i h1 h2
      rw [wp_X7_butOne_4]
      by_cases hi : sp_n (g 59) ≤ i
      · have e : i = sp_n (g 59) := by omega
        refine br_y (by rw [hn]; exact (pl_le (by omega) (by omega)).mpr hi) ?_
        rw [e]; exact ⟨rfl, h⟩
      · refine br_n (fun z => hi (by rw [hn] at z; exact (pl_le (by omega) (by omega)).mp z)) ?_
        refine r_has hn n2 (r_want hn n2 ?_)
        have ih2 := ih (i + 1) (by omega) (by omega)
        rw [sp_bo] at ih2
        refine ⟨fun c => ?_, fun c => ?_⟩
        · rw [if_pos c] at ih2
          intro v1 e1 v2 e2
          rw [e1, e2, nI_1]; exact ih2
        · rw [if_neg c] at ih2
          intro v1 e1 v2 e2
          rw [e1, e2, nI_1]; exact ih2
  refine k_want k8 n2 (fun v hv => h.C.1.2.1 v 0 hv (by omega)) ?_
  intro v1 e1
  rw [e1]
  have go : ∀ m i, i ≤ sp_n (g 59) → sp_n (g 59) + 1 ≤ i + m → wp_X6_butOne_14 F (fun r g1 => wp_X7_butOne F g1 (fun r2 g2 => iv_E F r r2 g2)) m (nI (sp_want (g 59)) - 1) (sp_bo (g 59) i) (nI i) g := by
    intro m
    induction m with
    | zero => intro i h1 h2; omega
    | succ m ih =>
      intro i h1 h2
      rw [wp_X6_butOne_14]
      by_cases hi : sp_n (g 59) ≤ i
      · have e : i = sp_n (g 59) := by omega
        refine br_y (by rw [k8]; exact (pl_le (by omega) (by omega)).mpr hi) ?_
        rw [e]
        exact ⟨_, ref (sp_n (g 59) + 1) 0 (Nat.zero_le _) (by omega)⟩
      · refine br_n (fun z => hi (by rw [k8] at z; exact (pl_le (by omega) (by omega)).mp z)) ⟨pl_in (by omega) (by omega), ?_⟩
        rw [pl_clamp (by omega), h.C.1.2.2.1 i (by omega)]
        have ih2 := ih (i + 1) (by omega) (by omega)
        rw [sp_bo] at ih2
        refine ⟨fun c => ?_, fun c => ?_⟩
        · rw [if_pos c] at ih2
          intro v1 e1 v2 e2
          rw [e1, e2, nI_1]; exact ih2
        · rw [if_neg c, pl_or0] at ih2
          intro v2 e2
          rw [e2, nI_1]; exact ih2
  exact ⟨_, go (sp_n (g 59) + 1) 0 (Nat.zero_le _) (by omega)⟩
def sp_dc (f : Nat → Int32) (k : Nat) : Bool := decide (¬ f (16 + 6 * k) < 0 ∧ ¬ nI (sp_hv f (f (16 + 6 * k))) < nI (sp_want f) ∧ ¬ nI (sp_want f) ≤ nI (sp_hv f (f (16 + 6 * k))) - nI (sp_w f k))
theorem sp_dc_i {f : Nat → Int32} {k : Nat} : sp_dc f k = true ↔ (¬ f (16 + 6 * k) < 0 ∧ ¬ nI (sp_hv f (f (16 + 6 * k))) < nI (sp_want f) ∧ ¬ nI (sp_want f) ≤ nI (sp_hv f (f (16 + 6 * k))) - nI (sp_w f k)) := decide_eq_true_iff
def sp_de (f : Nat → Int32) : Nat → Int32
  | 0 => 0
  | k + 1 => sp_de f k ||| (if sp_dc f k = true then 1 <<< (nI k &&& 31) else 0)
theorem l_decides (h : Inv F g) : wp_X6_decides F g (fun r g1 => wp_X7_decides F g1 (fun r2 g2 => iv_E F r r2 g2)) := by
  have n2 := h.n2
  have hn := h.n
  have k8 := h.k8
  have ref : ∀ m i, i ≤ sp_n (g 59) → sp_n (g 59) + 1 ≤ i + m → wp_X7_decides_4 F (fun r2 g2 => iv_E F (sp_de (g 59) (sp_n (g 59))) r2 g2) m (sp_de (g 59) i) (nI i) g := by
    intro m
    induction m with
    | zero => intro i h1 h2; omega
    | succ m ih =>
      intro i h1 h2
      rw [wp_X7_decides_4]
      by_cases hi : sp_n (g 59) ≤ i
      · have e : i = sp_n (g 59) := by omega
        refine br_y (by rw [hn]; exact (pl_le (by omega) (by omega)).mpr hi) ?_
        rw [e]; exact ⟨rfl, h⟩
      · refine br_n (fun z => hi (by rw [hn] at z; exact (pl_le (by omega) (by omega)).mp z)) ?_
        refine r_of (j := 5) rfl (by omega) (by omega) ?_
        rw [show 11 + 6 * i + 5 = 16 + 6 * i by omega]
        have ih2 := ih (i + 1) (by omega) (by omega)
        rw [sp_de] at ih2
        have no : ¬ sp_dc (g 59) i = true → wp_X7_decides_59 F (fun r2 g2 => iv_E F (sp_de (g 59) (sp_n (g 59))) r2 g2) (wp_X7_decides_4 F (fun r2 g2 => iv_E F (sp_de (g 59) (sp_n (g 59))) r2 g2) m) (sp_de (g 59) i) (nI i) g := by
          intro c
          rw [if_neg c] at ih2
          refine br_y rfl ?_
          intro v1 e1 v2 e2
          rw [e1, e2, nI_1]; exact ih2
        refine ⟨fun c => no (fun z => (sp_dc_i.mp z).1 c), fun c => r_has hn n2 (r_want hn n2 ⟨fun c2 => no (fun z => (sp_dc_i.mp z).2.1 c2), fun c2 => r_has hn n2 (r_weight (by omega) (r_want hn n2 ⟨fun c3 => no (fun z => (sp_dc_i.mp z).2.2 c3), fun c3 => ?_⟩))⟩)⟩
        rw [if_pos (sp_dc_i.mpr ⟨c, c2, c3⟩)] at ih2
        refine br_n ne10 ?_
        intro v1 e1 v2 e2
        rw [e1, e2, nI_1]; exact ih2
  refine k_want k8 n2 (fun v hv => h.C.1.2.1 v 0 hv (by omega)) ?_
  have go : ∀ m i, i ≤ sp_n (g 59) → sp_n (g 59) + 1 ≤ i + m → wp_X6_decides_12 F (fun r g1 => wp_X7_decides F g1 (fun r2 g2 => iv_E F r r2 g2)) m (nI (sp_want (g 59))) (sp_de (g 59) i) (nI i) g := by
    intro m
    induction m with
    | zero => intro i h1 h2; omega
    | succ m ih =>
      intro i h1 h2
      rw [wp_X6_decides_12]
      by_cases hi : sp_n (g 59) ≤ i
      · have e : i = sp_n (g 59) := by omega
        refine br_y (by rw [k8]; exact (pl_le (by omega) (by omega)).mpr hi) ?_
        rw [e]
        exact ⟨_, ref (sp_n (g 59) + 1) 0 (Nat.zero_le _) (by omega)⟩
      · refine br_n (fun z => hi (by rw [k8] at z; exact (pl_le (by omega) (by omega)).mp z)) ⟨pl_in (by omega) (by omega), ?_⟩
        intro v4 e4
        rw [pl_clamp (by omega), h.C.2.1 i (by omega)] at e4
        have ih2 := ih (i + 1) (by omega) (by omega)
        rw [sp_de] at ih2
        have no : ¬ sp_dc (g 59) i = true → wp_X6_decides_93 F (fun r g1 => wp_X7_decides F g1 (fun r2 g2 => iv_E F r r2 g2)) (wp_X6_decides_12 F (fun r g1 => wp_X7_decides F g1 (fun r2 g2 => iv_E F r r2 g2)) m) (nI (sp_want (g 59))) (sp_de (g 59) i) (nI i) g := by
          intro c
          rw [if_neg c, pl_or0] at ih2
          intro v2 e2
          rw [e2, nI_1]; exact ih2
        rcases h.W.1.2.2.1 i (by omega) with e | ⟨k, hk, e⟩
        · rw [e4, e]
          exact k_voter_n k8 (Or.inl (by decide)) (br_y rfl (no (fun z => (sp_dc_i.mp z).1 (by rw [e]; decide))))
        · rw [e4, e]
          refine k_voter_y k8 n2 hk (br_n ne10 ⟨pl_in (by omega) (by omega), ?_⟩)
          have e8 : g 8 i = g 59 (11 + 6 * i) := h.C.1.2.1 i 0 (by omega) (by omega)
          rw [pl_clamp (n := k) (by omega), pl_clamp (n := i) (by omega), h.C.1.2.2.1 k (by omega), e8]
          refine ⟨fun c2 => no (fun z => (sp_dc_i.mp z).2.1 (by rw [e]; exact c2)), fun c2 => ⟨pl_in (by omega) (by omega), pl_in (by omega) (by omega), k_weight ⟨fun c3 => no (fun z => (sp_dc_i.mp z).2.2 (by rw [e, sp_w_I]; exact c3)), fun c3 => ?_⟩⟩⟩
          have yes : sp_dc (g 59) i = true := sp_dc_i.mpr ⟨by rw [e]; exact pl_nn (by omega), by rw [e]; exact c2, by rw [e, sp_w_I]; exact c3⟩
          rw [if_pos yes] at ih2
          intro v1 e1 v2 e2
          rw [e1, e2, nI_1]; exact ih2
  exact ⟨_, go (sp_n (g 59) + 1) 0 (Nat.zero_le _) (by omega)⟩
end CD
