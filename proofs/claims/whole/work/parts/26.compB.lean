/-! SETS, LEADERS -/
theorem bit_all : ∀ n, n < 11 → ∀ k, k < 10 → sp_bit ((1 <<< (nI n &&& 31)) - 1) k = decide (k < n) := by decide +kernel
theorem bit_one : ∀ a, a < 10 → ∀ k, k < 10 → sp_bit (1 <<< (nI a &&& 31)) k = decide (k = a) := by decide +kernel
theorem bit_two : ∀ a, a < 10 → ∀ b, b < 10 → ∀ k, k < 10 → sp_bit ((1 <<< (nI a &&& 31)) ||| (1 <<< (nI b &&& 31))) k = decide (k = a ∨ k = b) := by decide +kernel
theorem sp_most_spec {f : Nat → Int32} {set : Int32} : ∀ k, (sp_most f set k = none → ∀ j, j < k → sp_bit set j = false) ∧ (∀ b, sp_most f set k = some b → b < k ∧ sp_bit set b = true ∧ (∀ j, j < k → sp_bit set j = true → sp_hv f (nI j) ≤ sp_hv f (nI b)) ∧ ∀ j, j < b → sp_bit set j = true → sp_hv f (nI j) < sp_hv f (nI b))
  | 0 => ⟨fun _ j hj => absurd hj (Nat.not_lt_zero j), fun b h => by cases h⟩
  | k + 1 => by
    obtain ⟨i1, i2⟩ := sp_most_spec (f := f) (set := set) k
    cases e : sp_most f set k with
    | none =>
      have i1 := i1 e
      by_cases hb : sp_bit set k = true
      · have e2 : sp_most f set (k + 1) = some k := by rw [sp_most, e]; dsimp only; rw [if_pos hb]
        rw [e2]
        refine ⟨fun z => (by cases z), fun b z => ?_⟩
        cases z
        refine ⟨by omega, hb, fun j hj hbj => ?_, fun j hj hbj => ?_⟩
        · by_cases ej : j = k
          · rw [ej]; exact Nat.le_refl _
          · rw [i1 j (by omega)] at hbj; cases hbj
        · rw [i1 j hj] at hbj; cases hbj
      · have e2 : sp_most f set (k + 1) = none := by rw [sp_most, e]; dsimp only; rw [if_neg hb]
        rw [e2]
        refine ⟨fun _ j hj => ?_, fun b z => by cases z⟩
        by_cases ej : j = k
        · rw [ej]; simpa using hb
        · exact i1 j (by omega)
    | some c =>
      obtain ⟨h1, h2, h3, h4⟩ := i2 c e
      by_cases hc : sp_bit set k = true ∧ sp_hv f (nI c) < sp_hv f (nI k)
      · have e2 : sp_most f set (k + 1) = some k := by rw [sp_most, e]; dsimp only; rw [if_pos hc]
        rw [e2]
        refine ⟨fun z => (by cases z), fun b z => ?_⟩
        cases z
        refine ⟨by omega, hc.1, fun j hj hbj => ?_, fun j hj hbj => ?_⟩
        · by_cases ej : j = k
          · rw [ej]; exact Nat.le_refl _
          · have := h3 j (by omega) hbj; omega
        · have := h3 j hj hbj; omega
      · have e2 : sp_most f set (k + 1) = some c := by rw [sp_most, e]; dsimp only; rw [if_neg hc]
        rw [e2]
        refine ⟨fun z => (by cases z), fun b z => ?_⟩
        cases z
        refine ⟨by omega, h2, fun j hj hbj => ?_, h4⟩
        by_cases ej : j = k
        · subst ej
          rcases Nat.lt_or_ge (sp_hv f (nI c)) (sp_hv f (nI j)) with q | q
          · exact absurd ⟨hbj, q⟩ hc
          · exact q
        · exact h3 j (by omega) hbj
theorem sp_most_uq {f : Nat → Int32} {set : Int32} {k b : Nat} (h1 : b < k) (h2 : sp_bit set b = true) (h3 : ∀ j, j < k → sp_bit set j = true → sp_hv f (nI j) ≤ sp_hv f (nI b)) (h4 : ∀ j, j < b → sp_bit set j = true → sp_hv f (nI j) < sp_hv f (nI b)) : sp_most f set k = some b := by
  obtain ⟨i1, i2⟩ := sp_most_spec (f := f) (set := set) k
  cases e : sp_most f set k with
  | none => rw [i1 e b h1] at h2; cases h2
  | some c =>
    obtain ⟨g1, g2, g3, g4⟩ := i2 c e
    congr 1
    rcases Nat.lt_trichotomy c b with q | q | q
    · have a1 := h4 c q g2
      have a2 := g3 b h1 h2
      omega
    · exact q
    · have a1 := g4 b q h2
      have a2 := h3 c g1 g2
      omega
section KB
variable {F : sv_Fr} {g : sv_Mg} {a B : Nat} {f : Nat → Int32}
theorem sp_set_bit (hw : sp_W B f) {k : Nat} (hk : k < 10) : sp_bit (sp_set f) k = decide (k < sp_n f) := by
  unfold sp_set
  rw [hw.n]
  exact bit_all _ (by have := hw.n2; omega) k hk
/-- who runs is a voter; the leader of all leads the runners -/
theorem sp_runs_ok (hw : sp_W B f) : (∀ k, k < 10 → sp_bit (sp_runs f) k = true → k < sp_n f) ∧ sp_mo f (sp_runs f) = sp_mo f (sp_set f) := by
  have n2 := hw.n2
  have all_ok : ∀ k, k < 10 → sp_bit (sp_set f) k = true → k < sp_n f := by
    intro k hk h
    rw [sp_set_bit hw hk] at h
    exact of_decide_eq_true h
  unfold sp_runs
  cases e : sp_mo f (sp_set f) with
  | none => dsimp only; rw [e]; exact ⟨all_ok, rfl⟩
  | some x =>
    obtain ⟨x1, x2, x3, x4⟩ := (sp_most_spec (f := f) (set := sp_set f) (sp_n f)).2 x e
    have bt : ∀ j, j < sp_n f → sp_bit (sp_set f) j = true := fun j hj => by rw [sp_set_bit hw (by omega)]; exact decide_eq_true hj
    dsimp only
    split
    · rw [e]; exact ⟨all_ok, rfl⟩
    · cases e2 : sp_mo f (sp_set f &&& ((1 <<< (nI x &&& 31)) ^^^ (-1))) with
      | none =>
        dsimp only
        refine ⟨fun k hk h => ?_, ?_⟩
        · rw [bit_one x (by omega) k hk] at h
          have := of_decide_eq_true h; omega
        · refine sp_most_uq x1 (by rw [bit_one x (by omega) x (by omega)]; simp) (fun j hj hb => x3 j hj (bt j hj)) (fun j hj hb => x4 j hj (bt j (by omega)))
      | some b =>
        have hb := sp_mo_lt e2
        dsimp only
        split
        · refine ⟨fun k hk h => ?_, ?_⟩
          · rw [bit_one x (by omega) k hk] at h
            have := of_decide_eq_true h; omega
          · refine sp_most_uq x1 (by rw [bit_one x (by omega) x (by omega)]; simp) (fun j hj hb => x3 j hj (bt j hj)) (fun j hj hb => x4 j hj (bt j (by omega)))
        · refine ⟨fun k hk h => ?_, ?_⟩
          · rw [bit_two x (by omega) b (by omega) k hk] at h
            have := of_decide_eq_true h; omega
          · refine sp_most_uq x1 (by rw [bit_two x (by omega) b (by omega) x (by omega)]; simp) (fun j hj hb => x3 j hj (bt j hj)) (fun j hj hb => x4 j hj (bt j (by omega)))
theorem sp_lead (hw : sp_W B f) : sp_mo f (sp_runs f) = sp_mo f (sp_set f) := (sp_runs_ok hw).2
theorem sp_lead_some (hw : sp_W B f) (hn : 0 < sp_n f) : ∃ b, b < sp_n f ∧ sp_mo f (sp_set f) = some b := by
  cases e : sp_mo f (sp_set f) with
  | none =>
    have := (sp_most_spec (f := f) (set := sp_set f) (sp_n f)).1 e 0 hn
    rw [sp_set_bit hw (by omega)] at this
    simp at this
    omega
  | some b => exact ⟨b, sp_mo_lt e, rfl⟩
/-! whom a voter votes for -/
theorem k_plain {v : Nat} {Q : Int32 → sv_Mg → Prop} (hc : cr5 F g a f) (hw : sp_W B f) (hv : v < sp_n f) (q : Q (sp_plain f v (sp_runs f)) g) : wp_X0_choiceOfPlain F a (nI v) (sp_runs f) (sp_o (sp_mo f (sp_set f))) g Q := by
  have n2 := hw.n2
  have e : g (a + 2) v = f (12 + 6 * v) := hc.2.1.at 1 _ _ hv (by omega) (by omega) (by omega)
  unfold sp_plain at q
  rw [sp_lead hw] at q
  refine ⟨pl_in (by omega) (by omega), ?_⟩
  rw [pl_clamp (by omega), e]
  split at q
  · rename_i h; exact br_y h ⟨pl_in (by omega) (by omega), q⟩
  · rename_i h; exact br_n h q
theorem k_loyal_l {v : Nat} {Q : Int32 → sv_Mg → Prop} (hc : cr5 F g a f) (hw : sp_W B f) (hv : v < sp_n f) (q : Q (sp_loyal f v (sp_runs f)) g) : ∀ m i, i ≤ sp_n f → sp_n f + 1 ≤ i + m → wp_X0_choiceOfLoyal_6 F a Q m (nI v) (sp_runs f) (sp_o (sp_mo f (sp_set f))) (sp_party f (f (13 + 6 * v)) i) (nI i) g := by
  have n2 := hw.n2
  have hn := hc.n hw
  have ep : ∀ j, j < sp_n f → g (a + 3) j = f (13 + 6 * j) := fun j hj => hc.2.1.at 2 _ _ hj (by omega) (by omega) (by omega)
  intro m
  induction m with
  | zero => intro i h1 h2; omega
  | succ m ih =>
    intro i h1 h2
    rw [wp_X0_choiceOfLoyal_6]
    by_cases hi : sp_n f ≤ i
    · have e : i = sp_n f := by omega
      refine br_y (by rw [hn]; exact (pl_le (by omega) (by omega)).mpr hi) ?_
      rw [e]
      refine k_most hc hw ?_
      unfold sp_loyal at q
      cases e2 : sp_mo f (sp_runs f &&& sp_party f (f (13 + 6 * v)) (sp_n f)) with
      | none =>
        rw [e2] at q
        exact br_y rfl (k_plain hc hw hv q)
      | some b =>
        rw [e2] at q
        have hb := sp_mo_lt e2
        exact br_n (pl_m1 (by omega)) q
    · refine br_n (fun z => hi (by rw [hn] at z; exact (pl_le (by omega) (by omega)).mp z)) ⟨pl_in (by omega) (by omega), pl_in (by omega) (by omega), ?_⟩
      rw [pl_clamp (by omega), pl_clamp (by omega), ep i (by omega), ep v hv]
      have ih2 := ih (i + 1) (by omega) (by omega)
      rw [sp_party] at ih2
      by_cases c : f (13 + 6 * i) = f (13 + 6 * v)
      · rw [if_pos c] at ih2
        refine br_y c ?_
        intro v4 e4 v5 e5
        rw [e4, e5, nI_1]; exact ih2
      · rw [if_neg c, pl_or0] at ih2
        refine br_n c ?_
        intro v5 e5
        rw [e5, nI_1]; exact ih2
theorem k_loyal {v : Nat} {Q : Int32 → sv_Mg → Prop} (hc : cr5 F g a f) (hw : sp_W B f) (hv : v < sp_n f) (q : Q (sp_loyal f v (sp_runs f)) g) : wp_X0_choiceOfLoyal F a (nI v) (sp_runs f) (sp_o (sp_mo f (sp_set f))) g Q :=
  ⟨_, k_loyal_l hc hw hv q (sp_n f + 1) 0 (Nat.zero_le _) (by omega)⟩
theorem cr5.mv {g' : sv_Mg} (hc : cr5 F g a f) (hL : sv_Lay F) (h : ∀ k, (a ≤ k ∧ k ≤ a + 7 ∧ k ≠ a + 6) ∨ 82 ≤ k → g' k = g k) : cr5 F g' a f := by
  obtain ⟨h1, h2, h3, h4⟩ := hc
  refine ⟨?_, fun v j hv hj => ?_, fun u hu => ?_, fun t ht => ?_⟩
  · unfold cr_s; rw [h a (by omega)]; exact h1
  · rw [h (a + 1 + j) (by omega)]; exact h2 v j hv hj
  · rw [h (a + 7) (by omega)]; exact h3 u hu
  · obtain ⟨q, e1, e2, e3, e4, e5⟩ := h4 t ht
    have hq := (hL.2.2 t q e1).1
    refine ⟨q, e1, by rw [h q (by omega)]; exact e2, by rw [h q (by omega)]; exact e3, e4, fun k hk => ?_⟩
    rw [h (q + 1) (by omega)]; exact e5 k hk
theorem cr.mv {g' : sv_Mg} (hc : cr F g a f) (hL : sv_Lay F) (h : ∀ k, (a ≤ k ∧ k ≤ a + 7) ∨ 82 ≤ k → g' k = g k) : cr F g' a f :=
  ⟨hc.1.mv hL (fun k hk => h k (by omega)), fun v hv => (by rw [h (a + 6) (by omega)]; exact hc.2.1 v hv), by rw [h a (by omega)]; exact hc.2.2⟩
theorem sp_held_in {k : Nat} (hk : k < 100) : sp_held (nI k) 0 99 = nI k := by
  unfold sp_held
  rw [if_neg (pl_nn (by omega)), if_neg (by rw [pl_lit 99]; exact fun z => absurd ((pl_lt (by omega) (by omega)).mp z) (by omega))]
theorem k_swayed {v : Nat} {Q : Int32 → sv_Mg → Prop} (hL : sv_Lay F) (ha : sv_isC a) (hc : cr5 F g a f) (hw : sp_W B f) (hv : v < sp_n f) (q : ∀ g', sv_sm (fun k => k = 3) g g' → Q (sp_swayed f v (sp_runs f)) g') : wp_X0_choiceOfSwayed F a (nI v) (sp_runs f) (sp_o (sp_mo f (sp_set f))) g Q := by
  have n2 := hw.n2
  have ef : g (a + 4) v = f (14 + 6 * v) := hc.2.1.at 3 _ _ hv (by omega) (by omega) (by omega)
  have ep : g (a + 3) v = f (13 + 6 * v) := hc.2.1.at 2 _ _ hv (by omega) (by omega) (by omega)
  have er : g a 14 = f 3 := hc.1.2.2.2.2.2.2.1
  obtain ⟨kf, hkf, ekf⟩ := hw.1.2.1 v 3 hv (by omega)
  have hkf : kf < 100 := hkf
  have ekf : f (14 + 6 * v) = nI kf := by rw [← ekf]; congr 1; omega
  obtain ⟨b, hb, eb⟩ := sp_lead_some hw (by omega)
  have fin : ∀ g' s, sv_sm (fun k => k = 3) g g' → sp_held s 0 99 = sp_sway f v → wp_X0_choiceOfSwayed_56 F a Q (nI v) (sp_runs f) (sp_o (sp_mo f (sp_set f))) s g' := by
    intro g' s hS es
    have a3 : a ≠ 3 := by rcases ha with h | h | h <;> omega
    have a3' : 3 < a := by rcases ha with h | h | h <;> omega
    have hc' : cr5 F g' a f := hc.mv hL (fun k hk => hS k (by omega))
    have q := q g' hS
    unfold sp_swayed at q
    rw [sp_lead hw, eb] at q
    unfold wp_X0_choiceOfSwayed_56
    have hp := k_plain (F := F) (g := g') (a := a) (v := v) (Q := Q) hc' hw hv
    rw [eb] at hp ⊢
    rw [show sp_o (some b) = nI b from rfl] at q hp ⊢
    refine k_voter_y (hc'.n hw) n2 hb (br_n ne10 ⟨pl_in (by omega) (by omega), k_held (by decide) ?_⟩)
    rw [pl_clamp (by omega), hc'.2.2.1 b (by omega), es]
    split at q
    · rename_i h
      exact br_y h (br_y rfl (hp q))
    · rename_i h
      exact br_n h (br_n ne10 q)
  unfold wp_X0_choiceOfSwayed
  refine k_cnt (f := f) (key := 0) rfl (by rw [hc.1.2.2.2.2.2.2.2.2.2]; exact hw.t) hc.2.2.2 hw.2 hw.t2 (by omega) ?_
  rw [pl_clamp (by omega), ef, ep, er]
  unfold sp_sway at fin
  cases e : sp_cnt f 0 (sp_t f) with
  | none =>
    rw [e] at fin
    refine br_n (by decide) ⟨pl_in (by omega) (by omega), fin g _ sv_sm.rf ?_⟩
    rw [ekf, pl_lit 10, pk_div (by omega) (by omega) (by omega)]
    exact sp_held_in (by omega)
  | some t =>
    rw [e] at fin
    obtain ⟨ht1, -⟩ := sp_cnt_lt e
    have t2 := hw.t2
    refine br_y (pl_nn' (by omega)) ⟨pl_in (by omega) (by omega), pl_in (by omega) (by omega), ?_⟩
    exact k_value hL hc.2.2.2 hw.2 ht1 t2 (fun g' hS => fin g' _ hS rfl)
theorem k_for {v : Nat} {Q : Int32 → sv_Mg → Prop} (hL : sv_Lay F) (ha : sv_isC a) (hc : cr5 F g a f) (hw : sp_W B f) (hB : B < 90000) (hv : v < sp_n f) (q : ∀ g', sv_sm (fun k => k = 3) g g' → Q (sp_for f v) g') : wp_X0_choice F a (nI v) (sp_runs f) (sp_o (sp_mo f (sp_set f))) g Q := by
  have n2 := hw.n2
  have ek : g (a + 1) v = f (11 + 6 * v) := hc.2.1.at 0 _ _ hv (by omega) (by omega) (by omega)
  have ef : g (a + 4) v = f (14 + 6 * v) := hc.2.1.at 3 _ _ hv (by omega) (by omega) (by omega)
  have er : g a 14 = f 3 := hc.1.2.2.2.2.2.2.1
  obtain ⟨r, dd, e3, -, hrd, hdB⟩ := hw.1.2.2.2.2.2.2.1
  refine ⟨pl_in (by omega) (by omega), ?_⟩
  rw [pl_clamp (by omega), ek, ef, er]
  unfold sp_for at q
  by_cases c1 : f (11 + 6 * v) = 1
  · simp only [if_pos c1] at q
    exact br_y c1 (k_loyal hc hw hv (q g sv_sm.rf))
  · simp only [if_neg c1] at q
    refine br_n c1 ?_
    by_cases c2 : f (11 + 6 * v) = 2
    · simp only [if_pos c2] at q
      exact br_y c2 (k_swayed hL ha hc hw hv q)
    · simp only [if_neg c2] at q
      refine br_n c2 ?_
      by_cases c3 : f (11 + 6 * v) = 3
      · simp only [if_pos c3] at q
        refine br_y c3 ?_
        by_cases c4 : ((sp_runs f >>> (nI v &&& 31)) &&& 1) = 1
        · simp only [if_pos c4] at q
          refine br_y c4 ⟨pl_in (by omega) (by omega), ?_⟩
          by_cases c5 : f (14 + 6 * v) < 50
          · simp only [if_pos c5] at q
            exact br_y c5 (br_y rfl (k_loyal hc hw hv (q g sv_sm.rf)))
          · simp only [if_neg c5] at q
            exact br_n c5 (br_n ne10 (q g sv_sm.rf))
        · simp only [if_neg c4] at q
          exact br_n c4 (br_y rfl (k_loyal hc hw hv (q g sv_sm.rf)))
      · simp only [if_neg c3] at q
        refine br_n c3 ?_
        by_cases c4 : f (11 + 6 * v) = 4
        · simp only [if_pos c4] at q
          refine br_y c4 ?_
          rw [e3, pl_lit 2, pk_rem (by omega) (by omega) (by omega)] at q ⊢
          by_cases c5 : r % 2 = 1
          · rw [c5] at q ⊢
            simp only [if_pos (show nI 1 = 1 from rfl)] at q
            exact br_n ne10 (q g sv_sm.rf)
          · have c6 : r % 2 = 0 := by omega
            rw [c6] at q ⊢
            simp only [if_neg (show ¬ nI 0 = 1 by decide)] at q
            exact br_y rfl (k_swayed hL ha hc hw hv q)
        · simp only [if_neg c4] at q
          exact br_n c4 (k_plain hc hw hv (q g sv_sm.rf))
end KB
