/-! THE REFERENCE'S LEAVES -/
theorem r_in_y {F : sv_Fr} {v l h : Int32} {g : sv_Mg} {Q : Int32 → sv_Mg → Prop} (h1 : ¬ v < l) (h2 : ¬ h < v) (q : Q 1 g) : wp_X7_in F v l h g Q := ⟨fun c => absurd c h1, fun _ => ⟨fun c => absurd c h2, fun _ => q⟩⟩
theorem r_in_n {F : sv_Fr} {v l h : Int32} {g : sv_Mg} {Q : Int32 → sv_Mg → Prop} (h1 : v < l ∨ h < v) (q : Q 0 g) : wp_X7_in F v l h g Q := ⟨fun _ => q, fun c => ⟨fun _ => q, fun c' => (h1.elim (fun z => absurd z c) (fun z => absurd z c'))⟩⟩
theorem k_in_y {F : sv_Fr} {v l h : Int32} {g : sv_Mg} {Q : Int32 → sv_Mg → Prop} (h1 : ¬ v < l) (h2 : ¬ h < v) (q : Q 1 g) : wp_X6_isWithin F v l h g Q := ⟨fun c => absurd c h1, fun _ => ⟨fun c => absurd c h2, fun _ => q⟩⟩
theorem k_in_n {F : sv_Fr} {v l h : Int32} {g : sv_Mg} {Q : Int32 → sv_Mg → Prop} (h1 : v < l ∨ h < v) (q : Q 0 g) : wp_X6_isWithin F v l h g Q := ⟨fun _ => q, fun c => ⟨fun _ => q, fun c' => (h1.elim (fun z => absurd z c) (fun z => absurd z c'))⟩⟩
/-- two branches: the way that is taken -/
theorem br_y {c A B : Prop} (h : c) (a : A) : (c → A) ∧ (¬ c → B) := ⟨fun _ => a, fun q => absurd h q⟩
theorem br_n {c A B : Prop} (h : ¬ c) (a : B) : (c → A) ∧ (¬ c → B) := ⟨fun q => absurd q h, fun _ => a⟩
theorem ne10 : ¬ (1 : Int32) = 0 := by decide
theorem pl_in_iff (v l h : Int32) : (¬ v < l ∧ ¬ h < v) ∨ (v < l ∨ h < v) := by
  by_cases h1 : v < l
  · exact Or.inr (Or.inl h1)
  · by_cases h2 : h < v
    · exact Or.inr (Or.inr h2)
    · exact Or.inl ⟨h1, h2⟩
theorem r_within {F : sv_Fr} {v l h : Int32} {g : sv_Mg} {Q : Int32 → sv_Mg → Prop} (q : Q (if v < l then l else if h < v then h else v) g) : wp_X7_within F v l h g Q := by
  by_cases h1 : v < l
  · rw [if_pos h1] at q
    exact br_n (fun z => Int32.not_le.mpr h1 z) q
  · rw [if_neg h1] at q
    refine br_y (Int32.not_lt.mp h1) ?_
    by_cases h2 : h < v
    · rw [if_pos h2] at q
      exact br_n (fun z => Int32.not_le.mpr h2 z) q
    · rw [if_neg h2] at q
      exact br_y (Int32.not_lt.mp h2) q
theorem r_voter_y {F : sv_Fr} {g : sv_Mg} {n i : Nat} {Q : Int32 → sv_Mg → Prop} (hn : g 59 1 = nI n) (hn2 : n ≤ 10) (hi : i < n) (q : Q 1 g) : wp_X7_isVoter F (nI i) g Q := by
  refine r_in_y (pl_nn (by omega)) ?_ ⟨Or.inr rfl, q⟩
  rw [hn, pl_pred (by omega)]
  exact fun z => absurd ((pl_lt (by omega) (by omega)).mp z) (by omega)
theorem r_voter_n {F : sv_Fr} {g : sv_Mg} {n : Nat} {v : Int32} {Q : Int32 → sv_Mg → Prop} (hn : g 59 1 = nI n) (hn2 : n ≤ 10) (hv : v < 0 ∨ nI n ≤ v) (q : Q 0 g) : wp_X7_isVoter F v g Q := by
  refine r_in_n ?_ ⟨Or.inl rfl, q⟩
  rcases hv with h | h
  · exact Or.inl h
  · by_cases h0 : n = 0
    · subst h0
      by_cases hv0 : v < 0
      · exact Or.inl hv0
      · refine Or.inr ?_
        rw [hn]
        have h2 : (nI 0 - 1 : Int32) < 0 := by decide
        exact Int32.lt_of_lt_of_le h2 (Int32.not_lt.mp hv0)
    · refine Or.inr ?_
      rw [hn, pl_pred (by omega)]
      exact Int32.lt_of_lt_of_le ((pl_lt (by omega) (by omega)).mpr (by omega)) h
theorem pl_v6 {i j : Nat} : ((11 + (6 * nI i)) + nI j : Int32) = nI (11 + 6 * i + j) := by
  rw [pl_lit 11, pl_lit 6, pk_mul, nI_add, nI_add]
theorem r_of {F : sv_Fr} {g : sv_Mg} {i j : Nat} {w : Int32} {Q : Int32 → sv_Mg → Prop} (hw : w = nI j) (hi : i < 10) (hj : j < 6) (q : Q (g 59 (11 + 6 * i + j)) g) : wp_X7_of F (nI i) w g Q := by
  subst hw
  rw [wp_X7_of, pl_v6, pl_clamp (by omega)]
  exact ⟨pl_in (by omega) (by omega), q⟩
theorem r_put {F : sv_Fr} {g : sv_Mg} {i j : Nat} {w x : Int32} {Q : sv_Mg → Prop} (hw : w = nI j) (hi : i < 10) (hj : j < 6) (q : Q (sv_st g 59 (11 + 6 * i + j) x)) : wp_X7_put F (nI i) w x g Q := by
  subst hw
  rw [wp_X7_put, pl_v6, pl_clamp (by omega)]
  refine ⟨pl_in (by omega) (by omega), fun g2 e => ?_⟩
  rw [e]; exact q
theorem r_becomes {F : sv_Fr} {g : sv_Mg} {k : Nat} {w x : Int32} {Q : Int32 → sv_Mg → Prop} (hw : w = nI k) (hk : k < 1443) (q : Q (g 59 k) (sv_st g 59 k x)) : wp_X7_becomes F w x g Q := by
  subst hw
  rw [wp_X7_becomes, pl_clamp (by omega)]
  refine ⟨pl_in hk (by omega), fun v e => ⟨pl_in hk (by omega), fun g2 e2 => ?_⟩⟩
  rw [e, e2]; exact q
theorem r_weight {F : sv_Fr} {g : sv_Mg} {i : Nat} {Q : Int32 → sv_Mg → Prop} (hi : i < 10) (q : Q (nI (sp_w (g 59) i)) g) : wp_X7_weightOf F (nI i) g Q := by
  refine r_of (j := 0) rfl hi (by omega) ?_
  rw [sp_w] at q
  by_cases h : g 59 (11 + 6 * i) = 5
  · rw [if_pos h] at q; exact br_y h q
  · rw [if_neg h] at q; exact br_n h q
theorem r_has_l {F : sv_Fr} {g : sv_Mg} {v : Int32} {n : Nat} {Q : Int32 → sv_Mg → Prop} (hn : g 59 1 = nI n) (hn2 : n ≤ 10) (q : Q (nI (sp_has (g 59) v n)) g) : ∀ m i, i ≤ n → n + 1 ≤ i + m → wp_X7_has_4 F Q m v (nI (sp_has (g 59) v i)) (nI i) g := by
  intro m
  induction m with
  | zero => intro i h1 h2; omega
  | succ m ih =>
    intro i h1 h2
    rw [wp_X7_has_4, hn]
    by_cases hi : n ≤ i
    · have e : i = n := by omega
      subst e
      exact br_y ((pl_le (by omega) (by omega)).mpr hi) q
    · refine br_n (fun z => hi ((pl_le (by omega) (by omega)).mp z)) ?_
      refine r_of (j := 5) rfl (by omega) (by omega) ?_
      have hs := sp_has_le (g 59) v i
      have hw := sp_w_le (g 59) i
      have ih2 := ih (i + 1) (by omega) (by omega)
      rw [sp_has] at ih2
      by_cases hv : g 59 (11 + 6 * i + 5) = v
      · refine br_y hv (r_weight (by omega) ?_)
        have hv' : g 59 (16 + 6 * i) = v := by rw [← hv]; congr 1; omega
        rw [if_pos hv', ← nI_add] at ih2
        intro v2 e2 v3 e3
        rw [e2, e3, nI_1]; exact ih2
      · refine br_n hv ?_
        have hv' : ¬ g 59 (16 + 6 * i) = v := by
          intro h; apply hv; rw [← h]; congr 1; omega
        rw [if_neg hv', ← nI_add] at ih2
        intro v2 e2 v3 e3
        rw [e2, e3, nI_1]; exact ih2
/-- has(v) -/
theorem r_has {F : sv_Fr} {g : sv_Mg} {v : Int32} {Q : Int32 → sv_Mg → Prop} (hn : g 59 1 = nI (sp_n (g 59))) (hn2 : sp_n (g 59) ≤ 10) (q : Q (nI (sp_hv (g 59) v)) g) : wp_X7_has F v g Q :=
  ⟨_, r_has_l hn hn2 q (sp_n (g 59) + 1) 0 (Nat.zero_le _) (by omega)⟩
theorem sp_o_neg (o : Option Nat) (h : ∀ b, o = some b → b < 100000) : sp_o o < 0 ↔ o = none := by
  cases o with
  | none => exact ⟨fun _ => rfl, fun _ => by decide⟩
  | some b => exact ⟨fun z => absurd z (pl_nn (h b rfl)), fun z => by cases z⟩
theorem r_most_l {F : sv_Fr} {g : sv_Mg} {set : Int32} {n : Nat} {Q : Int32 → sv_Mg → Prop} (hn : g 59 1 = nI n) (hnn : n = sp_n (g 59)) (hn2 : n ≤ 10) (q : Q (sp_o (sp_most (g 59) set n)) g) : ∀ m i, i ≤ n → n + 1 ≤ i + m → wp_X7_mostOf_4 F Q m set (sp_o (sp_most (g 59) set i)) (nI i) g := by
  intro m
  induction m with
  | zero => intro i h1 h2; omega
  | succ m ih =>
    intro i h1 h2
    rw [wp_X7_mostOf_4]
    by_cases hi : n ≤ i
    · have e : i = n := by omega
      subst e
      exact br_y (by rw [hn]; exact (pl_le (by omega) (by omega)).mpr hi) q
    · refine br_n (fun z => hi (by rw [hn] at z; exact (pl_le (by omega) (by omega)).mp z)) ?_
      have ih2 := ih (i + 1) (by omega) (by omega)
      have go : ∀ o, sp_most (g 59) set (i + 1) = o → wp_X7_mostOf_42 F Q (wp_X7_mostOf_4 F Q m) set (sp_o o) (nI i) g := by
        intro o e v3 e3
        rw [e3, nI_1, ← e]; exact ih2
      by_cases hb : ((set >>> (nI i &&& 31)) &&& 1) = 1
      · refine br_y hb ?_
        have hb' : sp_bit set i = true := decide_eq_true hb
        cases e : sp_most (g 59) set i with
        | none =>
          refine br_y (by decide) ?_
          exact go (some i) (by rw [sp_most, e]; dsimp only; rw [if_pos hb'])
        | some b =>
          have hbi := sp_most_lt e
          rw [show sp_o (some b) = nI b from rfl]
          refine br_n (pl_nn (by omega)) ?_
          refine r_has (by rw [← hnn]; exact hn) (by omega) (r_has (by rw [← hnn]; exact hn) (by omega) ?_)
          have l1 := sp_has_le (g 59) (nI i) (sp_n (g 59))
          have l2 := sp_has_le (g 59) (nI b) (sp_n (g 59))
          by_cases hc : sp_hv (g 59) (nI b) < sp_hv (g 59) (nI i)
          · refine br_n (fun z => absurd ((pl_le (by unfold sp_hv; omega) (by unfold sp_hv; omega)).mp z) (by omega)) ?_
            exact go (some i) (by rw [sp_most, e]; dsimp only; rw [if_pos ⟨hb', hc⟩])
          · refine br_y ((pl_le (by unfold sp_hv; omega) (by unfold sp_hv; omega)).mpr (by omega)) ?_
            exact go (some b) (by rw [sp_most, e]; dsimp only; rw [if_neg (fun z => hc z.2)])
      · refine br_n hb ?_
        have hb' : ¬ sp_bit set i = true := fun z => hb (of_decide_eq_true z)
        refine go _ ?_
        rw [sp_most]
        cases e : sp_most (g 59) set i with
        | none => dsimp only; rw [if_neg hb']
        | some b => dsimp only; rw [if_neg (fun z => hb' z.1)]
theorem r_most {F : sv_Fr} {g : sv_Mg} {set : Int32} {Q : Int32 → sv_Mg → Prop} (hn : g 59 1 = nI (sp_n (g 59))) (hn2 : sp_n (g 59) ≤ 10) (q : Q (sp_o (sp_mo (g 59) set)) g) : wp_X7_mostOf F set g Q :=
  ⟨_, r_most_l hn rfl hn2 q (sp_n (g 59) + 1) 0 (Nat.zero_le _) (by omega)⟩
def sp_set (f : Nat → Int32) : Int32 := (1 <<< ((f 1) &&& 31)) - 1
theorem r_all {F : sv_Fr} {g : sv_Mg} {Q : Int32 → sv_Mg → Prop} (q : Q (sp_set (g 59)) g) : wp_X7_all F g Q := q
/-- who runs, as a set -/
def sp_runs (f : Nat → Int32) : Int32 := match sp_mo f (sp_set f) with
  | none => sp_set f
  | some a => if f 3 < f 6 ∨ sp_hv f (nI a) = 0 then sp_set f else match sp_mo f (sp_set f &&& ((1 <<< (nI a &&& 31)) ^^^ (-1))) with
    | none => 1 <<< (nI a &&& 31)
    | some b => if sp_hv f (nI b) = 0 then 1 <<< (nI a &&& 31) else (1 <<< (nI a &&& 31)) ||| (1 <<< (nI b &&& 31))
theorem pl_or0 (x : Int32) : x ||| 0 = x := by
  apply Int32.toBitVec_inj.mp
  simp
theorem sp_mo_lt {f : Nat → Int32} {set : Int32} {b : Nat} (h : sp_mo f set = some b) : b < sp_n f := sp_most_lt h
theorem sp_hv_le (f : Nat → Int32) (v : Int32) (h : sp_n f ≤ 10) : sp_hv f v ≤ 20 := by
  have := sp_has_le f v (sp_n f)
  unfold sp_hv; omega
theorem pl_eq0 {a : Nat} (ha : a < 100000) : nI a = 0 ↔ a = 0 := pl_eq (b := 0) ha (by omega)
theorem r_runs {F : sv_Fr} {g : sv_Mg} {Q : Int32 → sv_Mg → Prop} (hn : g 59 1 = nI (sp_n (g 59))) (hn2 : sp_n (g 59) ≤ 10) (q : Q (sp_runs (g 59)) g) : wp_X7_runners F g Q := by
  unfold sp_runs at q
  refine r_all (r_most hn hn2 ?_)
  cases e : sp_mo (g 59) (sp_set (g 59)) with
  | none =>
    rw [e] at q
    dsimp only at q
    refine ⟨fun _ => r_all q, fun _ => br_y (by decide) (r_all q)⟩
  | some a =>
    rw [e] at q
    dsimp only at q
    have ha := sp_mo_lt e
    have h1 := sp_hv_le (g 59) (nI a) hn2
    rw [show sp_o (some a) = nI a from rfl]
    by_cases c : g 59 3 < g 59 6
    · rw [if_pos (Or.inl c)] at q
      exact br_y c (r_all q)
    · refine br_n c (br_n (pl_nn (by omega)) (r_has hn hn2 ?_))
      by_cases c2 : sp_hv (g 59) (nI a) = 0
      · rw [if_pos (Or.inr c2)] at q
        exact br_y ((pl_eq0 (by omega)).mpr c2) (r_all q)
      · rw [if_neg (fun z => z.elim c c2)] at q
        refine br_n (fun z => c2 ((pl_eq0 (by omega)).mp z)) (r_all (r_most hn hn2 ?_))
        show (_ → _) ∧ _
        cases e2 : sp_mo (g 59) (sp_set (g 59) &&& ((1 <<< (nI a &&& 31)) ^^^ (-1))) with
        | none =>
          rw [e2] at q
          dsimp only at q
          refine br_y (by decide) ?_
          show Q (_ ||| 0) g
          rw [pl_or0]; exact q
        | some b =>
          rw [e2] at q
          dsimp only at q
          have hb := sp_mo_lt e2
          have h2 := sp_hv_le (g 59) (nI b) hn2
          rw [show sp_o (some b) = nI b from rfl]
          refine br_n (pl_nn (by omega)) (r_has hn hn2 ?_)
          by_cases c3 : sp_hv (g 59) (nI b) = 0
          · rw [if_pos c3] at q
            refine br_y ((pl_eq0 (by omega)).mpr c3) ?_
            show Q (_ ||| 0) g
            rw [pl_or0]; exact q
          · rw [if_neg c3] at q
            exact br_n (fun z => c3 ((pl_eq0 (by omega)).mp z)) q
