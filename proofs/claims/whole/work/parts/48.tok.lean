/-! TOKENS: the tape's words and signs, as both sides read them. A token: its sort (0 end, 1 letters, 2 number, 3 sign, 4 broken), where it starts, where it ends, its value -/
def tk_cl (x : Nat) : Nat := if 97 ≤ x ∧ x ≤ 122 then 1 else if 48 ≤ x ∧ x ≤ 57 then 2 else 3
def tk_rn (ok : Nat → Bool) (n : Nat) : Nat → Nat → Nat
  | 0, p => p
  | m + 1, p => if p < n ∧ ok p = true then tk_rn ok n m (p + 1) else p
theorem tk_rn_spec {ok : Nat → Bool} {n : Nat} : ∀ {m p : Nat}, p ≤ n → n ≤ p + m → (p ≤ tk_rn ok n m p ∧ tk_rn ok n m p ≤ n) ∧ (∀ k, p ≤ k → k < tk_rn ok n m p → ok k = true) ∧ (tk_rn ok n m p < n → ok (tk_rn ok n m p) = false)
  | 0, p, h1, h2 => ⟨⟨Nat.le_refl _, h1⟩, fun k a b => absurd b (by unfold tk_rn; omega), fun c => absurd c (by unfold tk_rn; omega)⟩
  | m + 1, p, h1, h2 => by
    rw [tk_rn]
    by_cases c : p < n ∧ ok p = true
    · rw [if_pos c]
      obtain ⟨⟨a1, a2⟩, a3, a4⟩ := tk_rn_spec (ok := ok) (n := n) (m := m) (p := p + 1) (by omega) (by omega)
      refine ⟨⟨by omega, a2⟩, fun k k1 k2 => ?_, a4⟩
      by_cases e : k = p
      · subst e; exact c.2
      · exact a3 k (by omega) k2
    · rw [if_neg c]
      refine ⟨⟨Nat.le_refl _, h1⟩, fun k a b => absurd b (by omega), fun c2 => ?_⟩
      cases e : ok p
      · rfl
      · exact absurd ⟨c2, e⟩ c
def tk_nv (b : Nat → Nat) (p : Nat) : Nat → Nat
  | 0 => 0
  | k + 1 => 10 * tk_nv b p k + (b (p + k) - 48)
abbrev tk_T : Type := Nat × Nat × Nat × Nat
def tk_s (b : Nat → Nat) (n p : Nat) : Nat := tk_rn (fun k => decide (b k = 32)) n n p
def tk_e (b : Nat → Nat) (n c s : Nat) : Nat := tk_rn (fun k => decide (tk_cl (b k) = c)) n n s
def tk_at (b : Nat → Nat) (n : Nat) (w : Bool) (p s : Nat) : tk_T :=
  if n ≤ s then (0, s, s, 0)
  else if tk_cl (b s) = 3 then (3, s, s + 1, b s)
  else (if (tk_cl (b s) = 2 ∧ 4 < tk_e b n (tk_cl (b s)) s - s) ∨ (w = true ∧ s = p) then 4 else tk_cl (b s), s, tk_e b n (tk_cl (b s)) s, if tk_cl (b s) = 2 then tk_nv b s (tk_e b n (tk_cl (b s)) s - s) else b s)
def tk_tok (b : Nat → Nat) (n : Nat) (w : Bool) (p : Nat) : tk_T := tk_at b n w p (tk_s b n p)
theorem tk_cl_le (x : Nat) : tk_cl x = 1 ∨ tk_cl x = 2 ∨ tk_cl x = 3 := by
  unfold tk_cl
  split
  · exact Or.inl rfl
  · split
    · exact Or.inr (Or.inl rfl)
    · exact Or.inr (Or.inr rfl)
def tk_V (t : tk_T) (v : Int32) : Prop := t.1 = 1 ∨ t.1 = 2 ∨ t.1 = 3 → v = nI t.2.2.2
/-- the token at hand, in the system's reader -/
def tk_K (t : tk_T) (g : sv_Mg) : Prop := g 4 2 = nI t.1 ∧ g 4 3 = nI t.2.1 ∧ g 4 4 = nI t.2.2.1 ∧ tk_V t (g 4 5)
/-- the token at hand, in the reference -/
def tk_R (t : tk_T) (g : sv_Mg) : Prop := g 58 11 = nI t.1 ∧ g 58 10 = nI t.2.1 ∧ g 58 9 = nI t.2.2.1 ∧ tk_V t (g 58 12) ∧ (t.1 = 1 ∨ t.1 = 2 → g 58 13 = nI t.2.2.1) ∧ (t.1 = 3 → g 58 13 = -1 ∨ ∃ j, j < t.2.2.1 ∧ g 58 13 = nI j)
section TK
variable {F : sv_Fr} {g : sv_Mg} {b : Nat → Nat} {n : Nat}
def tk_kb (b : Nat → Nat) (n : Nat) (g : sv_Mg) : Prop := g 4 1 = nI n ∧ ∀ k, k < n → g 5 k = nI (b k)
def tk_rb (b : Nat → Nat) (n : Nat) (g : sv_Mg) : Prop := g 58 8 = nI n ∧ ∀ k, k < n → g 65 k = nI (b k)
theorem k_sort {x : Nat} {Q : Int32 → sv_Mg → Prop} (hx : x < 256) (q : Q (nI (tk_cl x)) g) : wp_X3_sortOf F (nI x) g Q := by
  have l1 : nI x < 97 ↔ x < 97 := pl_lt (b := 97) (by omega) (by omega)
  have l2 : 122 < nI x ↔ 122 < x := pl_lt (a := 122) (by omega) (by omega)
  have l3 : nI x < 48 ↔ x < 48 := pl_lt (b := 48) (by omega) (by omega)
  have l4 : 57 < nI x ↔ 57 < x := pl_lt (a := 57) (by omega) (by omega)
  have h14 : ¬ (97 ≤ x ∧ x ≤ 122) → wp_X3_sortOf_14 F Q (nI x) g := by
    intro c
    rw [tk_cl, if_neg c] at q
    unfold wp_X3_sortOf_14
    rw [l3, l4]
    refine ⟨fun d => ?_, fun d => ⟨fun d2 => ?_, fun d2 => ?_⟩⟩
    · rw [if_neg (by omega)] at q; exact q
    · rw [if_neg (by omega)] at q; exact q
    · rw [if_pos (by omega)] at q; exact q
  refine ⟨fun c => h14 (by rw [l1] at c; omega), fun c => ⟨fun c2 => h14 (by rw [l2] at c2; omega), fun c2 => ?_⟩⟩
  rw [l1] at c
  rw [l2] at c2
  rw [tk_cl, if_pos (by omega)] at q
  exact q
theorem k_eow {s c : Nat} {Q : Int32 → sv_Mg → Prop} (hn : n ≤ 96) (hb : ∀ k, k < n → b k < 256) (hB : tk_kb b n g) (hs : s ≤ n) (h3 : g 4 3 = nI s) (h2 : g 4 2 = nI c) (hc : c < 10) (q : Q (nI (tk_e b n c s)) g) : wp_X3_endOfWord F g Q := by
  obtain ⟨⟨a1, a2⟩, a3, a4⟩ := tk_rn_spec (ok := fun k => decide (tk_cl (b k) = c)) (n := n) (m := n) (p := s) hs (by omega)
  unfold tk_e at q
  generalize tk_rn (fun k => decide (tk_cl (b k) = c)) n n s = e at a1 a2 a3 a4 q
  have cl10 : ∀ x, tk_cl x < 10 := fun x => by rcases tk_cl_le x with h | h | h <;> omega
  have lp : ∀ d p, p + d = e → s ≤ p → wp_X3_endOfWord_5 F Q (d + 1) (nI p) g := by
    intro d
    induction d with
    | zero =>
      intro p hp hsp
      have : p = e := by omega
      subst this
      unfold wp_X3_endOfWord_5
      rw [hB.1]
      refine ⟨fun _ => q, fun c1 => ?_⟩
      have hlt : p < n := Nat.lt_of_not_le (fun z => c1 ((pl_le (by omega) (by omega)).mpr z))
      refine ⟨pl_in (by omega) (by omega), ?_⟩
      rw [pl_clamp (by omega), hB.2 p hlt]
      refine k_sort (hb p hlt) (br_n ?_ q)
      rw [h2]
      intro z
      have := (pl_eq (by have := cl10 (b p); omega) (by omega)).mp z
      exact absurd this (of_decide_eq_false (a4 hlt))
    | succ d ih =>
      intro p hp hsp
      unfold wp_X3_endOfWord_5
      rw [hB.1]
      refine br_n (fun z => absurd ((pl_le (by omega) (by omega)).mp z) (by omega)) ⟨pl_in (by omega) (by omega), ?_⟩
      rw [pl_clamp (by omega), hB.2 p (by omega)]
      refine k_sort (hb p (by omega)) (br_y ?_ ?_)
      · rw [h2, of_decide_eq_true (a3 p hsp (by omega))]
      · intro v ev
        rw [nI_1] at ev
        subst ev
        exact ih (p + 1) (by omega) (by omega)
  intro v ev
  rw [h3] at ev
  subst ev
  exact ⟨e - s + 1, lp (e - s) s (by omega) (Nat.le_refl _)⟩
theorem k_rv {s e : Nat} {Q : sv_Mg → Prop} (hn : n ≤ 96) (hB : tk_kb b n g) (hse : s ≤ e) (he : e ≤ n) (h3 : g 4 3 = nI s) (h4 : g 4 4 = nI e) (hd : ∀ k, s ≤ k → k < e → 48 ≤ b k) (q1 : e - s ≤ 4 → ∀ g', sv_sm (fun k => k = 4) g g' → (∀ j, j ≠ 5 → g' 4 j = g 4 j) → g' 4 5 = nI (tk_nv b s (e - s)) → Q g') (q2 : ¬ e - s ≤ 4 → Q (sv_st g 4 2 4)) : wp_X3_readValue F g Q := by
  have lp : ∀ d k (g' : sv_Mg), k + d = e - s → sv_sm (fun k => k = 4) g g' → (∀ j, j ≠ 5 → g' 4 j = g 4 j) → g' 4 5 = nI (tk_nv b s k) → e - s ≤ 4 → wp_X3_readValue_29 F Q (d + 1) (nI (s + k)) g' := by
    intro d
    induction d with
    | zero =>
      intro k g' hk S hj h5 h4'
      have : k = e - s := by omega
      subst this
      refine br_y ?_ (q1 h4' g' S hj h5)
      rw [hj 4 (by omega), h4, show s + (e - s) = e by omega]
      exact (pl_le (by omega) (by omega)).mpr (Nat.le_refl _)
    | succ d ih =>
      intro k g' hk S hj h5 h4'
      unfold wp_X3_readValue_29
      rw [hj 4 (by omega), h4]
      refine br_n (fun z => absurd ((pl_le (by omega) (by omega)).mp z) (by omega)) ⟨pl_in (by omega) (by omega), ?_⟩
      have hdk := hd (s + k) (by omega) (by omega)
      have ev : (((g' 4 5) * 10) + (g' 5 (nI (s + k)).toNatClampNeg)) - 48 = nI (tk_nv b s (k + 1)) := by
        rw [pl_clamp (by omega), S 5 (by omega), hB.2 (s + k) (by omega), h5, pl_lit 10, pl_lit 48, pk_mul, nI_add, pk_sub (by omega), tk_nv]
        congr 1
        omega
      rw [ev]
      intro g2 e2 v ev2
      rw [nI_1, Nat.add_assoc] at ev2
      subst ev2
      refine ih (k + 1) g2 (by omega) ?_ (fun j hj2 => ?_) ?_ h4'
      · rw [e2]; exact S.st rfl
      · rw [e2, st_nk hj2]; exact hj j hj2
      · rw [e2, st_at]
  unfold wp_X3_readValue
  rw [h4, h3, pk_sub hse, pl_lit 4]
  refine ⟨fun c => ?_, fun c => ?_⟩
  · have c4 : e - s ≤ 4 := (pl_le (by omega) (by omega)).mp c
    intro g1 e1 v ev
    have f3 : g1 4 3 = nI s := by rw [e1, st_nk (by omega)]; exact h3
    rw [f3] at ev
    subst ev
    refine ⟨e - s + 1, lp (e - s) 0 g1 (by omega) ?_ (fun j hj => ?_) ?_ c4⟩
    · rw [e1]; exact sv_sm.rf.st rfl
    · rw [e1, st_nk hj]
    · rw [e1, st_at]; rfl
  · intro g1 e1
    rw [e1]
    exact q2 (fun z => c ((pl_le (by omega) (by omega)).mpr z))
theorem k_159 {w : Bool} {c s p : Nat} {Q : sv_Mg → Prop} (h2 : g 4 2 = nI c) (hc : c < 10) (hc3 : c ≠ 3) (h3 : g 4 3 = nI s) (hs : s < 1000) (hp : p < 1000) (q : ∀ g', sv_sm (fun k => k = 4) g g' → (∀ j, j ≠ 2 → g' 4 j = g 4 j) → g' 4 2 = nI (if w = true ∧ s = p then 4 else c) → Q g') : wp_X3_next_159 F Q (sp_b w) (nI p) g := by
  unfold wp_X3_next_159
  refine br_n (by rw [h2]; exact fun z => hc3 ((pl_eq (b := 3) (by omega) (by omega)).mp z)) ?_
  cases w
  · refine br_y rfl (q g sv_sm.rf (fun _ _ => rfl) ?_)
    rw [if_neg (fun z => absurd z.1 (by decide))]; exact h2
  · refine br_n ne10 ⟨fun c1 => ?_, fun c1 => ?_⟩
    · rw [h3] at c1
      have c2 := (pl_eq (by omega) (by omega)).mp c1
      intro g1 e1
      refine q g1 (by rw [e1]; exact sv_sm.rf.st rfl) (fun j hj => by rw [e1, st_nk hj]) ?_
      rw [e1, st_at, if_pos ⟨rfl, c2⟩]; rfl
    · rw [h3] at c1
      refine q g sv_sm.rf (fun _ _ => rfl) ?_
      rw [if_neg (fun z => c1 (by rw [z.2]))]; exact h2
theorem tk_cl_dig {x : Nat} (h : tk_cl x = 2) : 48 ≤ x ∧ x ≤ 57 := by
  unfold tk_cl at h
  split at h
  · omega
  · split at h <;> omega
theorem k_next21 {w : Bool} {p : Nat} {Q : sv_Mg → Prop} (hn : n ≤ 96) (hb : ∀ k, k < n → b k < 256) (hB : tk_kb b n g) (hp : p ≤ n) (h4 : g 4 4 = nI p) (q : ∀ g', sv_sm (fun k => k = 4) g g' → (∀ j, j < 2 ∨ 5 < j → g' 4 j = g 4 j) → tk_K (tk_tok b n w p) g' → Q g') : wp_X3_next_21 F Q (sp_b w) g := by
  obtain ⟨⟨a1, a2⟩, a3, a4⟩ := tk_rn_spec (ok := fun k => decide (b k = 32)) (n := n) (m := n) (p := p) hp (by omega)
  unfold tk_tok tk_s at q
  generalize tk_rn (fun k => decide (b k = 32)) n n p = s at a1 a2 a3 a4 q
  -- behind the blanks
  have st : ∀ g1 : sv_Mg, sv_sm (fun k => k = 4) g g1 → (∀ j, j ≠ 3 → g1 4 j = g 4 j) → g1 4 3 = nI s → wp_X3_next_73 F Q (sp_b w) (nI p) g1 := by
    intro g1 S1 j1 f3 g2 e2
    rw [f3] at e2
    have S2 : sv_sm (fun k => k = 4) g g2 := by rw [e2]; exact S1.st rfl
    have j2 : ∀ j, j ≠ 3 → j ≠ 4 → g2 4 j = g 4 j := fun j x y => by rw [e2, st_nk y]; exact j1 j x
    have f23 : g2 4 3 = nI s := by rw [e2, st_nk (by omega)]; exact f3
    have f24 : g2 4 4 = nI s := by rw [e2, st_at]
    have B2 : tk_kb b n g2 := ⟨by rw [j2 1 (by omega) (by omega)]; exact hB.1, fun k hk => by rw [S2 5 (by omega)]; exact hB.2 k hk⟩
    rw [f23, B2.1]
    refine ⟨fun c => ?_, fun c => ?_⟩
    · have hsn : s < n := (pl_lt (by omega) (by omega)).mp c
      have hbs := hb s hsn
      refine ⟨pl_in (by omega) (by omega), ?_⟩
      rw [pl_clamp (by omega), B2.2 s hsn]
      intro g3 e3
      have S3 : sv_sm (fun k => k = 4) g g3 := by rw [e3]; exact S2.st rfl
      have f35 : g3 4 5 = nI (b s) := by rw [e3, st_at]
      rw [f35]
      refine k_sort hbs ?_
      intro g4 e4
      have S4 : sv_sm (fun k => k = 4) g g4 := by rw [e4]; exact S3.st rfl
      have f42 : g4 4 2 = nI (tk_cl (b s)) := by rw [e4, st_at]
      have f43 : g4 4 3 = nI s := by rw [e4, st_nk (by omega), e3, st_nk (by omega)]; exact f23
      have f45 : g4 4 5 = nI (b s) := by rw [e4, st_nk (by omega)]; exact f35
      have j4 : ∀ j, j < 2 ∨ 5 < j → g4 4 j = g 4 j := fun j x => by rw [e4, st_nk (by omega), e3, st_nk (by omega)]; exact j2 j (by omega) (by omega)
      have B4 : tk_kb b n g4 := ⟨by rw [j4 1 (by omega)]; exact hB.1, fun k hk => by rw [S4 5 (by omega)]; exact hB.2 k hk⟩
      have hcl := tk_cl_le (b s)
      rw [f42]
      refine ⟨fun c3 => ?_, fun c3 => ?_⟩
      · have c3 : tk_cl (b s) = 3 := (pl_eq (b := 3) (by omega) (by omega)).mp c3
        rw [f43, nI_1]
        intro g5 e5
        have f52 : g5 4 2 = 3 := by rw [e5, st_nk (by omega), f42, c3]; rfl
        refine br_n (by rw [f52]; decide) (br_y f52 ?_)
        refine q g5 (by rw [e5]; exact S4.st rfl) (fun j x => by rw [e5, st_nk (by omega)]; exact j4 j x) ?_
        unfold tk_at
        rw [if_neg (by omega), if_pos c3]
        refine ⟨f52, ?_, ?_, fun _ => ?_⟩
        · rw [e5, st_nk (by omega)]; exact f43
        · rw [e5, st_at]
        · rw [e5, st_nk (by omega)]; exact f45
      · have c3 : tk_cl (b s) ≠ 3 := fun z => c3 (by rw [z]; rfl)
        refine k_eow hn hb B4 (by omega) f43 f42 (by omega) ?_
        obtain ⟨⟨w1, w2⟩, w3, w4⟩ := tk_rn_spec (ok := fun k => decide (tk_cl (b k) = tk_cl (b s))) (n := n) (m := n) (p := s) (by omega) (by omega)
        have q := q
        unfold tk_at tk_e at q
        unfold tk_e
        generalize tk_rn (fun k => decide (tk_cl (b k) = tk_cl (b s))) n n s = e at w1 w2 w3 w4 q
        rw [if_neg (by omega), if_neg c3] at q
        intro g5 e5
        have S5 : sv_sm (fun k => k = 4) g g5 := by rw [e5]; exact S4.st rfl
        have f52 : g5 4 2 = nI (tk_cl (b s)) := by rw [e5, st_nk (by omega)]; exact f42
        have f53 : g5 4 3 = nI s := by rw [e5, st_nk (by omega)]; exact f43
        have f54 : g5 4 4 = nI e := by rw [e5, st_at]
        have f55 : g5 4 5 = nI (b s) := by rw [e5, st_nk (by omega)]; exact f45
        have j5 : ∀ j, j < 2 ∨ 5 < j → g5 4 j = g 4 j := fun j x => by rw [e5, st_nk (by omega)]; exact j4 j x
        have B5 : tk_kb b n g5 := ⟨by rw [j5 1 (by omega)]; exact hB.1, fun k hk => by rw [S5 5 (by omega)]; exact hB.2 k hk⟩
        rw [f52]
        refine ⟨fun c2 => ?_, fun c2 => ?_⟩
        · have c2 : tk_cl (b s) = 2 := (pl_eq (b := 2) (by omega) (by omega)).mp c2
          refine k_rv hn B5 w1 w2 f53 f54 (fun k k1 k2 => (tk_cl_dig ((of_decide_eq_true (w3 k k1 k2)).trans c2)).1) (fun c4 g6 S6 j6 v6 => ?_) (fun c4 => ?_)
          · refine k_159 (c := 2) (s := s) (by rw [j6 2 (by omega), f52, c2]) (by omega) (by omega) (by rw [j6 3 (by omega)]; exact f53) (by omega) (by omega) (fun g7 S7 j7 f7 => ?_)
            refine q g7 ((S5.tr S6).tr S7) (fun j x => by rw [j7 j (by omega), j6 j (by omega)]; exact j5 j x) ⟨?_, ?_, ?_, fun _ => ?_⟩
            · rw [f7, c2]
              by_cases cw : w = true ∧ s = p
              · rw [if_pos cw, if_pos (Or.inr cw)]
              · rw [if_neg cw, if_neg (fun z => z.elim (fun z => by omega) cw)]
            · rw [j7 3 (by omega), j6 3 (by omega)]; exact f53
            · rw [j7 4 (by omega), j6 4 (by omega)]; exact f54
            · rw [j7 5 (by omega), v6, if_pos c2]
          · refine k_159 (c := 4) (s := s) st_at (by omega) (by omega) (by rw [st_nk (by omega)]; exact f53) (by omega) (by omega) (fun g7 S7 j7 f7 => ?_)
            have o4 : (if (tk_cl (b s) = 2 ∧ 4 < e - s) ∨ (w = true ∧ s = p) then 4 else tk_cl (b s)) = 4 := if_pos (Or.inl ⟨c2, by omega⟩)
            refine q g7 ((S5.st rfl).tr S7) (fun j x => by rw [j7 j (by omega), st_nk (by omega)]; exact j5 j x) ⟨?_, ?_, ?_, fun z => ?_⟩
            · rw [f7, o4]
              split <;> rfl
            · rw [j7 3 (by omega), st_nk (by omega)]; exact f53
            · rw [j7 4 (by omega), st_nk (by omega)]; exact f54
            · exfalso
              rw [o4] at z
              omega
        · have c2 : tk_cl (b s) ≠ 2 := fun z => c2 (by rw [z]; rfl)
          refine k_159 (c := tk_cl (b s)) (s := s) f52 (by omega) c3 f53 (by omega) (by omega) (fun g7 S7 j7 f7 => ?_)
          refine q g7 (S5.tr S7) (fun j x => by rw [j7 j (by omega)]; exact j5 j x) ⟨?_, ?_, ?_, fun _ => ?_⟩
          · rw [f7]
            by_cases cw : w = true ∧ s = p
            · rw [if_pos cw, if_pos (Or.inr cw)]
            · rw [if_neg cw, if_neg (fun z => z.elim (fun z => absurd z.1 c2) cw)]
          · rw [j7 3 (by omega)]; exact f53
          · rw [j7 4 (by omega)]; exact f54
          · rw [j7 5 (by omega), f55, if_neg c2]
    · have hsn : n ≤ s := Nat.le_of_not_lt (fun z => c ((pl_lt (by omega) (by omega)).mpr z))
      intro g3 e3
      refine q g3 (by rw [e3]; exact S2.st rfl) (fun j x => by rw [e3, st_nk (by omega)]; exact j2 j (by omega) (by omega)) ?_
      unfold tk_at
      rw [if_pos hsn]
      refine ⟨by rw [e3, st_at]; rfl, by rw [e3, st_nk (by omega)]; exact f23, by rw [e3, st_nk (by omega)]; exact f24, fun z => ?_⟩
      exfalso
      dsimp only at z
      omega
  have lp : ∀ d p' (g1 : sv_Mg), p' + d = s → p ≤ p' → sv_sm (fun k => k = 4) g g1 → (∀ j, j ≠ 3 → g1 4 j = g 4 j) → g1 4 3 = nI p' → wp_X3_next_35 F Q (d + 1) (sp_b w) (nI p) g1 := by
    intro d
    induction d with
    | zero =>
      intro p' g1 hp' hpp S1 j1 f3
      have : p' = s := by omega
      subst this
      have z := st g1 S1 j1 f3
      unfold wp_X3_next_35
      rw [f3, j1 1 (by omega), hB.1]
      refine ⟨fun _ => z, fun c => ?_⟩
      have hlt : p' < n := Nat.lt_of_not_le (fun z => c ((pl_le (by omega) (by omega)).mpr z))
      refine ⟨pl_in (by omega) (by omega), br_n ?_ z⟩
      rw [pl_clamp (by omega), S1 5 (by omega), hB.2 p' hlt]
      intro z
      exact absurd ((pl_eq (b := 32) (by have := hb p' hlt; omega) (by omega)).mp z) (of_decide_eq_false (a4 hlt))
    | succ d ih =>
      intro p' g1 hp' hpp S1 j1 f3
      unfold wp_X3_next_35
      rw [f3, j1 1 (by omega), hB.1]
      refine br_n (fun z => absurd ((pl_le (by omega) (by omega)).mp z) (by omega)) ⟨pl_in (by omega) (by omega), br_y ?_ ?_⟩
      · rw [pl_clamp (by omega), S1 5 (by omega), hB.2 p' (by omega), of_decide_eq_true (a3 p' hpp (by omega))]; rfl
      · intro g2 e2
        rw [nI_1] at e2
        refine ih (p' + 1) g2 (by omega) (by omega) ?_ (fun j hj => ?_) ?_
        · rw [e2]; exact S1.st rfl
        · rw [e2, st_nk hj]; exact j1 j hj
        · rw [e2, st_at]
  intro v ev g1 e1
  rw [h4] at ev e1
  subst ev
  refine ⟨s - p + 1, lp (s - p) p g1 (by omega) (Nat.le_refl _) ?_ (fun j hj => ?_) ?_⟩
  · rw [e1]; exact sv_sm.rf.st rfl
  · rw [e1, st_nk hj]
  · rw [e1, st_at]
/-- a word is at hand -/
def tk_w (c : Nat) : Bool := decide (c = 1 ∨ c = 2)
theorem k_next {c p : Nat} {Q : sv_Mg → Prop} (hn : n ≤ 96) (hb : ∀ k, k < n → b k < 256) (hB : tk_kb b n g) (hc : c < 10) (h2 : g 4 2 = nI c) (hp : p ≤ n) (h4 : g 4 4 = nI p) (q : ∀ g', sv_sm (fun k => k = 4) g g' → (∀ j, j < 2 ∨ 5 < j → g' 4 j = g 4 j) → tk_K (tk_tok b n (tk_w c) p) g' → Q g') : wp_X3_next F g Q := by
  have z := k_next21 (F := F) (w := tk_w c) hn hb hB hp h4 q
  have e1 : g 4 2 = 1 ↔ c = 1 := by rw [h2]; exact pl_eq (b := 1) (by omega) (by omega)
  have e2 : g 4 2 = 2 ↔ c = 2 := by rw [h2]; exact pl_eq (b := 2) (by omega) (by omega)
  unfold wp_X3_next wp_X3_next_16
  rw [e1, e2]
  unfold tk_w at z
  refine ⟨fun y => ?_, fun y => ⟨fun y2 => ?_, fun y2 => ?_⟩⟩
  · rw [decide_eq_true (Or.inl y)] at z; exact z
  · rw [decide_eq_true (Or.inr y2)] at z; exact z
  · rw [decide_eq_false (fun x => x.elim y y2)] at z; exact z
end TK
