/-! THE ROW OF TOKENS, KEYS, SYMBOLS -/
def tk_i (b : Nat → Nat) (n : Nat) : Nat → tk_T
  | 0 => tk_tok b n false 0
  | i + 1 => tk_tok b n (tk_w (tk_i b n i).1) (tk_i b n i).2.2.1
def tk_ok (n : Nat) (t : tk_T) : Prop := t.1 < 5 ∧ t.2.1 ≤ t.2.2.1 ∧ t.2.2.1 ≤ n ∧ (t.1 ≠ 0 → t.2.1 < t.2.2.1) ∧ (t.1 = 0 → t.2.2.1 = n) ∧ (t.1 = 1 ∨ t.1 = 3 → t.2.2.2 < 256) ∧ (t.1 = 2 → t.2.2.2 < 10000)
theorem tk_nv_lt {b : Nat → Nat} {p : Nat} : ∀ {k : Nat}, (∀ j, j < k → b (p + j) ≤ 57) → tk_nv b p k < 10 ^ k
  | 0, _ => Nat.zero_lt_one
  | k + 1, h => by
    have h1 := tk_nv_lt (b := b) (p := p) (k := k) (fun j hj => h j (by omega))
    have h2 := h k (by omega)
    rw [tk_nv, Nat.pow_succ]
    omega
section TI
variable {F : sv_Fr} {g : sv_Mg} {b : Nat → Nat} {n : Nat}
theorem tk_tok_ok {w : Bool} {p : Nat} (hb : ∀ k, k < n → b k < 256) (hp : p ≤ n) : tk_ok n (tk_tok b n w p) ∧ p ≤ (tk_tok b n w p).2.1 := by
  obtain ⟨⟨a1, a2⟩, a3, a4⟩ := tk_rn_spec (ok := fun k => decide (b k = 32)) (n := n) (m := n) (p := p) hp (by omega)
  unfold tk_tok tk_s
  generalize tk_rn (fun k => decide (b k = 32)) n n p = s at a1 a2 a3 a4
  unfold tk_at
  by_cases c0 : n ≤ s
  · rw [if_pos c0]
    refine ⟨⟨?_, ?_, ?_, fun z => ?_, fun z => ?_, fun z => ?_, fun z => ?_⟩, ?_⟩ <;> dsimp only at * <;> omega
  rw [if_neg c0]
  have hbs := hb s (by omega)
  by_cases c3 : tk_cl (b s) = 3
  · rw [if_pos c3]
    refine ⟨⟨?_, ?_, ?_, fun z => ?_, fun z => ?_, fun z => ?_, fun z => ?_⟩, ?_⟩ <;> dsimp only at * <;> omega
  rw [if_neg c3]
  obtain ⟨⟨w1, w2⟩, w3, w4⟩ := tk_rn_spec (ok := fun k => decide (tk_cl (b k) = tk_cl (b s))) (n := n) (m := n) (p := s) (by omega) (by omega)
  unfold tk_e
  generalize tk_rn (fun k => decide (tk_cl (b k) = tk_cl (b s))) n n s = e at w1 w2 w3 w4
  have hse : s < e := by
    rcases Nat.lt_or_ge s e with z | z
    · exact z
    · have : e = s := by omega
      rw [this] at w4
      exact absurd rfl (of_decide_eq_false (w4 (by omega)))
  have hcl := tk_cl_le (b s)
  generalize hS : (if (tk_cl (b s) = 2 ∧ 4 < e - s) ∨ (w = true ∧ s = p) then 4 else tk_cl (b s)) = S
  have hS5 : S = 4 ∨ (S = tk_cl (b s) ∧ ¬ (tk_cl (b s) = 2 ∧ 4 < e - s)) := by
    rw [← hS]
    split
    · exact Or.inl rfl
    · rename_i h; exact Or.inr ⟨rfl, fun z => h (Or.inl z)⟩
  refine ⟨⟨?_, ?_, ?_, fun z => ?_, fun z => ?_, fun z => ?_, fun z => ?_⟩, ?_⟩ <;> dsimp only at *
  · omega
  · omega
  · omega
  · omega
  · omega
  · rw [if_neg (by omega)]; exact hbs
  · have c2 : tk_cl (b s) = 2 := by omega
    rw [if_pos c2]
    have h4 : e - s ≤ 4 := by omega
    have h1 := tk_nv_lt (b := b) (p := s) (k := e - s) (fun j hj => (tk_cl_dig ((of_decide_eq_true (w3 (s + j) (by omega) (by omega))).trans c2)).2)
    have h2 : 10 ^ (e - s) ≤ 10 ^ 4 := Nat.pow_le_pow_right (by omega) h4
    omega
  · exact a1
theorem tk_i_ok (hb : ∀ k, k < n → b k < 256) : ∀ i, tk_ok n (tk_i b n i)
  | 0 => (tk_tok_ok hb (Nat.zero_le n)).1
  | i + 1 => (tk_tok_ok hb (tk_i_ok hb i).2.2.1).1
theorem tk_i_end (hb : ∀ k, k < n → b k < 256) {i : Nat} (h : (tk_i b n (i + 1)).1 ≠ 0) : (tk_i b n i).1 ≠ 0 := by
  intro z
  have e := (tk_i_ok hb i).2.2.2.2.1 z
  apply h
  obtain ⟨k1, k2⟩ := tk_tok_ok (w := tk_w (tk_i b n i).1) hb (tk_i_ok hb i).2.2.1
  rw [tk_i]
  rw [e] at k1 k2 ⊢
  apply Classical.byContradiction
  intro c
  have := k1.2.2.2.1 c
  have := k1.2.2.1
  omega
theorem tk_i_lt (hb : ∀ k, k < n → b k < 256) : ∀ i, (tk_i b n i).1 ≠ 0 → i + 1 ≤ (tk_i b n i).2.2.1
  | 0, h => by have := (tk_i_ok hb 0).2.2.2.1 h; omega
  | i + 1, h => by
    have h1 := tk_i_lt hb i (tk_i_end hb h)
    have h2 := (tk_i_ok hb (i + 1)).2.2.2.1 h
    have h3 : (tk_i b n i).2.2.1 ≤ (tk_i b n (i + 1)).2.1 := (tk_tok_ok hb (tk_i_ok hb i).2.2.1).2
    omega
/-! strings -/
theorem k_len {s : Nat} {Q : Int32 → sv_Mg → Prop} (hs : s < 14) (q : Q (nI (sv_len.getD s 0)) g) : wp_J0_length_8abf5 F s g Q := by
  have e : (nI (sv_len.getD s 0)) >>> ((0 : Int32) &&& 31) = nI (sv_len.getD s 0) := (by decide +kernel : ∀ s, s < 14 → (nI (sv_len.getD s 0)) >>> ((0 : Int32) &&& 31) = nI (sv_len.getD s 0)) s hs
  refine br_n ne10 ⟨rfl, ?_⟩
  show Q ((nI (sv_len.getD s 0)) >>> ((0 : Int32) &&& 31)) g
  rw [e]
  exact q
def sp_ixf (l : List Int32) (v : Int32) : Nat → Nat → Int32
  | 0, _ => -1
  | m + 1, i => if l.getD i 0 = v then nI i else sp_ixf l v m (i + 1)
theorem k_index {s x : Nat} {Q : Int32 → sv_Mg → Prop} (hs : s < 14) (hx : x < 256) (q : Q (sp_ixf (sv_byt.getD s []) ((nI x).toInt8.toInt32) (sv_len.getD s 0) 0) g) : wp_J0_indexOf_0f7a4 F s (((nI x).toUInt32 % 65536).toInt32) g Q := by
  rw [(sb_byte x hx).2.1]
  refine br_n ne10 (br_y rfl (br_n ne10 (k_len hs ?_)))
  have hl : 0 < sv_len.getD s 0 ∧ sv_len.getD s 0 < 5 := (by decide : ∀ s, s < 14 → 0 < sv_len.getD s 0 ∧ sv_len.getD s 0 < 5) s hs
  refine br_n (pl_nn (by omega)) (br_n (fun z => absurd ((pl_lt (a := 255) (by omega) (by omega)).mp z) (by omega)) (br_n ne10 ?_))
  intro v2 e2 v3 e3
  rw [if_neg (by decide)] at e2
  rw [if_neg (fun z => absurd ((pl_lt (by omega) (by omega)).mp z) (by omega))] at e3
  subst e2; subst e3
  refine br_y ((pl_lt (a := 0) (by omega) (by omega)).mpr hl.1) ?_
  intro v4 e4
  subst e4
  have lp : ∀ m i, i + m = sv_len.getD s 0 → Q (sp_ixf (sv_byt.getD s []) ((nI x).toInt8.toInt32) m i) g → wp_J1_indexOfChar_4cfef_7 F s (fun r_8 g_7 => Q r_8 g_7) (m + 1) (nI (sv_len.getD s 0)) ((nI x).toInt8.toInt32) (nI i) g := by
    intro m
    induction m with
    | zero =>
      intro i hi qi
      exact br_y ((pl_le (by omega) (by omega)).mpr (by omega)) qi
    | succ m ih =>
      intro i hi qi
      rw [sp_ixf] at qi
      refine br_n (fun z => absurd ((pl_le (by omega) (by omega)).mp z) (by omega)) ⟨pl_in (by omega) (by omega), ?_⟩
      rw [pl_clamp (by omega)]
      refine ⟨fun c => ?_, fun c => ?_⟩
      · rw [if_pos c] at qi; exact qi
      · rw [if_neg c] at qi
        intro v5 e5
        rw [nI_1] at e5
        subst e5
        exact ih (i + 1) (by omega) qi
  exact ⟨sv_len.getD s 0 + 1, lp _ 0 (by omega) q⟩
/-! keys -/
def px_kw (w : Nat) : List Nat := match w with
  | 0 => [115, 119, 97, 121]
  | 1 => [102, 101, 101]
  | _ => [102, 105, 110, 101]
def px_is (b : Nat → Nat) (t : tk_T) (w : Nat) : Bool := decide (t.1 = 1 ∧ t.2.2.1 - t.2.1 = (px_kw w).length ∧ ∀ j, j < (px_kw w).length → b (t.2.1 + j) = (px_kw w).getD j 0)
def px_key (b : Nat → Nat) (t : tk_T) : Option Nat := if px_is b t 0 = true then some 0 else if px_is b t 1 = true then some 1 else if px_is b t 2 = true then some 2 else none
theorem px_kl : ∀ w, w < 3 → sv_len.getD w 0 = (px_kw w).length ∧ (px_kw w).length < 5 ∧ 0 < (px_kw w).length := by decide
theorem px_kc : ∀ w, w < 3 → ∀ j, j < (px_kw w).length → ((sv_byt.getD w []).getD j 0 &&& 255) = nI ((px_kw w).getD j 0) ∧ (px_kw w).getD j 0 < 256 := by decide +kernel
theorem k_char {w j : Nat} {Q : Int32 → sv_Mg → Prop} (hw : w < 3) (hj : j < (px_kw w).length) (q : Q (nI ((px_kw w).getD j 0)) g) : wp_J0_charAt_5068e F w (nI j) g Q := by
  obtain ⟨e1, e2, -⟩ := px_kl w hw
  refine br_n ne10 (br_y rfl (br_n ne10 (fun o => ?_)))
  refine br_n (pl_nn (by omega)) (br_y ((pl_lt (by omega) (by omega)).mpr (by omega)) ?_)
  have k : (((((sv_byt.getD w []).getD (nI j).toNatClampNeg 0) &&& 255).toUInt32 % 65536).toInt32) = nI ((px_kw w).getD j 0) := by rw [pl_clamp (by omega), sc_c2, (px_kc w hw j hj).1]
  have nar : narrow .char (.int (nI ((px_kw w).getD j 0))) = .int (nI ((px_kw w).getD j 0)) := by rw [← (px_kc w hw j hj).1]; exact sc_nar _
  refine ⟨pl_in (by omega) (by omega), ?_⟩
  rw [k]
  exact ⟨nar, nar, q⟩
theorem k_isWord {t : tk_T} {w : Nat} {Q : Int32 → sv_Mg → Prop} (hn : n ≤ 96) (hb : ∀ k, k < n → b k < 256) (hB : tk_kb b n g) (hT : tk_K t g) (ht : tk_ok n t) (hw : w < 3) (q1 : px_is b t w = true → Q 1 g) (q0 : px_is b t w = false → Q 0 g) : wp_X3_isWord F w g Q := by
  obtain ⟨e1, e2, e3⟩ := px_kl w hw
  obtain ⟨t1, t2, t3, -⟩ := ht
  obtain ⟨h2, h3, h4, -⟩ := hT
  unfold wp_X3_isWord
  rw [h2]
  refine ⟨fun c => ?_, fun c => q0 (decide_eq_false (fun z => c (by rw [z.1]; rfl)))⟩
  have c1 : t.1 = 1 := (pl_eq (b := 1) (by omega) (by omega)).mp c
  refine k_len (by omega) ?_
  rw [h4, h3, pk_sub t2, e1]
  refine ⟨fun c => ?_, fun c => q0 (decide_eq_false (fun z => c (by rw [z.2.1])))⟩
  have c2 := (pl_eq (by omega) (by omega)).mp c
  have lp : ∀ m i, i + m = (px_kw w).length → (∀ j, j < i → b (t.2.1 + j) = (px_kw w).getD j 0) → wp_X3_isWord_28 F w Q (m + 1) (nI i) g := by
    intro m
    induction m with
    | zero =>
      intro i hi hm
      refine k_len (by omega) (br_y ?_ (q1 (decide_eq_true ⟨c1, c2, fun j hj => hm j (by omega)⟩)))
      rw [e1]
      exact (pl_le (by omega) (by omega)).mpr (by omega)
    | succ m ih =>
      intro i hi hm
      refine k_len (by omega) (br_n ?_ ?_)
      · rw [e1]; exact fun z => absurd ((pl_le (by omega) (by omega)).mp z) (by omega)
      rw [h3, nI_add]
      refine ⟨pl_in (by omega) (by omega), k_char hw (by omega) ?_⟩
      rw [pl_clamp (by omega), hB.2 _ (by omega)]
      refine ⟨fun c => ?_, fun c => q0 (decide_eq_false (fun z => c (by rw [z.2.2 i (by omega)])))⟩
      have c3 := (pl_eq (by have := hb (t.2.1 + i) (by omega); omega) (by have := (px_kc w hw i (by omega)).2; omega)).mp c
      intro v ev
      rw [nI_1] at ev
      subst ev
      refine ih (i + 1) (by omega) (fun j hj => ?_)
      by_cases cj : j = i
      · subst cj; exact c3
      · exact hm j (by omega)
  exact ⟨_, lp (px_kw w).length 0 (by omega) (fun j hj => absurd hj (by omega))⟩
theorem k_key {t : tk_T} {Q : Int32 → sv_Mg → Prop} (hn : n ≤ 96) (hb : ∀ k, k < n → b k < 256) (hB : tk_kb b n g) (hT : tk_K t g) (ht : tk_ok n t) (q0 : px_key b t = none → Q 0 g) (q1 : ∀ w, w < 3 → px_key b t = some w → ∀ g', sv_sm (fun k => k = 4) g g' → (∀ j, j < 2 ∨ 6 < j → g' 4 j = g 4 j) → g' 4 6 = nI w → tk_K (tk_tok b n (tk_w t.1) t.2.2.1) g' → Q 1 g') : wp_X3_readKey F g Q := by
  have yes : ∀ w, w < 3 → px_key b t = some w → ∀ g1, g1 = sv_st g 4 6 (nI w) → wp_X3_next F g1 (fun g_9 => Q 1 g_9) := by
    intro w hw hk g1 e1
    refine k_next (b := b) (n := n) (c := t.1) (p := t.2.2.1) hn hb ⟨?_, fun k hk => ?_⟩ (by have := ht.1; omega) ?_ ht.2.2.1 ?_ (fun g2 S2 j2 K2 => q1 w hw hk g2 ?_ (fun j hj => ?_) ?_ K2)
    · rw [e1, st_nk (by omega)]; exact hB.1
    · rw [e1, st_ne (by omega)]; exact hB.2 k hk
    · rw [e1, st_nk (by omega)]; exact hT.1
    · rw [e1, st_nk (by omega)]; exact hT.2.2.1
    · exact (show sv_sm (fun k => k = 4) g g1 by rw [e1]; exact sv_sm.rf.st rfl).tr S2
    · rw [j2 j (by omega), e1, st_nk (by omega)]
    · rw [j2 6 (by omega), e1, st_at]
  unfold px_key at yes q0
  refine ⟨4, br_n (by decide) (br_y rfl (k_isWord hn hb hB hT ht (by omega) (fun c0 => br_n ne10 ?_) (fun c0 => br_y rfl ?_)))⟩
  · exact yes 0 (by omega) (if_pos c0)
  intro v ev
  subst ev
  rw [if_neg (by rw [c0]; decide)] at yes q0
  refine br_n (by decide) (br_n (by decide) (br_y (by decide) (k_isWord hn hb hB hT ht (by omega) (fun c1 => br_n ne10 ?_) (fun c1 => br_y rfl ?_))))
  · exact yes 1 (by omega) (if_pos c1)
  intro v ev
  subst ev
  rw [if_neg (by rw [c1]; decide)] at yes q0
  refine br_n (by decide) (br_n (by decide) (br_n (by decide) (k_isWord hn hb hB hT ht (by omega) (fun c2 => br_n ne10 ?_) (fun c2 => br_y rfl ?_))))
  · exact yes 2 (by omega) (if_pos c2)
  intro v ev
  subst ev
  rw [if_neg (by rw [c2]; decide)] at q0
  exact br_y (by decide) (q0 rfl)
end TI
