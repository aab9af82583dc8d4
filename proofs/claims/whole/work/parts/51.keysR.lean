/-! KEYS, the reference's -/
def px_ka (w : Nat) : Nat := match w with
  | 0 => 0
  | 1 => 4
  | 2 => 7
  | _ => 11
theorem px_kal : ∀ w, w < 3 → px_ka w + (px_kw w).length = px_ka (w + 1) ∧ px_ka (w + 1) ≤ 11 := by decide
section KR
variable {F : sv_Fr} {g : sv_Mg} {b : Nat → Nat} {n : Nat}
def px_cn (g : sv_Mg) : Prop := (∀ w, w < 4 → g 67 w = nI (px_ka w)) ∧ ∀ w, w < 3 → ∀ j, j < (px_kw w).length → g 66 (px_ka w + j) = nI ((px_kw w).getD j 0)
theorem iv_con.cn (h : iv_con g) : px_cn g := by
  obtain ⟨⟨a0, a1, a2, a3⟩, b0, b1, b2, b3, b4, b5, b6, b7, b8, b9, b10⟩ := h
  refine ⟨fun w hw => ?_, fun w hw j hj => ?_⟩
  · have : w = 0 ∨ w = 1 ∨ w = 2 ∨ w = 3 := by omega
    rcases this with rfl | rfl | rfl | rfl
    · exact a0
    · exact a1
    · exact a2
    · exact a3
  · have : w = 0 ∨ w = 1 ∨ w = 2 := by omega
    rcases this with rfl | rfl | rfl
    · have hj : j < 4 := hj
      have : j = 0 ∨ j = 1 ∨ j = 2 ∨ j = 3 := by omega
      rcases this with rfl | rfl | rfl | rfl
      · exact b0
      · exact b1
      · exact b2
      · exact b3
    · have hj : j < 3 := hj
      have : j = 0 ∨ j = 1 ∨ j = 2 := by omega
      rcases this with rfl | rfl | rfl
      · exact b4
      · exact b5
      · exact b6
    · have hj : j < 4 := hj
      have : j = 0 ∨ j = 1 ∨ j = 2 ∨ j = 3 := by omega
      rcases this with rfl | rfl | rfl | rfl
      · exact b7
      · exact b8
      · exact b9
      · exact b10
theorem r_isk {t : tk_T} {w : Nat} {Q : Int32 → sv_Mg → Prop} {K : Int32 → sv_Mg → Prop} {v2 : Int32} (hn : n ≤ 96) (hb : ∀ k, k < n → b k < 256) (hB : tk_rb b n g) (hc : px_cn g) (hT : tk_R t g) (ht : tk_ok n t) (h1 : t.1 = 1) (hw : w < 3) (ev2 : v2 = nI (px_kw w).length) (no : px_is b t w = false → K (nI (w + 1)) g) (yes : px_is b t w = true → ∀ g3, g3 = sv_st g 58 14 (nI w) → wp_X7_go F g3 (fun g4 => Q 1 g4)) : ((v2 = ((g 58 9) - (g 58 10)) → wp_X7_takesKey_51 F Q K (nI w) v2 1 g) ∧ (¬ v2 = ((g 58 9) - (g 58 10)) → wp_X7_takesKey_51 F Q K (nI w) v2 0 g)) := by
  obtain ⟨e1, e2, e3⟩ := px_kl w hw
  obtain ⟨t1, t2, t3, -⟩ := ht
  obtain ⟨-, h10, h9, -⟩ := hT
  subst ev2
  rw [h9, h10, pk_sub t2]
  have n106 : px_is b t w = false → wp_X7_takesKey_106 F Q K (nI w) 0 g := by
    intro c
    refine br_y rfl ?_
    intro v ev
    rw [nI_1] at ev
    subst ev
    exact no c
  have n55 : px_is b t w = false → ∀ m i, wp_X7_takesKey_55 F Q K (m + 1) (nI w) (nI (px_kw w).length) 0 (nI i) g := fun c m i => ⟨fun _ => n106 c, fun _ => br_y rfl (n106 c)⟩
  refine ⟨fun c => ?_, fun c => ⟨1, n55 (decide_eq_false (fun z => c (by rw [z.2.1]))) 0 0⟩⟩
  have c2 := (pl_eq (by omega) (by omega)).mp c
  obtain ⟨l1, l2⟩ := px_kal w hw
  have lp : ∀ m i, i + m = (px_kw w).length → (∀ j, j < i → b (t.2.1 + j) = (px_kw w).getD j 0) → wp_X7_takesKey_55 F Q K (m + 2) (nI w) (nI (px_kw w).length) 1 (nI i) g := by
    intro m
    induction m with
    | zero =>
      intro i hi hm
      refine br_y ((pl_le (by omega) (by omega)).mpr (by omega)) (br_n ne10 ?_)
      exact yes (decide_eq_true ⟨h1, c2.symm, fun j hj => hm j (by omega)⟩)
    | succ m ih =>
      intro i hi hm
      refine br_n (fun z => absurd ((pl_le (by omega) (by omega)).mp z) (by omega)) (br_n ne10 ?_)
      rw [h10, nI_add]
      refine ⟨pl_in (by omega) (by omega), pl_in (by omega) (by omega), ?_⟩
      rw [pl_clamp (n := w) (by omega), hc.1 w (by omega), nI_add]
      refine ⟨pl_in (by omega) (by omega), ?_⟩
      rw [pl_clamp (by omega), pl_clamp (by omega), hB.2 _ (by omega), hc.2 w hw i (by omega)]
      refine ⟨fun c => ?_, fun c => ?_⟩
      · have c3 := (pl_eq (by have := hb (t.2.1 + i) (by omega); omega) (by have := (px_kc w hw i (by omega)).2; omega)).mp c
        intro v ev
        rw [nI_1] at ev
        subst ev
        refine ih (i + 1) (by omega) (fun j hj => ?_)
        by_cases cj : j = i
        · subst cj; exact c3
        · exact hm j (by omega)
      · intro v ev
        rw [nI_1] at ev
        subst ev
        exact n55 (decide_eq_false (fun z => c (by rw [z.2.2 i (by omega)]))) (m + 1) (i + 1)
  exact ⟨_, lp (px_kw w).length 0 (by omega) (fun j hj => absurd hj (by omega))⟩
theorem r_key {t : tk_T} {Q : Int32 → sv_Mg → Prop} (hn : n ≤ 96) (hb : ∀ k, k < n → b k < 256) (hB : tk_rb b n g) (hc : px_cn g) (hT : tk_R t g) (ht : tk_ok n t) (q0 : px_key b t = none → Q 0 g) (q1 : ∀ w, w < 3 → px_key b t = some w → ∀ g', sv_sm (fun k => k = 58) g g' → (∀ j, j < 9 ∨ 14 < j → g' 58 j = g 58 j) → g' 58 14 = nI w → tk_R (tk_tok b n (tk_w t.1) t.2.2.1) g' → Q 1 g') : wp_X7_takesKey F g Q := by
  have hT2 := hT
  obtain ⟨h11, h10, h9, -, h13, -⟩ := hT
  have nk : t.1 ≠ 1 → px_key b t = none := by
    intro c
    have z : ∀ w, px_is b t w = false := fun w => decide_eq_false (fun z => c z.1)
    unfold px_key
    rw [z 0, z 1, z 2]
    rfl
  unfold wp_X7_takesKey
  rw [h11]
  refine ⟨fun c => ?_, fun c => q0 (nk (fun z => c (by rw [z]; rfl)))⟩
  have c1 : t.1 = 1 := (pl_eq (b := 1) (by have := ht.1; omega) (by omega)).mp c
  have yes : ∀ w, w < 3 → px_key b t = some w → ∀ g1, g1 = sv_st g 58 14 (nI w) → wp_X7_go F g1 (fun g4 => Q 1 g4) := by
    intro w hw hk g1 e1
    refine r_tok (b := b) (n := n) (w := tk_w t.1) (p := t.2.2.1) hn hb ⟨?_, fun k hk => ?_⟩ ht.2.2.1 ?_ (fun _ => ?_) (fun z => ?_) (fun g2 O2 R2 => q1 w hw hk g2 ?_ (fun j hj => ?_) ?_ R2)
    · rw [e1, st_nk (by omega)]; exact hB.1
    · rw [e1, st_ne (by omega)]; exact hB.2 k hk
    · rw [e1, st_nk (by omega)]; exact h9
    · rw [e1, st_nk (by omega)]; exact h13 (Or.inl c1)
    · rw [c1] at z; exact absurd z (by decide)
    · exact (show sv_sm (fun k => k = 58) g g1 by rw [e1]; exact sv_sm.rf.st rfl).tr O2.1
    · rw [O2.2 j (by omega), e1, st_nk (by omega)]
    · rw [O2.2 14 (by omega), e1, st_at]
  have ln : ∀ w, w < 3 → (g 67 (w + 1) - g 67 w : Int32) = nI (px_kw w).length := by
    intro w hw
    obtain ⟨l1, l2⟩ := px_kal w hw
    rw [hc.1 (w + 1) (by omega), hc.1 w (by omega), pk_sub (by omega)]
    congr 1
    omega
  unfold px_key at yes q0
  refine ⟨4, br_n (by decide) ⟨pl_in (i := 1) (by omega) (by omega), pl_in (i := 0) (by omega) (by omega), ?_⟩⟩
  intro v ev
  refine r_isk (w := 0) hn hb hB hc hT2 ht c1 (by omega) (ev.trans (ln 0 (by omega))) (fun c0 => ?_) (fun c0 => yes 0 (by omega) (if_pos c0))
  rw [if_neg (by rw [c0]; decide)] at yes q0
  refine br_n (by decide) ⟨pl_in (i := 2) (by omega) (by omega), pl_in (i := 1) (by omega) (by omega), ?_⟩
  intro v ev
  refine r_isk (w := 1) hn hb hB hc hT2 ht c1 (by omega) (ev.trans (ln 1 (by omega))) (fun c1 => ?_) (fun c1 => yes 1 (by omega) (if_pos c1))
  rw [if_neg (by rw [c1]; decide)] at yes q0
  refine br_n (by decide) ⟨pl_in (i := 3) (by omega) (by omega), pl_in (i := 2) (by omega) (by omega), ?_⟩
  intro v ev
  refine r_isk (w := 2) hn hb hB hc hT2 ht (by assumption) (by omega) (ev.trans (ln 2 (by omega))) (fun c2 => ?_) (fun c2 => yes 2 (by omega) (if_pos c2))
  rw [if_neg (by rw [c2]; decide)] at q0
  exact br_y (by decide) (q0 rfl)
end KR
