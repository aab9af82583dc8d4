/-! THE SYSTEM'S PARSER IS px -/
section KQ
variable {F : sv_Fr} {g g0 : sv_Mg} {b : Nat → Nat} {n key : Nat}
theorem px_in6 {z : Nat} : (px_in 6 z = true ↔ z = 20010) ∧ (px_in 7 z = true ↔ z = 20011) ∧ (px_in 8 z = true ↔ z = 20012) := by
  unfold px_in
  refine ⟨decide_eq_true_iff.trans ⟨fun h => by omega, fun h => by omega⟩, decide_eq_true_iff.trans ⟨fun h => by omega, fun h => by omega⟩, decide_eq_true_iff.trans ⟨fun h => by omega, fun h => by omega⟩⟩
/-- a leaf's code -/
theorem px_cd_l {z : Nat} (h : z < 10003) : px_cd z = nI z := by
  unfold px_cd px_rc
  rw [if_pos (by omega)]
  exact sp_tr_pos h
def px_fu (m : Nat) (c : Bool) (u v w : Nat) : Prop := if c = true then u ≤ 5 ∧ v ≤ 8 ∧ w ≤ 8 ∧ (6 - u) + 1 + (8 - w) + 7 * (8 - v) ≤ m else u ≤ 8 ∧ v ≤ 8 ∧ 1 + (8 - v) + 7 * (8 - u) ≤ m
theorem k_rc (hn : n ≤ 96) (hb : ∀ k, k < n → b k < 256) (hk : key < 3) : ∀ m c u v w i L O (g : sv_Mg) (Q : Int32 → sv_Mg → Prop), px_K b n key g0 i L O g → px_fu m c u v w → O.length + 1 ≤ i → i ≤ n →
    ((px (px_y b n key) m c u v w i).1 = true → ∀ g', px_K b n key g0 (px (px_y b n key) m c u v w i).2.1 (L + px_lv (px (px_y b n key) m c u v w i).2.2) (O ++ (px (px_y b n key) m c u v w i).2.2) g' → Q 1 g') →
    ((px (px_y b n key) m c u v w i).1 = false → ∀ g', px_F b n g0 (px (px_y b n key) m c u v w i).2.1 g' → Q 0 g') → wp_X3_rc F m c (nI u) (nI v) (nI w) g Q := by
  have hN : ∀ k, px_y b n key k ≠ 20013 → k < n := px_y_N hb
  generalize hy : px_y b n key = y at hN
  intro m
  induction m with
  | zero =>
    intro c u v w i L O g Q h hf
    unfold px_fu at hf
    split at hf <;> omega
  | succ m ih =>
    intro c u v w i L O g Q h hf hO hi q1 q0
    cases c
    · -- a piece
      obtain ⟨hu, hv, hf⟩ : u ≤ 8 ∧ v ≤ 8 ∧ 1 + (8 - v) + 7 * (8 - u) ≤ m + 1 := hf
      show wp_X3_readPiece F (wp_X3_rc F m) (nI u) (nI v) g Q
      have ok := tk_i_ok hb i
      have eyi : y i = px_sy key (tk_i b n i) := by rw [← hy]; rfl
      have K := h.2.2.1
      have k6 := h.2.2.2.1
      have o96 : O.length < 96 := by omega
      unfold wp_X3_readPiece
      rw [K.1]
      refine ⟨fun c2 => ?_, fun c2 => ⟨fun c1 => ?_, fun c1 => ?_⟩⟩
      · -- a number
        have c2 : (tk_i b n i).1 = 2 := (pl_eq (b := 2) (by have := ok.1; omega) (by omega)).mp c2
        have ev : y i = (tk_i b n i).2.2.2 := by rw [eyi]; unfold px_sy; rw [if_neg (by omega), if_pos c2]
        have hlt := ok.2.2.2.2.2.2 c2
        have e := px_pl (y := y) (n := m) (u := u) (v := v) (w := w) (i := i) (by omega)
        rw [e] at q1
        refine k_leaf (z := y i) hn hb ?_ o96 h (fun g' h' => ⟨Or.inr rfl, q1 rfl g' ?_⟩)
        · rw [K.2.2.2 (Or.inr (Or.inl c2)), px_cd_l (by omega), ev]
        · show px_K b n key g0 (i + 1) (L + px_lv [y i]) (O ++ [y i]) g'
          rw [px_lv, if_pos (by omega)]
          exact h'
      · -- letters
        have c1 : (tk_i b n i).1 = 1 := (pl_eq (b := 1) (by have := ok.1; omega) (by omega)).mp c1
        have hlt := ok.2.2.2.2.2.1 (Or.inl c1)
        have hse := ok.2.1
        have hen := ok.2.2.1
        rw [k6]
        refine k_names hk ?_
        rw [K.2.2.2 (Or.inl c1)]
        refine k_index (by omega) hlt ?_
        rw [px_ixn key hk _ hlt, K.2.2.1, K.2.1, pk_sub hse]
        have no : y i = 20014 → Q 0 g := by
          intro z
          have e := px_pf (y := y) (n := m) (u := u) (v := v) (w := w) (i := i) (by omega) (by omega) (by omega)
          rw [e] at q0
          exact q0 rfl g h.f
        have ev : y i = if (tk_i b n i).2.2.1 - (tk_i b n i).2.1 = 1 then px_nc (px_nm key (tk_i b n i).2.2.2) else 20014 := by
          rw [eyi]
          unfold px_sy
          rw [if_neg (by omega), if_neg (by omega), if_neg (by omega)]
          by_cases c : (tk_i b n i).2.2.1 - (tk_i b n i).2.1 = 1
          · rw [if_pos ⟨c1, c⟩, if_pos c]
          · rw [if_neg (fun z => c z.2), if_neg c]
        refine ⟨fun cl => ?_, fun cl => no ?_⟩
        · have cl : (tk_i b n i).2.2.1 - (tk_i b n i).2.1 = 1 := (pl_eq (b := 1) (by omega) (by omega)).mp cl
          rw [if_pos cl] at ev
          cases en : px_nm key (tk_i b n i).2.2.2 with
          | none =>
            rw [en] at ev
            exact br_y (by decide) (no ev)
          | some j =>
            rw [en] at ev
            have ev : y i = 10000 + j := ev
            have hj := px_nm_lt en
            have := sp_nx_le key
            have e := px_pl (y := y) (n := m) (u := u) (v := v) (w := w) (i := i) (by omega)
            rw [e] at q1
            refine br_n (pl_nn (a := j) (by omega)) (k_leaf (z := y i) hn hb ?_ o96 h (fun g' h' => br_n ne10 (q1 rfl g' ?_)))
            · rw [px_cd_l (by omega), ev, pl_lit 10000]
              exact nI_add 10000 j
            · show px_K b n key g0 (i + 1) (L + px_lv [y i]) (O ++ [y i]) g'
              rw [px_lv, if_pos (by omega)]
              exact h'
        · rw [if_neg (fun z => cl (by rw [z]; rfl))] at ev
          exact ev
      · -- a sign, the end, or what is broken
        have c2' : (tk_i b n i).1 ≠ 2 := fun z => c2 (by rw [z]; rfl)
        have c1' : (tk_i b n i).1 ≠ 1 := fun z => c1 (by rw [z]; rfl)
        have ge : ¬ y i < 20000 := by
          rw [eyi]
          unfold px_sy
          by_cases c0 : (tk_i b n i).1 = 0
          · rw [if_pos c0]; omega
          rw [if_neg c0, if_neg c2']
          by_cases c3 : (tk_i b n i).1 = 3
          · rw [if_pos c3]; have := px_sg_r _ (ok.2.2.2.2.2.1 (Or.inr c3)); omega
          · rw [if_neg c3, if_neg (fun z => c1' z.1)]; omega
        have n122 : ¬ (y i = 20010 ∧ v < 8) → wp_X3_readPiece_122 F (wp_X3_rc F m) Q (nI u) (nI v) g := by
          intro nn
          refine k_one hb h (by omega) (fun c7 => br_n ne10 ?_) (fun c7 => br_y rfl ?_)
          · rw [hy] at c7
            have c7 := px_in6.2.1.mp c7
            have hiN := hN i (by omega)
            by_cases c8 : u < 8
            · refine br_n (fun z => absurd ((pl_le (a := 8) (by omega) (by omega)).mp z) (by omega)) (k_nx hn hb h (fun g2 h2 => ?_))
              have e := px_po (y := y) (n := m) (u := u) (v := v) (w := w) (i := i) ⟨c7, c8⟩
              rw [e] at q1 q0
              rw [nI_1]
              have all := px_all hN m true 0 (u + 1) v (i + 1)
              refine ih true 0 (u + 1) v (i + 1) L O g2 _ h2 (show px_fu m true 0 (u + 1) v by unfold px_fu; rw [if_pos rfl]; omega) (by omega) (by omega) (fun cr g3 h3 => br_n ne10 ?_) (fun cr g3 h3 => br_y rfl ?_)
              · rw [if_pos cr] at q1 q0
                refine k_one hb h3 (by omega) (fun c12 => br_n ne10 ?_) (fun c12 => br_y rfl (br_y rfl ?_))
                · rw [hy] at c12
                  rw [if_pos (px_in6.2.2.mp c12)] at q1
                  exact k_nx hn hb h3 (fun g4 h4 => br_n ne10 (q1 rfl g4 h4))
                · rw [hy] at c12
                  rw [if_neg (fun z => by rw [px_in6.2.2.mpr z] at c12; exact Bool.false_ne_true c12.symm)] at q0
                  exact q0 rfl g3 h3.f
              · rw [if_neg (by rw [cr]; exact Bool.false_ne_true)] at q0
                exact q0 rfl g3 h3
            · refine br_y ((pl_le (a := 8) (by omega) (by omega)).mpr (by omega)) ?_
              have e := px_pf (y := y) (n := m) (u := u) (v := v) (w := w) (i := i) ge nn (by omega)
              rw [e] at q0
              exact q0 rfl g h.f
          · rw [hy] at c7
            have e := px_pf (y := y) (n := m) (u := u) (v := v) (w := w) (i := i) ge nn (fun z => by rw [px_in6.2.1.mpr z.1] at c7; exact Bool.false_ne_true c7.symm)
            rw [e] at q0
            exact q0 rfl g h.f
        refine k_one hb h (by omega) (fun c6 => br_n ne10 ?_) (fun c6 => br_y rfl (n122 (fun z => ?_)))
        · rw [hy] at c6
          have c6 := px_in6.1.mp c6
          have hiN := hN i (by omega)
          by_cases c8 : v < 8
          · refine br_n (fun z => absurd ((pl_le (a := 8) (by omega) (by omega)).mp z) (by omega)) (k_nx hn hb h (fun g2 h2 => ?_))
            have e := px_pn (y := y) (n := m) (u := u) (v := v) (w := w) (i := i) ⟨c6, c8⟩
            rw [e] at q1 q0
            rw [nI_1]
            have all := px_all hN m false u (v + 1) 0 (i + 1)
            refine ih false u (v + 1) 0 (i + 1) L O g2 _ h2 (show px_fu m false u (v + 1) 0 by unfold px_fu; rw [if_neg (by decide)]; omega) (by omega) (by omega) (fun cr g3 h3 => br_n ne10 ?_) (fun cr g3 h3 => br_y rfl ?_)
            · rw [if_pos cr] at q1
              have hg := (all.2 cr).1
              have hjn := all.1.2 (by omega)
              refine k_ad (z := 20010) px_cd33 (by rw [List.length_append]; omega) h3 (fun g4 h4 => br_n ne10 (q1 rfl g4 ?_))
              dsimp only
              rw [px_lv_app, show px_lv [20010] = 0 from rfl, Nat.add_zero, ← List.append_assoc]
              exact h4
            · rw [if_neg (by rw [cr]; exact Bool.false_ne_true)] at q0
              exact q0 rfl g3 h3
          · exact br_y ((pl_le (a := 8) (by omega) (by omega)).mpr (by omega)) (n122 (by omega))
        · rw [hy, px_in6.1.mpr z.1] at c6
          exact Bool.false_ne_true c6.symm
    · -- a chain
      obtain ⟨hu, hv, hw, hf⟩ : u ≤ 5 ∧ v ≤ 8 ∧ w ≤ 8 ∧ (6 - u) + 1 + (8 - w) + 7 * (8 - v) ≤ m + 1 := hf
      show wp_X3_readChain F (wp_X3_rc F m) (nI u) (nI v) (nI w) g Q
      by_cases c4 : u ≤ 4
      · refine br_y ((pl_le (b := 4) (by omega) (by omega)).mpr c4) ?_
        rw [px_c4 c4] at q1 q0
        rw [nI_1]
        have fu : px_fu m true (u + 1) v w := by unfold px_fu; rw [if_pos rfl]; omega
        have all := px_all hN m true (u + 1) v w i
        refine ih true (u + 1) v w i L O g _ h fu hO hi (fun cr g2 h2 => br_n ne10 ?_) (fun cr g2 h2 => br_y rfl ?_)
        · rw [if_pos cr] at q1 q0
          have lp : ∀ s k j o (g' : sv_Mg) (M : Nat), k + s = M → M < 1000 → j ≤ n → O.length + o.length + 1 ≤ j → px_K b n key g0 j (L + px_lv o) (O ++ o) g' →
              ((px_loop y (px y m true (u + 1) v w) (9 + u) s j o).1 = true → ∀ g', px_K b n key g0 (px_loop y (px y m true (u + 1) v w) (9 + u) s j o).2.1 (L + px_lv (px_loop y (px y m true (u + 1) v w) (9 + u) s j o).2.2) (O ++ (px_loop y (px y m true (u + 1) v w) (9 + u) s j o).2.2) g' → Q 1 g') →
              ((px_loop y (px y m true (u + 1) v w) (9 + u) s j o).1 = false → ∀ g', px_F b n g0 (px_loop y (px y m true (u + 1) v w) (9 + u) s j o).2.1 g' → Q 0 g') →
              wp_X3_readChain_42 F (wp_X3_rc F m) Q (s + 1) (nI u) (nI v) (nI w) (nI M) (nI k) g' := by
            intro s
            induction s with
            | zero =>
              intro k j o g' M hM hM2 hj hl h' p1 p0
              exact br_y ((pl_le (by omega) (by omega)).mpr (by omega)) (p1 rfl g' h')
            | succ s ihs =>
              intro k j o g' M hM hM2 hj hl h' p1 p0
              refine br_n (fun z => absurd ((pl_le (by omega) (by omega)).mp z) (by omega)) (k_signs c4 (k_one hb h' (by omega) (fun c => br_n ne10 ?_) (fun c => br_y rfl ?_)))
              · rw [hy] at c
                rw [px_loop, if_pos c] at p1 p0
                obtain ⟨⟨c1, c2⟩, c3⟩ := px_in_y c4 c
                have hjN := hN j (by omega)
                have okj := tk_i_ok hb j
                have K' := h'.2.2.1
                have eyj : y j = px_sy key (tk_i b n j) := by rw [← hy]; rfl
                have t3 : (tk_i b n j).1 = 3 := by
                  apply Classical.byContradiction
                  intro z
                  have := px_in_ns (key := key) (s := 9 + u) okj z
                  rw [← eyj, c] at this
                  exact Bool.false_ne_true this.symm
                have hv3 := okj.2.2.2.2.2.1 (Or.inr t3)
                have evj : y j = px_sg (tk_i b n j).2.2.2 := by rw [eyj]; unfold px_sy; rw [if_neg (by omega), if_neg (by omega), if_pos t3]
                intro v6 e6
                rw [K'.2.2.2 (Or.inr (Or.inr t3))] at e6
                subst e6
                refine k_nx hn hb h' (fun g3 h3 => ?_)
                rw [nI_1]
                have alj := px_all hN m true (u + 1) v w (j + 1)
                have lO : (O ++ o).length = O.length + o.length := List.length_append
                refine ih true (u + 1) v w (j + 1) (L + px_lv o) (O ++ o) g3 _ h3 fu (by omega) (by omega) (fun cj g4 h4 => br_n ne10 ?_) (fun cj g4 h4 => br_y rfl ?_)
                · rw [if_pos cj] at p1 p0
                  have hg := (alj.2 cj).1
                  have hjn := alj.1.2 (by omega)
                  refine k_ad (z := y j) (by rw [evj]; exact px_sg_k _ hv3 (by omega) (by omega)) (by rw [List.length_append]; omega) h4 (fun g5 h5 => ?_)
                  intro v5 e5
                  rw [nI_1] at e5
                  subst e5
                  refine ihs (k + 1) _ _ g5 M (by omega) hM2 hjn ?_ ?_ p1 p0
                  · rw [List.length_append, List.length_append, List.length_singleton]; omega
                  · have el : px_lv [y j] = 0 := by rw [px_lv, if_neg (by omega)]; rfl
                    rw [px_lv_app, px_lv_app, el, show ∀ a c d : Nat, a + (c + d + 0) = a + c + d from fun a c d => by omega, ← List.append_assoc, ← List.append_assoc]
                    exact h5
                · rw [if_neg (by rw [cj]; exact Bool.false_ne_true)] at p0
                  exact p0 rfl g4 h4
              · rw [hy] at c
                rw [px_loop, if_neg (by rw [c]; exact Bool.false_ne_true)] at p1
                exact p1 rfl g' h'
          have hg := (all.2 cr).1
          have hjn := all.1.2 hi
          by_cases u2 : u = 2
          · rw [if_pos u2] at q1 q0
            refine br_y (by rw [u2]; rfl) ⟨_, lp 1 0 _ _ g2 1 rfl (by omega) hjn (by omega) h2 q1 q0⟩
          · rw [if_neg u2] at q1 q0
            refine br_n (fun z => u2 ((pl_eq (b := 2) (by omega) (by omega)).mp z)) ⟨_, lp 96 0 _ _ g2 96 rfl (by omega) hjn (by omega) h2 q1 q0⟩
        · rw [if_neg (by rw [cr]; exact Bool.false_ne_true)] at q0
          exact q0 rfl g2 h2
      · rw [px_c5 c4] at q1 q0
        refine br_n (fun z => c4 ((pl_le (b := 4) (by omega) (by omega)).mp z)) ?_
        exact ih false v w 0 i L O g _ h (show px_fu m false v w 0 by unfold px_fu; rw [if_neg (by decide)]; omega) hO hi (fun cr g2 h2 => ⟨Or.inr rfl, q1 cr g2 h2⟩) (fun cr g2 h2 => ⟨Or.inl rfl, q0 cr g2 h2⟩)
end KQ
