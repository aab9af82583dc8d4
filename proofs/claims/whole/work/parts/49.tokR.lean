/-! TOKENS, the reference's go -/
section TR
variable {F : sv_Fr} {g : sv_Mg} {b : Nat → Nat} {n : Nat}
theorem r_letter {p : Nat} {Q : Int32 → sv_Mg → Prop} (hn : n ≤ 96) (hb : ∀ k, k < n → b k < 256) (hB : tk_rb b n g) (hp : p ≤ n) (q1 : p < n → tk_cl (b p) = 1 → Q 1 g) (q0 : ¬ (p < n ∧ tk_cl (b p) = 1) → Q 0 g) : wp_X7_isLetter F (nI p) g Q := by
  unfold wp_X7_isLetter
  rw [hB.1]
  refine ⟨fun c => q0 (fun z => absurd ((pl_le (by omega) (by omega)).mp c) (by omega)), fun c => ?_⟩
  have hlt : p < n := Nat.lt_of_not_le (fun z => c ((pl_le (by omega) (by omega)).mpr z))
  have hbp := hb p hlt
  have l1 : nI (b p) < 97 ↔ b p < 97 := pl_lt (b := 97) (by omega) (by omega)
  have l2 : 122 < nI (b p) ↔ 122 < b p := pl_lt (a := 122) (by omega) (by omega)
  have i := pl_in (i := p) (n := 96) (by omega) (by omega)
  rw [pl_clamp (by omega), hB.2 p hlt, l1, l2]
  refine ⟨i, fun d => q0 (fun z => ?_), fun d => ⟨i, fun d2 => q0 (fun z => ?_), fun d2 => q1 hlt ?_⟩⟩
  · have := z.2
    unfold tk_cl at this
    rw [if_neg (by omega)] at this
    split at this <;> omega
  · have := z.2
    unfold tk_cl at this
    rw [if_neg (by omega)] at this
    split at this <;> omega
  · unfold tk_cl
    exact if_pos (by omega)
theorem r_figure {p : Nat} {Q : Int32 → sv_Mg → Prop} (hn : n ≤ 96) (hb : ∀ k, k < n → b k < 256) (hB : tk_rb b n g) (hp : p ≤ n) (q1 : p < n → tk_cl (b p) = 2 → Q 1 g) (q0 : ¬ (p < n ∧ tk_cl (b p) = 2) → Q 0 g) : wp_X7_isFigure F (nI p) g Q := by
  unfold wp_X7_isFigure
  rw [hB.1]
  refine ⟨fun c => q0 (fun z => absurd ((pl_le (by omega) (by omega)).mp c) (by omega)), fun c => ?_⟩
  have hlt : p < n := Nat.lt_of_not_le (fun z => c ((pl_le (by omega) (by omega)).mpr z))
  have hbp := hb p hlt
  have l1 : nI (b p) < 48 ↔ b p < 48 := pl_lt (b := 48) (by omega) (by omega)
  have l2 : 57 < nI (b p) ↔ 57 < b p := pl_lt (a := 57) (by omega) (by omega)
  have i := pl_in (i := p) (n := 96) (by omega) (by omega)
  rw [pl_clamp (by omega), hB.2 p hlt, l1, l2]
  refine ⟨i, fun d => q0 (fun z => ?_), fun d => ⟨i, fun d2 => q0 (fun z => ?_), fun d2 => q1 hlt ?_⟩⟩
  · have := tk_cl_dig z.2; omega
  · have := tk_cl_dig z.2; omega
  · unfold tk_cl
    rw [if_neg (by omega)]
    exact if_pos (by omega)
/-- what go leaves alone of the reference's own fields -/
def tk_o (g g' : sv_Mg) : Prop := sv_sm (fun k => k = 58) g g' ∧ ∀ j, j < 9 ∨ 13 < j → g' 58 j = g 58 j
theorem tk_o.rf : tk_o g g := ⟨sv_sm.rf, fun _ _ => rfl⟩
theorem tk_o.st {g' : sv_Mg} {j : Nat} {x : Int32} (h : tk_o g g') (hj : 9 ≤ j ∧ j ≤ 13) : tk_o g (sv_st g' 58 j x) := ⟨h.1.st rfl, fun i hi => by rw [st_nk (by omega)]; exact h.2 i hi⟩
theorem tk_o.rb {g' : sv_Mg} (h : tk_o g g') (hB : tk_rb b n g) : tk_rb b n g' := ⟨by rw [h.2 8 (by omega)]; exact hB.1, fun k hk => by rw [h.1 65 (by omega)]; exact hB.2 k hk⟩
theorem r_tok {w : Bool} {p : Nat} {Q : sv_Mg → Prop} (hn : n ≤ 96) (hb : ∀ k, k < n → b k < 256) (hB : tk_rb b n g) (hp : p ≤ n) (h9 : g 58 9 = nI p) (hw1 : w = true → g 58 13 = nI p) (hw0 : w = false → g 58 13 = -1 ∨ ∃ j, j < p ∧ g 58 13 = nI j) (q : ∀ g', tk_o g g' → tk_R (tk_tok b n w p) g' → Q g') : wp_X7_go F g Q := by
  obtain ⟨⟨a1, a2⟩, a3, a4⟩ := tk_rn_spec (ok := fun k => decide (b k = 32)) (n := n) (m := n) (p := p) hp (by omega)
  unfold tk_tok tk_s at q
  generalize tk_rn (fun k => decide (b k = 32)) n n p = s at a1 a2 a3 a4 q
  have s62 : ∀ g1 : sv_Mg, tk_o g g1 → g1 58 9 = nI s → g1 58 10 = nI s → g1 58 13 = g 58 13 → wp_X7_go_62 F Q (sp_b (w && decide (s = p))) g1 := by
    intro g1 O1 f9 f10 f13
    have B1 := O1.rb hB
    unfold wp_X7_go_62
    rw [f10, B1.1]
    refine ⟨fun c => ?_, fun c => ?_⟩
    · have hsn : s = n := (pl_eq (by omega) (by omega)).mp c
      intro g2 e2
      refine q g2 (by rw [e2]; exact O1.st (by omega)) ?_
      unfold tk_at
      rw [if_pos (by omega)]
      refine ⟨by rw [e2, st_at]; rfl, by rw [e2, st_nk (by omega)]; exact f10, by rw [e2, st_nk (by omega)]; exact f9, fun z => ?_, fun z => ?_, fun z => ?_⟩ <;> (exfalso; dsimp only at z; omega)
    · have hsn : s < n := by
        have : s ≠ n := fun z => c (by rw [z])
        omega
      have hbs := hb s hsn
      have i := pl_in (i := s) (n := 96) (by omega) (by omega)
      have cs := pl_clamp (n := s) (by omega)
      unfold tk_at at q
      rw [if_neg (by omega)] at q
      refine r_letter hn hb B1 (by omega) (fun _ c1 => br_n ne10 ?_) (fun c1 => br_y rfl ?_)
      · -- letters
        rw [if_neg (by omega)] at q
        obtain ⟨⟨w1, w2⟩, w3, w4⟩ := tk_rn_spec (ok := fun k => decide (tk_cl (b k) = tk_cl (b s))) (n := n) (m := n) (p := s) (by omega) (by omega)
        unfold tk_e at q
        generalize tk_rn (fun k => decide (tk_cl (b k) = tk_cl (b s))) n n s = e at w1 w2 w3 w4 q
        have hse : s < e := by
          rcases Nat.lt_or_ge s e with z | z
          · exact z
          · have : e = s := by omega
            rw [this] at w4
            exact absurd rfl (of_decide_eq_false (w4 hsn))
        have fin : ∀ (g2 : sv_Mg) (x : Nat), tk_o g g2 → g2 58 9 = nI e → g2 58 10 = nI s → x = (if w = true ∧ s = p then 4 else 1) → wp_X7_go_127 F Q (nI x) g2 := by
          intro g2 x O2 k9 k10 hx g3 e3
          have B3 : tk_rb b n g3 := by rw [e3]; exact (O2.st (by omega)).rb hB
          have k310 : g3 58 10 = nI s := by rw [e3, st_nk (by omega)]; exact k10
          rw [k310]
          refine ⟨i, ?_⟩
          rw [cs, B3.2 s hsn]
          intro g4 e4 g5 e5
          have k49 : g4 58 9 = nI e := by rw [e4, st_nk (by omega), e3, st_nk (by omega)]; exact k9
          rw [k49] at e5
          refine q g5 (by rw [e5, e4, e3]; exact ((O2.st (by omega)).st (by omega)).st (by omega)) ⟨?_, ?_, ?_, fun _ => ?_, fun _ => ?_, fun z => ?_⟩
          · rw [e5, st_nk (by omega), e4, st_nk (by omega), e3, st_at, hx, c1]
            by_cases cw : w = true ∧ s = p
            · rw [if_pos cw, if_pos (Or.inr cw)]
            · rw [if_neg cw, if_neg (fun z => z.elim (fun z => by omega) cw)]
          · rw [e5, st_nk (by omega), e4, st_nk (by omega)]; exact k310
          · rw [e5, st_nk (by omega)]; exact k49
          · rw [e5, st_nk (by omega), e4, st_at]
            have hv : (if tk_cl (b s) = 2 then tk_nv b s (e - s) else b s) = b s := if_neg (by omega)
            rw [hv]
          · rw [e5, st_at]
          · exfalso
            dsimp only at z
            split at z <;> omega
        have lp : ∀ d p' (g2 : sv_Mg), p' + d = e → s ≤ p' → tk_o g g2 → g2 58 9 = nI p' → g2 58 10 = nI s → wp_X7_go_93 F Q (d + 1) (sp_b (w && decide (s = p))) g2 := by
          intro d
          induction d with
          | zero =>
            intro p' g2 hp' hs O2 k9 k10
            have : p' = e := by omega
            subst this
            unfold wp_X7_go_93
            rw [k9]
            refine r_letter hn hb (O2.rb hB) w2 (fun hlt hcl => absurd (hcl.trans c1.symm) (of_decide_eq_false (w4 hlt))) (fun _ => br_y rfl ?_)
            by_cases cw : w = true ∧ s = p
            · rw [cw.1, decide_eq_true cw.2]
              exact br_n ne10 (fin g2 4 O2 k9 k10 (if_pos cw).symm)
            · have : (w && decide (s = p)) = false := by
                cases w
                · rfl
                · rw [Bool.true_and]; exact decide_eq_false (fun z => cw ⟨rfl, z⟩)
              rw [this]
              exact br_y rfl (fin g2 1 O2 k9 k10 (if_neg cw).symm)
          | succ d ih =>
            intro p' g2 hp' hs O2 k9 k10
            unfold wp_X7_go_93
            rw [k9]
            refine r_letter hn hb (O2.rb hB) (by omega) (fun _ _ => br_n ne10 ?_) (fun z => absurd ⟨by omega, (of_decide_eq_true (w3 p' hs (by omega))).trans c1⟩ z)
            intro g3 e3
            rw [k9, nI_1] at e3
            refine ih (p' + 1) g3 (by omega) (by omega) ?_ ?_ ?_
            · rw [e3]; exact O2.st (by omega)
            · rw [e3, st_at]
            · rw [e3, st_nk (by omega)]; exact k10
        exact ⟨e - s + 1, lp (e - s) s g1 (by omega) (Nat.le_refl _) O1 f9 f10⟩
      · have c1 : tk_cl (b s) ≠ 1 := fun z => c1 ⟨hsn, z⟩
        have hcl := tk_cl_le (b s)
        rw [f10]
        refine r_figure hn hb B1 (by omega) (fun _ c2 => br_n ne10 ?_) (fun c2 => br_y rfl ?_)
        · -- a number
          rw [if_neg (by omega)] at q
          obtain ⟨⟨w1, w2⟩, w3, w4⟩ := tk_rn_spec (ok := fun k => decide (tk_cl (b k) = tk_cl (b s))) (n := n) (m := n) (p := s) (by omega) (by omega)
          unfold tk_e at q
          generalize tk_rn (fun k => decide (tk_cl (b k) = tk_cl (b s))) n n s = e at w1 w2 w3 w4 q
          have fin : ∀ (g2 : sv_Mg) (x : Nat), tk_o g g2 → g2 58 9 = nI e → g2 58 10 = nI s → (e - s ≤ 4 → g2 58 12 = nI (tk_nv b s (e - s))) → x = (if 4 < e - s ∨ (w = true ∧ s = p) then 4 else 2) → wp_X7_go_261 F Q (nI x) g2 := by
            intro g2 x O2 k9 k10 k12 hx g3 e3 g4 e4
            have k39 : g3 58 9 = nI e := by rw [e3, st_nk (by omega)]; exact k9
            rw [k39] at e4
            refine q g4 (by rw [e4, e3]; exact (O2.st (by omega)).st (by omega)) ⟨?_, ?_, ?_, fun z => ?_, fun _ => ?_, fun z => ?_⟩
            · rw [e4, st_nk (by omega), e3, st_at, hx]
              by_cases cw : 4 < e - s ∨ (w = true ∧ s = p)
              · rw [if_pos cw, if_pos (cw.elim (fun z => Or.inl ⟨c2, z⟩) Or.inr)]
              · rw [if_neg cw, if_neg (fun z => cw (z.elim (fun z => Or.inl z.2) Or.inr)), c2]
            · rw [e4, st_nk (by omega), e3, st_nk (by omega)]; exact k10
            · rw [e4, st_nk (by omega)]; exact k39
            · rw [e4, st_nk (by omega), e3, st_nk (by omega), if_pos c2]
              refine k12 ?_
              apply Classical.byContradiction
              intro c4
              dsimp only at z
              rw [if_pos (Or.inl ⟨c2, by omega⟩)] at z
              omega
            · rw [e4, st_at]
            · exfalso
              dsimp only at z
              split at z <;> omega
          have lp : ∀ d k (g2 : sv_Mg), k + d = e - s → tk_o g g2 → g2 58 9 = nI (s + k) → g2 58 10 = nI s → (k ≤ 4 → g2 58 12 = nI (tk_nv b s k)) → wp_X7_go_170 F Q (d + 1) (sp_b (w && decide (s = p))) g2 := by
            intro d
            induction d with
            | zero =>
              intro k g2 hk O2 k9 k10 k12
              have : k = e - s := by omega
              subst this
              have k9 : g2 58 9 = nI e := by rw [k9]; congr 1; omega
              unfold wp_X7_go_170
              rw [k9]
              refine r_figure hn hb (O2.rb hB) w2 (fun hlt hcl => absurd (hcl.trans c2.symm) (of_decide_eq_false (w4 hlt))) (fun _ => br_y rfl ?_)
              rw [k9, k10, pk_sub w1]
              by_cases cw : w = true ∧ s = p
              · rw [cw.1, decide_eq_true cw.2]
                exact br_n ne10 (fin g2 4 O2 k9 k10 k12 (if_pos (Or.inr cw)).symm)
              · have : (w && decide (s = p)) = false := by
                  cases w
                  · rfl
                  · rw [Bool.true_and]; exact decide_eq_false (fun z => cw ⟨rfl, z⟩)
                rw [this]
                refine br_y rfl ?_
                by_cases c4 : e - s ≤ 4
                · exact br_y ((pl_le (b := 4) (by omega) (by omega)).mpr c4) (fin g2 2 O2 k9 k10 k12 (if_neg (fun z => z.elim (fun z => by omega) cw)).symm)
                · exact br_n (fun z => c4 ((pl_le (b := 4) (by omega) (by omega)).mp z)) (fin g2 4 O2 k9 k10 k12 (if_pos (Or.inl (by omega))).symm)
            | succ d ih =>
              intro k g2 hk O2 k9 k10 k12
              have hck := (of_decide_eq_true (w3 (s + k) (by omega) (by omega))).trans c2
              unfold wp_X7_go_170
              rw [k9]
              refine r_figure hn hb (O2.rb hB) (by omega) (fun _ _ => br_n ne10 ?_) (fun z => absurd ⟨by omega, hck⟩ z)
              rw [k9, k10, pk_sub (by omega), show s + k - s = k by omega]
              have nx : ∀ v : Int32, (k + 1 ≤ 4 → v = nI (tk_nv b s (k + 1))) → wp_X7_go_222 F Q (wp_X7_go_170 F Q (d + 1)) (sp_b (w && decide (s = p))) v g2 := by
                intro v hv g3 e3 g4 e4
                have k39 : g3 58 9 = nI (s + k) := by rw [e3, st_nk (by omega)]; exact k9
                rw [k39, nI_1] at e4
                refine ih (k + 1) g4 (by omega) ?_ ?_ ?_ (fun c => ?_)
                · rw [e4, e3]; exact (O2.st (by omega)).st (by omega)
                · rw [e4, st_at]; rfl
                · rw [e4, st_nk (by omega), e3, st_nk (by omega)]; exact k10
                · rw [e4, st_nk (by omega), e3, st_at]; exact hv c
              by_cases c4 : 4 ≤ k
              · exact br_y ((pl_le (a := 4) (by omega) (by omega)).mpr c4) (nx _ (fun z => by omega))
              · refine br_n (fun z => c4 ((pl_le (a := 4) (by omega) (by omega)).mp z)) ⟨pl_in (by omega) (by omega), nx _ (fun _ => ?_)⟩
                have hdk := (tk_cl_dig hck).1
                rw [pl_clamp (by omega), (O2.rb hB).2 (s + k) (by omega), k12 (by omega), pl_lit 10, pl_lit 48, pk_mul, nI_add, pk_sub (by omega), tk_nv]
                congr 1
                omega
          intro g2 e2
          refine ⟨e - s + 1, lp (e - s) 0 g2 (by omega) ?_ ?_ ?_ (fun _ => ?_)⟩
          · rw [e2]; exact O1.st (by omega)
          · rw [e2, st_nk (by omega)]; exact f9
          · rw [e2, st_nk (by omega)]; exact f10
          · rw [e2, st_at]; rfl
        · -- a sign
          have c2 : tk_cl (b s) ≠ 2 := fun z => c2 ⟨hsn, z⟩
          rw [if_pos (by omega)] at q
          intro g2 e2
          have B2 : tk_rb b n g2 := by rw [e2]; exact (O1.st (by omega)).rb hB
          have k10 : g2 58 10 = nI s := by rw [e2, st_nk (by omega)]; exact f10
          rw [k10]
          refine ⟨i, ?_⟩
          rw [cs, B2.2 s hsn]
          intro g3 e3 g4 e4
          have k9 : g3 58 9 = nI s := by rw [e3, st_nk (by omega), e2, st_nk (by omega)]; exact f9
          rw [k9, nI_1] at e4
          refine q g4 (by rw [e4, e3, e2]; exact ((O1.st (by omega)).st (by omega)).st (by omega)) ⟨?_, ?_, ?_, fun _ => ?_, fun z => ?_, fun _ => ?_⟩
          · rw [e4, st_nk (by omega), e3, st_nk (by omega), e2, st_at]; rfl
          · rw [e4, st_nk (by omega), e3, st_nk (by omega)]; exact k10
          · rw [e4, st_at]
          · rw [e4, st_nk (by omega), e3, st_at]
          · exfalso
            dsimp only at z
            omega
          · rw [e4, st_nk (by omega), e3, st_nk (by omega), e2, st_nk (by omega), f13]
            cases w
            · rcases hw0 rfl with z | ⟨j, hj, z⟩
              · exact Or.inl z
              · exact Or.inr ⟨j, (by omega : j < s + 1), z⟩
            · exact Or.inr ⟨p, (by omega : p < s + 1), hw1 rfl⟩
  have s38 : ∀ g1 : sv_Mg, tk_o g g1 → g1 58 9 = nI s → g1 58 13 = g 58 13 → wp_X7_go_38 F Q g1 := by
    intro g1 O1 f9 f13 g2 e2
    rw [f9] at e2
    have k10 : g2 58 10 = nI s := by rw [e2, st_at]
    have k13 : g2 58 13 = g 58 13 := by rw [e2, st_nk (by omega)]; exact f13
    have z := s62 g2 (by rw [e2]; exact O1.st (by omega)) (by rw [e2, st_nk (by omega)]; exact f9) k10 k13
    rw [k10, k13]
    cases w
    · refine br_n ?_ z
      rcases hw0 rfl with y | ⟨j, hj, y⟩
      · rw [y]; exact pl_m1 (by omega)
      · rw [y]; exact fun x => absurd ((pl_eq (by omega) (by omega)).mp x) (by omega)
    · rw [hw1 rfl]
      by_cases c : s = p
      · rw [decide_eq_true c] at z
        exact br_y (by rw [c]) z
      · rw [decide_eq_false c] at z
        exact br_n (fun x => c ((pl_eq (by omega) (by omega)).mp x)) z
  have lp : ∀ d p' (g1 : sv_Mg), p' + d = s → p ≤ p' → tk_o g g1 → g1 58 9 = nI p' → g1 58 13 = g 58 13 → wp_X7_go_0 F Q (d + 1) g1 := by
    intro d
    induction d with
    | zero =>
      intro p' g1 hp' hpp O1 f9 f13
      have : p' = s := by omega
      subst this
      have z := s38 g1 O1 f9 f13
      have B1 := O1.rb hB
      unfold wp_X7_go_0
      rw [f9, B1.1]
      refine ⟨fun _ => z, fun c => ?_⟩
      have hlt : p' < n := Nat.lt_of_not_le (fun z => c ((pl_le (by omega) (by omega)).mpr z))
      refine ⟨pl_in (by omega) (by omega), br_n ?_ z⟩
      rw [pl_clamp (by omega), B1.2 p' hlt]
      intro z
      exact absurd ((pl_eq (b := 32) (by have := hb p' hlt; omega) (by omega)).mp z) (of_decide_eq_false (a4 hlt))
    | succ d ih =>
      intro p' g1 hp' hpp O1 f9 f13
      have B1 := O1.rb hB
      unfold wp_X7_go_0
      rw [f9, B1.1]
      refine br_n (fun z => absurd ((pl_le (by omega) (by omega)).mp z) (by omega)) ⟨pl_in (by omega) (by omega), br_y ?_ ?_⟩
      · rw [pl_clamp (by omega), B1.2 p' (by omega), of_decide_eq_true (a3 p' hpp (by omega))]; rfl
      · intro g2 e2
        rw [nI_1] at e2
        refine ih (p' + 1) g2 (by omega) (by omega) ?_ ?_ ?_
        · rw [e2]; exact O1.st (by omega)
        · rw [e2, st_at]
        · rw [e2, st_nk (by omega)]; exact f13
  exact ⟨s - p + 1, lp (s - p) p g (by omega) (Nat.le_refl _) tk_o.rf h9 rfl⟩
end TR
