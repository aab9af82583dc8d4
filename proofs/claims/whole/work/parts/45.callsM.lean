/-! SLOTS: lay -/
section CM
variable {F : sv_Fr} {g g' : sv_Mg} {a B : Nat} {f : Nat → Int32}
/-- the reference lays: what it holds, and the two numbers -/
theorem r_lay {i t s : Nat} {x0 x y z v4 : Int32} {Q : Int32 → sv_Mg → Prop} (hi : i ≤ 4) (ht : t ≤ 3) (hz : t = 2 → z = nI s ∧ s ≤ 3) (hx : (t = 1 → ∀ g1, g1 = sv_st g 76 i (nI t) → ∀ Q', Q' x0 g1 → wp_X7_of F z 0 g1 Q') ∧ (t = 1 → x = x0) ∧ (t = 2 → x = g 74 s) ∧ (t ≠ 1 → t ≠ 2 → x = z)) (hy : (t = 1 → ∀ g1, sv_sm (fun k => k = 76 ∨ k = 77) g g1 → ∀ Q', Q' y g1 → wp_X7_worthOf F z g1 Q') ∧ (t ≠ 1 → y = 0))
    (q : ∀ g', sv_sm (fun k => 76 ≤ k ∧ k ≤ 79) g g' → g' 76 = upd (g 76) i (nI t) → g' 77 = upd (g 77) i x → g' 78 = upd (g 78) i y → (t ≠ 2 → g' 79 = g 79) → (t = 2 → (∀ k, k < 24 → g' 79 (24 * i + k) = g 75 (24 * s + k)) ∧ ∀ p, p < 24 * i ∨ 24 * i + 24 ≤ p → g' 79 p = g 79 p) → Q (g 76 i) g') : wp_X7_lay_61 F Q (nI i) (nI t) z g := by
  have i5 : vp_in (nI i) 5 := pl_in (by omega) (by omega)
  refine ⟨i5, fun v4 e4 => ⟨i5, fun g1 e1 => ?_⟩⟩
  rw [pl_clamp (by omega)] at e4 e1
  have c1 : (nI t : Int32) = 1 ↔ t = 1 := pl_eq (b := 1) (by omega) (by omega)
  have c2 : (nI t : Int32) = 2 ↔ t = 2 := pl_eq (b := 2) (by omega) (by omega)
  have last : ∀ g3, sv_sm (fun k => 76 ≤ k ∧ k ≤ 78) g g3 → g3 76 = upd (g 76) i (nI t) → g3 77 = upd (g 77) i x → g3 78 = upd (g 78) i y → ∃ n_9, wp_X7_lay_134 F Q n_9 (nI i) (nI t) z v4 0 g3 := by
    intro g3 S3 y1 y2 y3
    by_cases t2 : t = 2
    · obtain ⟨ez, hs⟩ := hz t2
      have go : ∀ m k g', k ≤ 24 → 25 ≤ k + m → sv_sm (fun k => k = 79) g3 g' → (∀ j, j < k → g' 79 (24 * i + j) = g 75 (24 * s + j)) → (∀ p, p < 24 * i ∨ 24 * i + 24 ≤ p → g' 79 p = g 79 p) → wp_X7_lay_134 F Q m (nI i) (nI t) z v4 (nI k) g' := by
        intro m
        induction m with
        | zero => intro k g' h1 h2; omega
        | succ m ih =>
          intro k g' h1 h2 S z1 z2
          have ei : ((24 * nI i) + nI k : Int32) = nI (24 * i + k) := by rw [pl_lit 24, pk_mul, nI_add]
          have es : ((24 * z) + nI k : Int32) = nI (24 * s + k) := by rw [ez, pl_lit 24, pk_mul, nI_add]
          rw [wp_X7_lay_134, ei, es, pl_clamp (n := 24 * i + k) (by omega), pl_clamp (n := 24 * s + k) (by omega), pl_lit 24]
          by_cases hk : 24 ≤ k
          · refine br_y ((pl_le (by omega) (by omega)).mpr hk) ?_
            rw [e4]
            refine q g' (fun k hk => ?_) ?_ ?_ ?_ (fun z => absurd t2 z) (fun _ => ⟨fun k hk => z1 k (by omega), z2⟩)
            · rw [S k (by omega), S3 k (by omega)]
            · rw [S 76 (by omega)]; exact y1
            · rw [S 77 (by omega)]; exact y2
            · rw [S 78 (by omega)]; exact y3
          · refine br_n (fun z => hk ((pl_le (by omega) (by omega)).mp z)) (br_y (c2.mpr t2) ⟨pl_in (by omega) (by omega), pl_in (by omega) (by omega), fun g4 e4' v5 e5 => ?_⟩)
            rw [e5, nI_1]
            have e75 : g' 75 = g 75 := by rw [S 75 (by omega), S3 75 (by omega)]
            refine ih (k + 1) g4 (by omega) (by omega) (by rw [e4']; exact S.st rfl) (fun j hj => ?_) (fun p hp => ?_)
            · rw [e4']
              by_cases ej : j = k
              · subst ej; rw [st_at, e75]
              · rw [st_nk (by omega)]; exact z1 j (by omega)
            · rw [e4', st_nk (by omega)]; exact z2 p hp
      exact ⟨_, go 25 0 g3 (by omega) (by omega) sv_sm.rf (fun j hj => absurd hj (Nat.not_lt_zero j)) (fun p _ => by rw [S3 79 (by omega)])⟩
    · refine ⟨1, ?_⟩
      rw [wp_X7_lay_134]
      refine br_n (by decide) (br_n (fun z => t2 (c2.mp z)) ?_)
      rw [e4]
      exact q g3 (fun k hk => S3 k (by omega)) y1 y2 y3 (fun _ => S3 79 (by omega)) (fun z => absurd z t2)
  have mid : ∀ g1, g1 = sv_st g 76 i (nI t) → wp_X7_lay_110 F Q (nI i) (nI t) z v4 x (nI i) g1 := by
    intro g1 e1
    refine ⟨i5, fun g2 e2 => ?_⟩
    rw [pl_clamp (by omega)] at e2
    have S2 : sv_sm (fun k => k = 76 ∨ k = 77) g g2 := by
      rw [e2, e1]; exact (sv_sm.rf.st (Or.inl rfl)).st (Or.inr rfl)
    have end3 : wp_X7_lay_130 F Q (nI i) (nI t) z v4 y (nI i) g2 := by
      refine ⟨i5, fun g3 e3 => ?_⟩
      rw [pl_clamp (by omega)] at e3
      refine last g3 ?_ ?_ ?_ ?_
      · rw [e3]; exact (S2.mono (fun k z => by omega)).st ⟨by omega, by omega⟩
      · rw [e3, st_ne (by omega), e2, st_ne (by omega), e1, upd_st]
      · rw [e3, st_ne (by omega), e2, upd_st, e1, st_ne (by omega)]
      · rw [e3, upd_st, S2 78 (by omega)]
    by_cases t1 : t = 1
    · exact br_y (c1.mpr t1) (hy.1 t1 g2 S2 _ end3)
    · rw [hy.2 t1] at end3
      exact br_n (fun z => t1 (c1.mp z)) end3
  by_cases t1 : t = 1
  · refine br_y (c1.mpr t1) (hx.1 t1 g1 e1 _ ?_)
    rw [← hx.2.1 t1]; exact mid g1 e1
  · refine br_n (fun z => t1 (c1.mp z)) ?_
    by_cases t2 : t = 2
    · obtain ⟨ez, hs⟩ := hz t2
      refine br_y (c2.mpr t2) ⟨by rw [ez]; exact pl_in (by omega) (by omega), ?_⟩
      have e74 : g1 74 z.toNatClampNeg = x := by rw [e1, st_ne (by omega), ez, pl_clamp (by omega), hx.2.2.1 t2]
      rw [e74]; exact mid g1 e1
    · refine br_n (fun z => t2 (c2.mp z)) ?_
      have := mid g1 e1
      rw [hx.2.2.2 t1 t2] at this
      exact this
/-- one slot is new -/
theorem iv_lay {g1 g2 : sv_Mg} {i : Nat} (h : Inv F g) (hi : i ≤ 4) (S1 : sv_sm (fun k => 41 + 3 * i ≤ k ∧ k ≤ 43 + 3 * i) g g1) (S2 : sv_sm (fun k => 76 ≤ k ∧ k ≤ 79) g1 g2) (o6 : ∀ j, j ≠ i → g2 76 j = g1 76 j) (o7 : ∀ j, j ≠ i → g2 77 j = g1 77 j) (o8 : ∀ j, j ≠ i → g2 78 j = g1 78 j) (o9 : ∀ p, p < 24 * i ∨ 24 * i + 24 ≤ p → g2 79 p = g1 79 p) (new : iv_slot1 g2 i) : Inv F g2 := by
  refine h.sl (fun j hj => ?_) (fun k k1 k2 k3 => ?_)
  · by_cases ej : j = i
    · subst ej; exact new
    · refine (h.2.2.2.2.2.1 j hj).mv ?_ ?_ ?_ ?_ ?_ ?_ (fun k hk => ?_)
      · rw [S2 _ (by omega), S1 _ (by omega)]
      · rw [S2 _ (by omega), S1 _ (by omega)]
      · rw [S2 _ (by omega), S1 _ (by omega)]
      · rw [o6 j ej, S1 76 (by omega)]
      · rw [o7 j ej, S1 77 (by omega)]
      · rw [o8 j ej, S1 78 (by omega)]
      · rw [o9 _ (by omega), S1 79 (by omega)]
  · rw [S2 k k2, S1 k (by omega)]
end CM
