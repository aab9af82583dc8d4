/-! SHEETS AND SLOTS THAT CHANGE: pour, sheet, mark -/
section CJ
variable {F : sv_Fr} {g g' : sv_Mg} {a B : Nat} {f : Nat → Int32}
theorem Inv.sh (h : Inv F g) (hs : iv_sheet g') (hk : ∀ k, ¬ (32 ≤ k ∧ k ≤ 39) → ¬ (73 ≤ k ∧ k ≤ 75) → ¬ iv_tp k → g' k = g k) : Inv F g' := by
  obtain ⟨h1, h2, h3, h4, h5, h6, h7, h8⟩ := h
  have hk' : ∀ k, ¬ (32 ≤ k ∧ k ≤ 39) ∧ ¬ (73 ≤ k ∧ k ≤ 75) ∧ ¬ (k = 3 ∨ k = 6 ∨ (23 ≤ k ∧ k ≤ 30) ∨ k = 57 ∨ (61 ≤ k ∧ k ≤ 64) ∨ (68 ≤ k ∧ k ≤ 72) ∨ k = 80) → g' k = g k := fun k z => hk k z.1 z.2.1 z.2.2
  have e59 : g' 59 = g 59 := hk' 59 (by omega)
  refine ⟨h1, ⟨by rw [e59]; exact h2.1, by rw [e59]; exact h2.2.mv h1 (fun k z => hk' k (by omega))⟩, h3.mv h1 (by rw [hk' 0 (by omega)]) (by rw [hk' 58 (by omega)]) (hk' 60 (by omega)) (by rw [e59]; exact Nat.le_refl _) (fun k z => hk' k (by omega)), h4.mv (by rw [hk' 4 (by omega)]) (hk' 5 (by omega)) (by rw [hk' 58 (by omega)]) (hk' 65 (by omega)), hs, h6.mv (fun k z => hk' k (by omega)), h7.mv (by rw [hk' 0 (by omega)]) (hk' 56 (by omega)) (by rw [hk' 58 (by omega)]) (hk' 81 (by omega)), h8.mv (hk' 66 (by omega)) (hk' 67 (by omega))⟩
theorem Inv.sl (h : Inv F g) (hs : iv_slot g') (hk : ∀ k, ¬ (41 ≤ k ∧ k ≤ 55) → ¬ (76 ≤ k ∧ k ≤ 79) → ¬ iv_tp k → g' k = g k) : Inv F g' := by
  obtain ⟨h1, h2, h3, h4, h5, h6, h7, h8⟩ := h
  have hk' : ∀ k, ¬ (41 ≤ k ∧ k ≤ 55) ∧ ¬ (76 ≤ k ∧ k ≤ 79) ∧ ¬ (k = 3 ∨ k = 6 ∨ (23 ≤ k ∧ k ≤ 30) ∨ k = 57 ∨ (61 ≤ k ∧ k ≤ 64) ∨ (68 ≤ k ∧ k ≤ 72) ∨ k = 80) → g' k = g k := fun k z => hk k z.1 z.2.1 z.2.2
  have e59 : g' 59 = g 59 := hk' 59 (by omega)
  refine ⟨h1, ⟨by rw [e59]; exact h2.1, by rw [e59]; exact h2.2.mv h1 (fun k z => hk' k (by omega))⟩, h3.mv h1 (by rw [hk' 0 (by omega)]) (by rw [hk' 58 (by omega)]) (hk' 60 (by omega)) (by rw [e59]; exact Nat.le_refl _) (fun k z => hk' k (by omega)), h4.mv (by rw [hk' 4 (by omega)]) (hk' 5 (by omega)) (by rw [hk' 58 (by omega)]) (hk' 65 (by omega)), h5.mv (fun k z => hk' k (by omega)), hs, h7.mv (by rw [hk' 0 (by omega)]) (hk' 56 (by omega)) (by rw [hk' 58 (by omega)]) (hk' 81 (by omega)), h8.mv (hk' 66 (by omega)) (hk' 67 (by omega))⟩
/-! pour -/
def sp_ph (f c : Nat → Int32) (k : Nat) : Int32 := if c k = -1000000005 then f (15 + 6 * k) else sp_held (c k) 0 9
def sp_po (f c : Nat → Int32) : Nat → Nat → Int32
  | 0 => f
  | k + 1 => upd (sp_po f c k) (15 + 6 * k) (sp_ph f c k)
def sp_pn (f c : Nat → Int32) : Nat → Int32
  | 0 => 0
  | k + 1 => sp_pn f c k + (if sp_ph f c k = f (15 + 6 * k) then 0 else 1)
theorem sp_po_ne {c : Nat → Int32} {p : Nat} : ∀ {m : Nat}, (∀ j, j < m → p ≠ 15 + 6 * j) → sp_po f c m p = f p
  | 0, _ => rfl
  | m + 1, h => by rw [sp_po, pk_un (h m (by omega)), sp_po_ne (fun j hj => h j (by omega))]
theorem sp_po_n {c : Nat → Int32} {m : Nat} : sp_n (sp_po f c m) = sp_n f := sp_n_cg (sp_po_ne (fun j _ => by omega))
theorem sp_held9 (x : Int32) : ∃ k, k < 10 ∧ sp_held x 0 9 = nI k := by
  unfold sp_held
  split
  · exact ⟨0, by omega, rfl⟩
  · split
    · exact ⟨9, by omega, rfl⟩
    · rename_i h1 h2
      obtain ⟨j, hj, e⟩ := pl_rng (n := 9) (by omega) h1 h2
      exact ⟨j, by omega, e⟩
theorem sp_W.po {c : Nat → Int32} (hw : sp_W B f) : ∀ {m : Nat}, m ≤ sp_n f → sp_W B (sp_po f c m)
  | 0, _ => hw
  | m + 1, hm => by
    have ih := sp_W.po (c := c) hw (m := m) (by omega)
    rw [sp_po]
    have key : ∃ k, k < 10 ∧ sp_ph f c m = nI k := by
      unfold sp_ph
      split
      · obtain ⟨k, hk, e⟩ := hw.1.2.1 m 4 (by omega) (by omega)
        exact ⟨k, hk, by rw [← e]; congr 1; omega⟩
      · exact sp_held9 _
    obtain ⟨k, hk, e⟩ := key
    have := ih.wet (v := m) (j := 4) (k := k) (by rw [sp_po_n]; omega) (by omega) hk e
    rw [show 11 + 6 * m + 4 = 15 + 6 * m by omega] at this
    exact this
theorem l_pour (h : Inv F g) (v : Int32) : wp_X6_pour F v g (fun r g1 => wp_X7_pour F v g1 (fun r2 g2 => iv_E F r r2 g2)) := by
  have n2 := h.n2
  rcases iv_rng v (n := 3) (by omega) with hv | ⟨i, hi, rfl⟩
  · exact k_sh_n hv (br_y rfl (r_sh_n hv (br_y rfl ⟨rfl, h⟩)))
  have i4 : vp_in (nI i) 4 := pl_in (by omega) (by omega)
  refine k_sh_y hi (br_n ne10 ⟨i4, ?_⟩)
  rw [pl_clamp (by omega)]
  obtain ⟨s1, s2, s3, s4, n, hn, s5⟩ := h.2.2.2.2.1 i (by omega)
  have pre : ∀ (g1 : sv_Mg) (Q : Int32 → sv_Mg → Prop), g1 73 = g 73 → ((0 ≤ (g 73 i) → ∃ n_18, wp_X7_pour_26 F Q n_18 (nI i) 0 0 g1) ∧ (¬ 0 ≤ (g 73 i) → Q (-1000000011) g1)) → wp_X7_pour F (nI i) g1 Q := by
    intro g1 Q e73 q
    refine r_sh_y hi (br_n ne10 ⟨i4, ?_⟩)
    rw [pl_clamp (by omega), e73]; exact q
  by_cases cm : g 73 i = -1
  · exact br_y (by rw [s1]; exact cm) (br_n ne10 (pre g _ rfl (br_n (by rw [cm]; decide) ⟨rfl, h⟩)))
  have c0 : 0 ≤ g 73 i := by
    rcases s4 with z | z | z
    · exact absurd z cm
    · rw [z]; decide
    · rw [z]; decide
  refine br_n (by rw [s1]; exact cm) (br_y rfl ?_)
  obtain ⟨N, hN⟩ : ∃ N, N = if sp_n (g 59) < n then sp_n (g 59) else n := ⟨_, rfl⟩
  have hN2 : N ≤ sp_n (g 59) ∧ N ≤ n ∧ (N = sp_n (g 59) ∨ N = n) := by rw [hN]; split <;> omega
  have ei : ∀ k, ((24 * nI i) + nI k : Int32) = nI (24 * i + k) := fun k => by rw [pl_lit 24, pk_mul, nI_add]
  have ref : ∀ g1, sv_sm (sp_fa 7) g g1 → cr F g1 7 (sp_po (g 59) (fun k => g 75 (24 * i + k)) N) → wp_X7_pour F (nI i) g1 (fun r2 g3 => iv_E F (sp_pn (g 59) (fun k => g 75 (24 * i + k)) N) r2 g3) := by
    intro g1 S1 C1
    have e59 : g1 59 = g 59 := S1 59 (by unfold sp_fa; omega)
    have e74 : g1 74 = g 74 := S1 74 (by unfold sp_fa; omega)
    have e75 : g1 75 = g 75 := S1 75 (by unfold sp_fa; omega)
    refine pre g1 _ (S1 73 (by unfold sp_fa; omega)) (br_y c0 ?_)
    have go : ∀ m k g', k ≤ N → N + 1 ≤ k + m → sv_sm (fun k => k = 59) g1 g' → g' 59 = sp_po (g 59) (fun k => g 75 (24 * i + k)) k → wp_X7_pour_26 F (fun r2 g3 => iv_E F (sp_pn (g 59) (fun k => g 75 (24 * i + k)) N) r2 g3) m (nI i) (sp_pn (g 59) (fun k => g 75 (24 * i + k)) k) (nI k) g' := by
      intro m
      induction m with
      | zero => intro k g' h1 h2; omega
      | succ m ih =>
        intro k g' h1 h2 S e
        have en : g' 59 1 = nI (sp_n (g 59)) := by rw [e, sp_po_ne (fun j _ => by omega)]; exact h.n
        rw [wp_X7_pour_26, pl_clamp (by omega), S 74 (by omega), e74, s5, en, ei, pl_clamp (by omega), S 75 (by omega), e75]
        refine ⟨i4, ?_⟩
        have fin : k = N → iv_E F (sp_pn (g 59) (fun k => g 75 (24 * i + k)) N) (sp_pn (g 59) (fun k => g 75 (24 * i + k)) k) g' := by
          intro ek
          refine ⟨by rw [ek], iv_end h S1 iv_T7 (S.mono (fun k z => Or.inl z)) (f' := sp_po (g 59) (fun k => g 75 (24 * i + k)) N) (by rw [e, ek]) (h.W.po hN2.1) C1 (sp_po_ne (fun j _ => by omega))⟩
        by_cases hk : n ≤ k
        · exact br_y ((pl_le (by omega) (by omega)).mpr hk) (fin (by omega))
        · refine br_n (fun z => hk ((pl_le (by omega) (by omega)).mp z)) ?_
          by_cases hk2 : sp_n (g 59) ≤ k
          · exact br_y ((pl_le (by omega) (by omega)).mpr hk2) (fin (by omega))
          · refine br_n (fun z => hk2 ((pl_le (by omega) (by omega)).mp z)) ⟨pl_in (by omega) (by omega), ?_⟩
            intro v4 e4
            have e15 : g' 59 (15 + 6 * k) = g 59 (15 + 6 * k) := by rw [e, sp_po_ne (fun j _ => by omega)]
            have ein : ((11 + (6 * nI k)) + 4 : Int32) = nI (15 + 6 * k) := by rw [pl_lit 11, pl_lit 6, pl_lit 4, pk_mul, nI_add, nI_add]; congr 1; omega
            have st : ∀ x, x = sp_ph (g 59) (fun k => g 75 (24 * i + k)) k → wp_X7_pour_83 F (fun r2 g3 => iv_E F (sp_pn (g 59) (fun k => g 75 (24 * i + k)) N) r2 g3) (wp_X7_pour_26 F (fun r2 g3 => iv_E F (sp_pn (g 59) (fun k => g 75 (24 * i + k)) N) r2 g3) m) (nI i) (sp_pn (g 59) (fun k => g 75 (24 * i + k)) k) (nI k) x g' := by
              intro x ex
              refine r_becomes (k := 15 + 6 * k) ein (by omega) ?_
              rw [e15]
              have ih2 := ih (k + 1) (sv_st g' 59 (15 + 6 * k) x) (by omega) (by omega) (S.st rfl) (by rw [upd_st, e, ex]; rfl)
              rw [sp_pn, ← ex] at ih2
              refine ⟨fun c => ?_, fun c => ?_⟩
              · rw [if_pos c.symm] at ih2
                intro v2 e2 v3 e3
                rw [e2, e3, nI_1]; exact ih2
              · rw [if_neg (fun z => c z.symm)] at ih2
                intro v2 e2 v3 e3
                rw [e2, e3, nI_1]; exact ih2
            rw [e4]
            refine ⟨fun c => r_of (j := 4) rfl (by omega) (by omega) (st _ ?_), fun c => r_within (st _ ?_)⟩
            · rw [show 11 + 6 * k + 4 = 15 + 6 * k by omega, e15, sp_ph, if_pos c]
            · rw [sp_ph, if_neg c]; rfl
    exact ⟨_, go (N + 1) 0 g1 (Nat.zero_le _) (by omega) sv_sm.rf e59⟩
  have go : ∀ m k g', k ≤ N → N + 1 ≤ k + m → sv_sm (sp_fa 7) g g' → crD F g' 7 (sp_po (g 59) (fun k => g 75 (24 * i + k)) k) (g 59 2) → wp_X6_pour_32 F (fun r g1 => wp_X7_pour F (nI i) g1 (fun r2 g2 => iv_E F r r2 g2)) m (32 + 2 * i) (sp_pn (g 59) (fun k => g 75 (24 * i + k)) k) (nI k) g' := by
    intro m
    induction m with
    | zero => intro k g' h1 h2; omega
    | succ m ih =>
      intro k g' h1 h2 S C
      have k8 : g' 7 8 = nI (sp_n (g 59)) := by rw [C.1.1.1, sp_po_ne (fun j _ => by omega)]; exact h.n
      have e32 : g' (32 + 2 * i) = g (32 + 2 * i) := S _ (by unfold sp_fa; omega)
      have e33 : g' (32 + 2 * i + 1) k = g 75 (24 * i + k) := by
        rw [S _ (by unfold sp_fa; omega), show 32 + 2 * i + 1 = 33 + 2 * i by omega]
        exact (s3 k (by omega)).1
      have fin : k = N → wp_X7_pour F (nI i) g' (fun r2 g2 => iv_E F (sp_pn (g 59) (fun k => g 75 (24 * i + k)) k) r2 g2) := by
        intro ek
        rw [ek] at C ⊢
        refine ref g' S ?_
        unfold cr
        rw [sp_po_ne (fun j _ => by omega)]; exact C
      rw [wp_X6_pour_32, k8, e32, s2, s5]
      by_cases hk2 : sp_n (g 59) ≤ k
      · exact br_y ((pl_le (by omega) (by omega)).mpr hk2) (fin (by omega))
      · refine br_n (fun z => hk2 ((pl_le (by omega) (by omega)).mp z)) ?_
        by_cases hk : n ≤ k
        · exact br_y ((pl_le (by omega) (by omega)).mpr hk) (fin (by omega))
        · refine br_n (fun z => hk ((pl_le (by omega) (by omega)).mp z)) (k_num (n := n) (by rw [e32, s2]; exact s5) hn (by omega) ?_)
          rw [e33]
          have e12 : g' 12 k = g 59 (15 + 6 * k) := by
            have := C.1.2.1.at 4 (15 + 6 * k) 12 (v := k) (by rw [sp_po_n]; omega) (by omega) (by omega) (by omega)
            rw [this, sp_po_ne (fun j _ => by omega)]
          refine ⟨fun c => br_y rfl ?_, fun c => br_n ne10 ⟨pl_in (by omega) (by omega), ?_⟩⟩
          · have ih2 := ih (k + 1) g' (by omega) (by omega) S (by
              have e : sp_po (g 59) (fun k => g 75 (24 * i + k)) (k + 1) = sp_po (g 59) (fun k => g 75 (24 * i + k)) k := by
                have ep : sp_ph (g 59) (fun k => g 75 (24 * i + k)) k = sp_po (g 59) (fun k => g 75 (24 * i + k)) k (15 + 6 * k) := by
                  rw [sp_po_ne (fun j _ => by omega), sp_ph, if_pos c]
                rw [sp_po, ep, upd_id]
              rw [e]; exact C)
            rw [sp_pn, sp_ph, if_pos c, if_pos rfl, Int32.add_zero] at ih2
            intro v4 e4
            rw [e4, nI_1]; exact ih2
          · rw [pl_clamp (by omega)]
            refine k_held (by decide) ⟨pl_in (by omega) (by omega), ?_⟩
            rw [e33, e12]
            have ep : sp_ph (g 59) (fun k => g 75 (24 * i + k)) k = sp_held (g 75 (24 * i + k)) 0 9 := by rw [sp_ph, if_neg c]
            have st : ∀ x, x = (if sp_ph (g 59) (fun k => g 75 (24 * i + k)) k = g 59 (15 + 6 * k) then 0 else 1) → wp_X6_pour_98 F (fun r g1 => wp_X7_pour F (nI i) g1 (fun r2 g2 => iv_E F r r2 g2)) (wp_X6_pour_32 F (fun r g1 => wp_X7_pour F (nI i) g1 (fun r2 g2 => iv_E F r r2 g2)) m) (32 + 2 * i) (nI k) (sp_held (g 75 (24 * i + k)) 0 9) x (sp_pn (g 59) (fun k => g 75 (24 * i + k)) k) g' := by
              intro x ex
              intro v3 e3
              refine ⟨pl_in (by omega) (by omega), ?_⟩
              rw [pl_clamp (by omega)]
              intro g2 e2 v4 e4
              rw [e4, nI_1]
              have := ih (k + 1) g2 (by omega) (by omega) (by rw [e2]; exact S.st ⟨by omega, by omega⟩) (by
                have D := C.wet (v := k) (j := 4) (x := sp_held (g 75 (24 * i + k)) 0 9) h.L sv_C7 (by omega) (by rw [sp_po_n]; exact n2) (by rw [sp_po_n]; omega)
                rw [show 11 + 6 * k + 4 = 15 + 6 * k by omega, show 7 + 1 + 4 = 12 by omega] at D
                rw [e2, sp_po, ep]; exact D)
              rw [sp_pn, ← ex, ← e3] at this
              exact this
            refine ⟨fun cc => st 0 ?_, fun cc => st 1 ?_⟩
            · rw [ep, if_pos cc]
            · rw [ep, if_neg cc]
  exact ⟨_, go (N + 1) 0 g (Nat.zero_le _) (by omega) sv_sm.rf h.C⟩
end CJ
