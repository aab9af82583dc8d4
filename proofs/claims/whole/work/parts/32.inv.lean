/-! THE INVARIANT -/
def sp_worth (k e : Int32) : Int32 := if k = 1 then e + 6 else if k = 2 then 99 - e else if k = 3 then 2 * (e + 6) else if k = 4 then 91 - e else if k = 5 then 2 else e
def iv_num (x : Int32) : Prop := x = -1000000005 ∨ (-99999 ≤ x.toInt ∧ x.toInt ≤ 99999)
def iv_img (F : sv_Fr) (g : sv_Mg) : Prop := (g 0 10 = 0 ∧ g 58 3 = 0) ∨ (g 0 10 = 1 ∧ g 58 3 = 1 ∧ sp_W 9999 (g 60) ∧ cr F g 15 (g 60) ∧ sp_t (g 60) ≤ sp_t (g 59))
def iv_tape (g : sv_Mg) : Prop := ∃ n, n ≤ 96 ∧ g 4 1 = nI n ∧ g 58 8 = nI n ∧ ∀ k, k < n → g 5 k = g 65 k ∧ ∃ b, b < 256 ∧ g 65 k = nI b
def iv_sheet1 (g : sv_Mg) (i : Nat) : Prop := g (32 + 2 * i) 1 = g 73 i ∧ g (32 + 2 * i) 2 = g 74 i ∧ (∀ k, k < 24 → g (33 + 2 * i) k = g 75 (24 * i + k) ∧ iv_num (g 75 (24 * i + k)) ∧ (g 73 i = 0 → g 75 (24 * i + k) ≠ -1000000005)) ∧ (g 73 i = -1 ∨ g 73 i = 0 ∨ g 73 i = 1) ∧ ∃ n, n ≤ 24 ∧ g 74 i = nI n
def iv_sheet (g : sv_Mg) : Prop := ∀ i, i < 4 → iv_sheet1 g i
def iv_slot1 (g : sv_Mg) (i : Nat) : Prop := g (41 + 3 * i) 1 = g 76 i ∧ (g 76 i = 0 ∨ (g 76 i = 1 ∧ g (41 + 3 * i) 2 = g 77 i ∧ (∃ k, k < 6 ∧ g 77 i = nI k) ∧ (∃ k, k < 100 ∧ g (41 + 3 * i) 3 = nI k) ∧ g 78 i = sp_worth (g 77 i) (g (41 + 3 * i) 3)) ∨ (g 76 i = 2 ∧ g (42 + 3 * i) 2 = g 77 i ∧ (∃ n, n ≤ 24 ∧ g 77 i = nI n) ∧ ∀ k, k < 24 → g (43 + 3 * i) k = g 79 (24 * i + k)) ∨ (g 76 i = 3 ∧ g (41 + 3 * i) 4 = g 77 i))
def iv_slot (g : sv_Mg) : Prop := ∀ i, i < 5 → iv_slot1 g i
def iv_wait (g : sv_Mg) : Prop := ∃ n, n ≤ 60 ∧ g 0 9 = nI n ∧ g 58 34 = nI n ∧ ∀ k, k < n → g 56 k = g 81 k
def iv_con (g : sv_Mg) : Prop := (g 67 0 = 0 ∧ g 67 1 = 4 ∧ g 67 2 = 7 ∧ g 67 3 = 11) ∧ g 66 0 = 115 ∧ g 66 1 = 119 ∧ g 66 2 = 97 ∧ g 66 3 = 121 ∧ g 66 4 = 102 ∧ g 66 5 = 101 ∧ g 66 6 = 101 ∧ g 66 7 = 102 ∧ g 66 8 = 105 ∧ g 66 9 = 110 ∧ g 66 10 = 101
def Inv (F : sv_Fr) (g : sv_Mg) : Prop := sv_Lay F ∧ (sp_W 9999 (g 59) ∧ cr F g 7 (g 59)) ∧ iv_img F g ∧ iv_tape g ∧ iv_sheet g ∧ iv_slot g ∧ iv_wait g ∧ iv_con g
section IV
variable {F : sv_Fr} {g g' : sv_Mg}
theorem Inv.L (h : Inv F g) : sv_Lay F := h.1
theorem Inv.W (h : Inv F g) : sp_W 9999 (g 59) := h.2.1.1
theorem Inv.C (h : Inv F g) : cr F g 7 (g 59) := h.2.1.2
theorem Inv.n (h : Inv F g) : g 59 1 = nI (sp_n (g 59)) := h.W.n
theorem Inv.n2 (h : Inv F g) : sp_n (g 59) ≤ 10 := h.W.n2
theorem Inv.k8 (h : Inv F g) : g 7 8 = nI (sp_n (g 59)) := h.C.1.n h.W
theorem Inv.rd (h : Inv F g) : sp_rd g := h.W.rd
/-- cells that no reading call changes, but for those of now -/
def iv_K (k : Nat) : Prop := k = 0 ∨ k = 4 ∨ k = 5 ∨ (15 ≤ k ∧ k ≤ 22) ∨ (31 ≤ k ∧ k ≤ 56) ∨ k = 58 ∨ k = 60 ∨ (65 ≤ k ∧ k ≤ 67) ∨ (73 ≤ k ∧ k ≤ 79) ∨ 81 ≤ k
theorem iv_img.mv (h : iv_img F g) (hL : sv_Lay F) (e0 : g' 0 10 = g 0 10) (e58 : g' 58 3 = g 58 3) (e60 : g' 60 = g 60) (ht : sp_t (g 59) ≤ sp_t (g' 59)) (hk : ∀ k, (15 ≤ k ∧ k ≤ 22) ∨ 82 ≤ k → g' k = g k) : iv_img F g' := by
  rcases h with ⟨h1, h2⟩ | ⟨h1, h2, h3, h4, h5⟩
  · exact Or.inl ⟨e0.trans h1, e58.trans h2⟩
  · refine Or.inr ⟨e0.trans h1, e58.trans h2, by rw [e60]; exact h3, ?_, by rw [e60]; omega⟩
    rw [e60]
    exact h4.mv hL (fun k hk' => hk k (by omega))
theorem iv_tape.mv (h : iv_tape g) (e4 : g' 4 1 = g 4 1) (e5 : g' 5 = g 5) (e58 : g' 58 8 = g 58 8) (e65 : g' 65 = g 65) : iv_tape g' := by
  obtain ⟨n, h1, h2, h3, h4⟩ := h
  refine ⟨n, h1, e4.trans h2, e58.trans h3, ?_⟩
  rw [e5, e65]; exact h4
theorem iv_sheet1.mv {i : Nat} (h : iv_sheet1 g i) (e1 : g' (32 + 2 * i) = g (32 + 2 * i)) (e2 : g' (33 + 2 * i) = g (33 + 2 * i)) (e3 : g' 73 i = g 73 i) (e4 : g' 74 i = g 74 i) (e5 : ∀ k, k < 24 → g' 75 (24 * i + k) = g 75 (24 * i + k)) : iv_sheet1 g' i := by
  obtain ⟨h1, h2, h3, h4, h5⟩ := h
  refine ⟨by rw [e1, e3]; exact h1, by rw [e1, e4]; exact h2, fun k hk => ?_, by rw [e3]; exact h4, by rw [e4]; exact h5⟩
  rw [e2, e5 k hk, e3]; exact h3 k hk
theorem iv_sheet.mv (h : iv_sheet g) (hk : ∀ k, (32 ≤ k ∧ k ≤ 39) ∨ (73 ≤ k ∧ k ≤ 75) → g' k = g k) : iv_sheet g' := by
  intro i hi
  exact (h i hi).mv (hk _ (by omega)) (hk _ (by omega)) (by rw [hk _ (by omega)]) (by rw [hk _ (by omega)]) (fun k _ => by rw [hk 75 (by omega)])
theorem iv_slot1.mv {i : Nat} (h : iv_slot1 g i) (e1 : g' (41 + 3 * i) = g (41 + 3 * i)) (e2 : g' (42 + 3 * i) = g (42 + 3 * i)) (e3 : g' (43 + 3 * i) = g (43 + 3 * i)) (e4 : g' 76 i = g 76 i) (e5 : g' 77 i = g 77 i) (e6 : g' 78 i = g 78 i) (e7 : ∀ k, k < 24 → g' 79 (24 * i + k) = g 79 (24 * i + k)) : iv_slot1 g' i := by
  unfold iv_slot1 at h ⊢
  rw [e1, e2, e3, e4, e5, e6]
  refine ⟨h.1, ?_⟩
  rcases h.2 with h | h | ⟨h1, h2, h3, h4⟩ | h
  · exact Or.inl h
  · exact Or.inr (Or.inl h)
  · exact Or.inr (Or.inr (Or.inl ⟨h1, h2, h3, fun k hk => by rw [e7 k hk]; exact h4 k hk⟩))
  · exact Or.inr (Or.inr (Or.inr h))
theorem iv_slot.mv (h : iv_slot g) (hk : ∀ k, (41 ≤ k ∧ k ≤ 55) ∨ (76 ≤ k ∧ k ≤ 79) → g' k = g k) : iv_slot g' := by
  intro i hi
  exact (h i hi).mv (hk _ (by omega)) (hk _ (by omega)) (hk _ (by omega)) (by rw [hk _ (by omega)]) (by rw [hk _ (by omega)]) (by rw [hk _ (by omega)]) (fun k _ => by rw [hk 79 (by omega)])
theorem iv_wait.mv (h : iv_wait g) (e0 : g' 0 9 = g 0 9) (e56 : g' 56 = g 56) (e58 : g' 58 34 = g 58 34) (e81 : g' 81 = g 81) : iv_wait g' := by
  obtain ⟨n, h1, h2, h3, h4⟩ := h
  refine ⟨n, h1, e0.trans h2, e58.trans h3, ?_⟩
  rw [e56, e81]; exact h4
theorem iv_con.mv (h : iv_con g) (e66 : g' 66 = g 66) (e67 : g' 67 = g 67) : iv_con g' := by
  unfold iv_con; rw [e66, e67]; exact h
theorem Inv.now (h : Inv F g) (hw : sp_W 9999 (g' 59)) (hc : cr F g' 7 (g' 59)) (ht : sp_t (g 59) ≤ sp_t (g' 59)) (hk : ∀ k, iv_K k → g' k = g k) : Inv F g' := by
  obtain ⟨h1, h2, h3, h4, h5, h6, h7, h8⟩ := h
  have k0 : g' 0 = g 0 := hk 0 (by unfold iv_K; omega)
  have k4 : g' 4 = g 4 := hk 4 (by unfold iv_K; omega)
  have k5 : g' 5 = g 5 := hk 5 (by unfold iv_K; omega)
  have k56 : g' 56 = g 56 := hk 56 (by unfold iv_K; omega)
  have k58 : g' 58 = g 58 := hk 58 (by unfold iv_K; omega)
  have k60 : g' 60 = g 60 := hk 60 (by unfold iv_K; omega)
  have k65 : g' 65 = g 65 := hk 65 (by unfold iv_K; omega)
  have k66 : g' 66 = g 66 := hk 66 (by unfold iv_K; omega)
  have k67 : g' 67 = g 67 := hk 67 (by unfold iv_K; omega)
  have k81 : g' 81 = g 81 := hk 81 (by unfold iv_K; omega)
  exact ⟨h1, ⟨hw, hc⟩, h3.mv h1 (by rw [k0]) (by rw [k58]) k60 ht (fun k z => hk k (by unfold iv_K; omega)), h4.mv (by rw [k4]) k5 (by rw [k58]) k65, h5.mv (fun k z => hk k (by unfold iv_K; omega)), h6.mv (fun k z => hk k (by unfold iv_K; omega)), h7.mv (by rw [k0]) k56 (by rw [k58]) k81, h8.mv k66 k67⟩
theorem Inv.same (h : Inv F g) (hk : ∀ k, iv_K k ∨ (7 ≤ k ∧ k ≤ 14) ∨ k = 59 → g' k = g k) : Inv F g' := by
  have e59 : g' 59 = g 59 := hk 59 (by omega)
  refine h.now (by rw [e59]; exact h.W) ?_ (by rw [e59]; exact Nat.le_refl _) (fun k z => hk k (Or.inl z))
  rw [e59]
  exact h.C.mv h.L (fun k z => hk k (by unfold iv_K; omega))
/-- a call's both answers are the same, and the invariant stays -/
def iv_E (F : sv_Fr) (r r2 : Int32) (g : sv_Mg) : Prop := r = r2 ∧ Inv F g
theorem k_in {v l h : Int32} {Q : Int32 → sv_Mg → Prop} (q1 : ¬ v < l ∧ ¬ h < v → Q 1 g) (q0 : v < l ∨ h < v → Q 0 g) : wp_X6_isWithin F v l h g Q := by
  rcases pl_in_iff v l h with z | z
  · exact k_in_y z.1 z.2 (q1 z)
  · exact k_in_n z (q0 z)
/-- an int told to be one of the voters, or none -/
theorem iv_voter (h : Inv F g) (v : Int32) : (v < 0 ∨ nI (sp_n (g 59)) ≤ v) ∨ ∃ i, i < sp_n (g 59) ∧ v = nI i := (pl_ix v (by have := h.n2; omega)).symm
/-- an int in a range, or none -/
theorem iv_rng (v : Int32) {n : Nat} (hn : n < 90000) : (v < 0 ∨ nI n < v) ∨ ∃ i, i ≤ n ∧ v = nI i := by
  rcases pl_in_iff v 0 (nI n) with z | z
  · obtain ⟨j, hj, e⟩ := pl_rng hn z.1 z.2
    exact Or.inr ⟨j, hj, e⟩
  · exact Or.inl z
theorem k_rng_y {v l h : Int32} {i : Nat} (m n : Nat) {Q : Int32 → sv_Mg → Prop} (hv : v = nI i) (hl : l = nI m) (hh : h = nI n) (h1 : m ≤ i) (h2 : i ≤ n) (hn : n < 90000) (q : Q 1 g) : wp_X6_isWithin F v l h g Q := by
  subst hv; subst hl; subst hh
  exact k_in_y (fun z => absurd ((pl_lt (by omega) (by omega)).mp z) (by omega)) (fun z => absurd ((pl_lt (by omega) (by omega)).mp z) (by omega)) q
theorem r_rng_y {v l h : Int32} {i : Nat} (m n : Nat) {Q : Int32 → sv_Mg → Prop} (hv : v = nI i) (hl : l = nI m) (hh : h = nI n) (h1 : m ≤ i) (h2 : i ≤ n) (hn : n < 90000) (q : Q 1 g) : wp_X7_in F v l h g Q := by
  subst hv; subst hl; subst hh
  exact r_in_y (fun z => absurd ((pl_lt (by omega) (by omega)).mp z) (by omega)) (fun z => absurd ((pl_lt (by omega) (by omega)).mp z) (by omega)) q
theorem iv_rng2 (v : Int32) {l n : Nat} (hn : n < 90000) (hl : l ≤ n) : (v < nI l ∨ nI n < v) ∨ ∃ i, l ≤ i ∧ i ≤ n ∧ v = nI i := by
  rcases pl_in_iff v (nI l) (nI n) with z | z
  · obtain ⟨j, h1, h2, e⟩ := pl_rng2 hn hl z.1 z.2
    exact Or.inr ⟨j, h1, h2, e⟩
  · exact Or.inl z
end IV
