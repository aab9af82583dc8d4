/-! CALLS THAT ONLY READ -/
def iv_tp (k : Nat) : Prop := k = 3 ∨ k = 6 ∨ (23 ≤ k ∧ k ≤ 30) ∨ k = 57 ∨ (61 ≤ k ∧ k ≤ 64) ∨ (68 ≤ k ∧ k ≤ 72) ∨ k = 80
section CC
variable {F : sv_Fr} {g : sv_Mg} {a B : Nat} {f : Nat → Int32}
theorem Inv.rdd {g' : sv_Mg} (h : Inv F g) (hS : sv_sm iv_tp g g') : Inv F g' := h.same (fun k hk => hS k (by unfold iv_K at hk; unfold iv_tp; omega))
theorem iv_tp3 {g' : sv_Mg} (h : sv_sm (fun k => k = 3) g g') : sv_sm iv_tp g g' := h.mono (fun k z => by unfold iv_tp; omega)
theorem iv_tp2 {g' : sv_Mg} (h : sv_sm sp_tmp g g') : sv_sm iv_tp g g' := h.mono (fun k z => by unfold sp_tmp at z; unfold iv_tp; omega)
theorem iv_59 {g' : sv_Mg} (h : sv_sm iv_tp g g') : g' 59 = g 59 := h 59 (by unfold iv_tp; omega)
theorem r_worth {i : Nat} {Q : Int32 → sv_Mg → Prop} (hi : i < 10) (q : Q (sp_worth (g 59 (11 + 6 * i)) (g 59 (14 + 6 * i))) g) : wp_X7_worthOf F (nI i) g Q := by
  refine r_of (j := 3) rfl hi (by omega) (r_of (j := 0) rfl hi (by omega) ?_)
  rw [show 11 + 6 * i + 3 = 14 + 6 * i by omega]
  unfold sp_worth at q
  show (g 59 (11 + 6 * i) = 1 → _) ∧ _
  have q := br_ite (P := fun x => Q x g) q
  refine ⟨q.1, fun c => ?_⟩
  have q := br_ite (P := fun x => Q x g) (q.2 c)
  refine ⟨q.1, fun c => ?_⟩
  have q := br_ite (P := fun x => Q x g) (q.2 c)
  refine ⟨q.1, fun c => ?_⟩
  have q := br_ite (P := fun x => Q x g) (q.2 c)
  refine ⟨q.1, fun c => ?_⟩
  exact br_ite (P := fun x => Q x g) (q.2 c)
theorem w91 : ∀ e, e < 100 → ((99 - nI e) - 8 : Int32) = 91 - nI e := by decide +kernel
theorem k_worth {k : Int32} {e : Nat} {Q : Int32 → sv_Mg → Prop} (he : e < 100) (q : Q (sp_worth k (nI e)) g) : wp_X6_worth F k (nI e) g Q := by
  unfold sp_worth at q
  have q := br_ite (P := fun x => Q x g) q
  refine ⟨q.1, fun c => ?_⟩
  have q := br_ite (P := fun x => Q x g) (q.2 c)
  refine ⟨q.1, fun c => ?_⟩
  have q := br_ite (P := fun x => Q x g) (q.2 c)
  refine ⟨q.1, fun c => ?_⟩
  have q := br_ite (P := fun x => Q x g) (q.2 c)
  refine ⟨fun c => ?_, fun c => ?_⟩
  · rw [w91 e he]; exact q.1 c
  exact br_ite (P := fun x => Q x g) (q.2 c)
theorem l_told (h : Inv F g) (v w : Int32) : wp_X6_told F v w g (fun r g1 => wp_X7_told F v w g1 (fun r2 g2 => iv_E F r r2 g2)) := by
  have n2 := h.n2
  rcases iv_voter h v with hv | ⟨i, hi, rfl⟩
  · exact k_voter_n h.k8 hv (br_y rfl (r_voter_n h.n n2 hv (br_y rfl ⟨rfl, h⟩)))
  refine k_voter_y h.k8 n2 hi (br_n ne10 ?_)
  have hi10 : vp_in (nI i) 10 := pl_in (by omega) (by omega)
  have cl : (nI i).toNatClampNeg = i := pl_clamp (by omega)
  rw [cl]
  have cv : ∀ j, j < 5 → g (8 + j) i = g 59 (11 + 6 * i + j) := fun j hj => h.C.1.2.1.at j _ _ hi hj rfl (by omega)
  have c6 : g 13 i = g 59 (11 + 6 * i + 5) := by rw [show 11 + 6 * i + 5 = 16 + 6 * i by omega]; exact h.C.2.1 i hi
  rcases iv_rng w (n := 9) (by omega) with hw | ⟨j, hj, rfl⟩
  · have o : ∀ j, j ≤ 9 → ¬ w = nI j := fun j hj => iv_out (l := 0) hw (by omega) (by omega) hj
    refine br_n (o 0 (by omega)) ?_
    refine br_n (o 1 (by omega)) ?_
    refine br_n (o 2 (by omega)) ?_
    refine br_n (o 3 (by omega)) ?_
    refine br_n (o 4 (by omega)) ?_
    refine br_n (o 5 (by omega)) ?_
    refine br_n (o 6 (by omega)) ?_
    refine br_n (o 7 (by omega)) ?_
    refine br_n (o 8 (by omega)) ?_
    refine br_n (o 9 (by omega)) ?_
    refine r_voter_y h.n n2 hi (br_n ne10 ?_)
    refine br_n (o 0 (by omega)) ?_
    refine br_n (o 1 (by omega)) ?_
    refine br_n (o 2 (by omega)) ?_
    refine br_n (o 3 (by omega)) ?_
    refine br_n (o 4 (by omega)) ?_
    refine br_n (o 5 (by omega)) ?_
    refine br_n (o 6 (by omega)) ?_
    refine br_n (o 7 (by omega)) ?_
    refine br_n (o 8 (by omega)) ?_
    refine br_n (o 9 (by omega)) ?_
    exact ⟨rfl, h⟩
  have hjj : j = 0 ∨ j = 1 ∨ j = 2 ∨ j = 3 ∨ j = 4 ∨ j = 5 ∨ j = 6 ∨ j = 7 ∨ j = 8 ∨ j = 9 := by omega
  rcases hjj with rfl | rfl | rfl | rfl | rfl | rfl | rfl | rfl | rfl | rfl
  · skip
    refine br_y rfl ⟨hi10, r_voter_y h.n n2 hi (br_n ne10 ?_)⟩
    exact br_y rfl (r_of (j := 0) rfl (by omega) (by omega) ⟨cv 0 (by omega), h⟩)
  · skip
    iterate 1 refine br_n (by decide) ?_
    refine br_y rfl ⟨hi10, r_voter_y h.n n2 hi (br_n ne10 ?_)⟩
    iterate 1 refine br_n (by decide) ?_
    exact br_y rfl (r_of (j := 1) rfl (by omega) (by omega) ⟨cv 1 (by omega), h⟩)
  · skip
    iterate 2 refine br_n (by decide) ?_
    refine br_y rfl ⟨hi10, r_voter_y h.n n2 hi (br_n ne10 ?_)⟩
    iterate 2 refine br_n (by decide) ?_
    exact br_y rfl (r_of (j := 2) rfl (by omega) (by omega) ⟨cv 2 (by omega), h⟩)
  · skip
    iterate 3 refine br_n (by decide) ?_
    refine br_y rfl ⟨hi10, r_voter_y h.n n2 hi (br_n ne10 ?_)⟩
    iterate 3 refine br_n (by decide) ?_
    exact br_y rfl (r_of (j := 3) rfl (by omega) (by omega) ⟨cv 3 (by omega), h⟩)
  · skip
    iterate 4 refine br_n (by decide) ?_
    refine br_y rfl ⟨hi10, r_voter_y h.n n2 hi (br_n ne10 ?_)⟩
    iterate 4 refine br_n (by decide) ?_
    exact br_y rfl (r_of (j := 4) rfl (by omega) (by omega) ⟨cv 4 (by omega), h⟩)
  · skip
    iterate 5 refine br_n (by decide) ?_
    refine br_y rfl ⟨hi10, r_voter_y h.n n2 hi (br_n ne10 ?_)⟩
    iterate 5 refine br_n (by decide) ?_
    exact br_y rfl (r_of (j := 5) rfl (by omega) (by omega) ⟨c6, h⟩)
  · skip
    iterate 6 refine br_n (by decide) ?_
    refine br_y rfl ⟨hi10, r_voter_y h.n n2 hi (br_n ne10 ?_)⟩
    iterate 6 refine br_n (by decide) ?_
    exact br_y rfl (r_has h.n n2 ⟨h.C.1.2.2.1 i (by omega), h⟩)
  · skip
    iterate 7 refine br_n (by decide) ?_
    refine br_y rfl (k_runs h.C.1 h.W (k_leader h.C.1 h.W (k_for h.L sv_C7 h.C.1 h.W (by omega) hi (fun g1 hS => ?_))))
    have h1 := h.rdd (iv_tp3 hS)
    have e59 := iv_59 (iv_tp3 hS)
    refine r_voter_y (n := sp_n (g 59)) (by rw [e59]; exact h.n) n2 hi (br_n ne10 ?_)
    iterate 7 refine br_n (by decide) ?_
    exact br_y rfl (r_for h1.rd (by omega) (fun g2 hS2 => ⟨by rw [e59], h1.rdd (iv_tp2 hS2)⟩))
  · skip
    iterate 8 refine br_n (by decide) ?_
    refine br_y rfl ⟨hi10, k_weight (r_voter_y h.n n2 hi (br_n ne10 ?_))⟩
    iterate 8 refine br_n (by decide) ?_
    refine br_y rfl (r_weight (by omega) ⟨?_, h⟩)
    rw [sp_w_I, cv 0 (by omega), Nat.add_zero]
  · skip
    iterate 9 refine br_n (by decide) ?_
    obtain ⟨e, he, ee⟩ := h.W.1.2.1 i 3 hi (by omega)
    have he : e < 100 := he
    refine br_y rfl ⟨hi10, hi10, ?_⟩
    rw [cv 0 (by omega), cv 3 (by omega), ee]
    refine k_worth he (r_voter_y h.n n2 hi (br_n ne10 ?_))
    iterate 9 refine br_n (by decide) ?_
    refine br_y rfl (r_worth (by omega) ⟨?_, h⟩)
    rw [← ee, show 11 + 6 * i + 3 = 14 + 6 * i by omega, show 11 + 6 * i + 0 = 11 + 6 * i by omega]
end CC
