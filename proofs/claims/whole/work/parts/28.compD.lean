/-! A ROUND OF THE SYSTEM'S CONCLAVE; what rounds keep -/
section KD
variable {F : sv_Fr} {g : sv_Mg} {a B : Nat} {f : Nat → Int32}
theorem sp_plain_ok (hw : sp_W B f) {v : Nat} (hv : v < sp_n f) : ∃ k, k < sp_n f ∧ sp_plain f v (sp_runs f) = nI k := by
  have n2 := hw.n2
  obtain ⟨k, hk, ek⟩ := hw.1.2.1 v 1 hv (by omega)
  have ek : f (12 + 6 * v) = nI k := by rw [← ek]; congr 1; omega
  unfold sp_plain
  rw [ek]
  split
  · rename_i h
    exact ⟨k, (sp_runs_ok hw).1 k hk (decide_eq_true h), rfl⟩
  · obtain ⟨b, hb, eb⟩ := sp_lead_some hw (by omega)
    rw [sp_lead hw, eb]
    exact ⟨b, hb, rfl⟩
theorem sp_loyal_ok (hw : sp_W B f) {v : Nat} (hv : v < sp_n f) : ∃ k, k < sp_n f ∧ sp_loyal f v (sp_runs f) = nI k := by
  unfold sp_loyal
  cases e : sp_mo f (sp_runs f &&& sp_party f (f (13 + 6 * v)) (sp_n f)) with
  | none => exact sp_plain_ok hw hv
  | some b => exact ⟨b, sp_mo_lt e, rfl⟩
theorem sp_swayed_ok (hw : sp_W B f) {v : Nat} (hv : v < sp_n f) : ∃ k, k < sp_n f ∧ sp_swayed f v (sp_runs f) = nI k := by
  unfold sp_swayed
  split
  · exact sp_plain_ok hw hv
  · obtain ⟨b, hb, eb⟩ := sp_lead_some hw (by omega)
    rw [sp_lead hw, eb]
    exact ⟨b, hb, rfl⟩
theorem sp_for_ok (hw : sp_W B f) {v : Nat} (hv : v < sp_n f) : sp_v1n (sp_n f) (sp_for f v) := by
  unfold sp_for
  split
  · exact Or.inr (sp_loyal_ok hw hv)
  split
  · exact Or.inr (sp_swayed_ok hw hv)
  split
  · split
    · split
      · exact Or.inr (sp_loyal_ok hw hv)
      · exact Or.inr ⟨v, hv, rfl⟩
    · exact Or.inr (sp_loyal_ok hw hv)
  split
  · split
    · exact Or.inl rfl
    · exact Or.inr (sp_swayed_ok hw hv)
  · exact Or.inr (sp_plain_ok hw hv)
/-- a field of the conclave and its place in the row -/
def sp_pr (p r : Nat) : Prop := (p = 9 ∧ r = 4) ∨ (p = 10 ∧ r = 5) ∨ (p = 11 ∧ r = 6) ∨ (p = 12 ∧ r = 9) ∨ (p = 13 ∧ r = 7) ∨ (p = 14 ∧ r = 3) ∨ (p = 16 ∧ r = 0) ∨ (p = 17 ∧ r = 8)
theorem sp_pr.s {p r : Nat} {x : Int32} (h : sp_pr p r) (hs : cr_s g a f) : cr_s (sv_st g a p x) a (upd f r x) := by
  obtain ⟨s1, s2, s3, s4, s5, s6, s7, s8, s9, s10⟩ := hs
  rcases h with ⟨rfl, rfl⟩ | ⟨rfl, rfl⟩ | ⟨rfl, rfl⟩ | ⟨rfl, rfl⟩ | ⟨rfl, rfl⟩ | ⟨rfl, rfl⟩ | ⟨rfl, rfl⟩ | ⟨rfl, rfl⟩ <;>
  refine ⟨?_, ?_, ?_, ?_, ?_, ?_, ?_, ?_, ?_, ?_⟩ <;> first
    | (rw [st_at, pk_us])
    | (rw [st_nk (by omega), pk_un (by omega)]; assumption)
theorem sp_pr.r {p r : Nat} (h : sp_pr p r) : r < 10 ∧ r ≠ 1 ∧ r ≠ 2 ∧ p ≠ 15 ∧ p ≠ 8 ∧ p ≠ 18 := by
  unfold sp_pr at h; omega
theorem cr_v.st {p : Nat} {r : Nat} {x : Int32} (h : cr_v g a f) (hr : r < 10 ∧ r ≠ 1) : cr_v (sv_st g a p x) a (upd f r x) := by
  intro v j hv hj
  rw [sp_n_cg (f := f) (by rw [pk_un (by omega)])] at hv
  rw [st_ne (by omega), pk_un (by omega)]
  exact h v j hv hj
theorem crD.fld {p r : Nat} {x d : Int32} (h : crD F g a f d) (hL : sv_Lay F) (ha : sv_isC a) (hp : sp_pr p r) : crD F (sv_st g a p x) a (upd f r x) d := by
  have hr := hp.r
  have a75 : a + 7 < 82 := by rcases ha with h | h | h <;> omega
  refine h.cg hL ?_ ?_ (fun q hq => ?_) (fun k hk => ⟨?_, ?_⟩) (fun k hk => ?_) (hp.s h.1.1) (h.1.2.1.st ⟨hr.1, hr.2.1⟩) ?_
  · rw [pk_un (by omega)]
  · rw [pk_un (by omega)]
  · rw [pk_un (by omega)]
  · rw [pk_un (by omega)]
  · rw [pk_un (by omega)]
  · rw [st_ne (by omega)]
  · rw [st_nk (by omega)]; exact h.2.2
theorem crD.day {d x : Int32} (h : crD F g a f d) (hL : sv_Lay F) (hd : g a 15 = x) : crD F g a (upd f 2 x) x := by
  refine h.cg hL ?_ ?_ (fun q hq => ?_) (fun k hk => ⟨?_, ?_⟩) (fun k hk => rfl) ?_ (fun v j hv hj => ?_) hd
  · rw [pk_un (by omega)]
  · rw [pk_un (by omega)]
  · rw [pk_un (by omega)]
  · rw [pk_un (by omega)]
  · rw [pk_un (by omega)]
  · obtain ⟨s1, s2, s3, s4, s5, s6, s7, s8, s9, s10⟩ := h.1.1
    refine ⟨?_, ?_, ?_, ?_, ?_, ?_, ?_, ?_, ?_, ?_⟩ <;> (rw [pk_un (by omega)]; assumption)
  · rw [sp_n_cg (f := f) (by rw [pk_un (by omega)])] at hv
    rw [pk_un (by omega)]
    exact h.1.2.1 v j hv hj
/-! rows after the votes -/
theorem sp_v1_ne {p : Nat} (h3 : p ≠ 3) (h : ∀ j, j < sp_n f → p ≠ 16 + 6 * j) : sp_v1 f p = f p := by
  unfold sp_v1; rw [pk_un h3, sp_vt_ne h]
theorem sp_v1_at {v : Nat} (hv : v < sp_n f) : sp_v1 f (16 + 6 * v) = sp_for f v := by
  unfold sp_v1; rw [pk_un (by omega), sp_vt_at hv]
theorem sp_v1_n : sp_n (sp_v1 f) = sp_n f := sp_n_cg (sp_v1_ne (by omega) (fun j _ => by omega))
theorem sp_v4_ne {p : Nat} (h : p ≠ 0 ∧ p ≠ 7 ∧ p ≠ 8 ∧ p ≠ 9) : sp_v4 f p = sp_v1 f p := by
  unfold sp_v4 sp_v3 sp_v2
  rw [pk_un (by omega), pk_un (by omega), pk_un (by omega), pk_un (by omega)]
theorem sp_v4_n : sp_n (sp_v4 f) = sp_n f := (sp_n_cg (sp_v4_ne (by omega))).trans sp_v1_n
theorem sp_votes_ne {p : Nat} (h : p ≠ 0 ∧ p ≠ 3 ∧ p ≠ 7 ∧ p ≠ 8 ∧ p ≠ 9) (h5 : ∀ j, j < sp_n f → p ≠ 15 + 6 * j) (h6 : ∀ j, j < sp_n f → p ≠ 16 + 6 * j) : sp_votes f p = f p := by
  unfold sp_votes
  rw [sp_wets_ne (by omega) h5, sp_v4_ne (by omega), sp_v1_ne (by omega) h6]
theorem sp_dr_ok (z : Int32) : ∃ n, n < 2 ^ 24 ∧ sp_dr z = nI n := by
  have h := pk_ushr z 8 8 (by decide)
  refine ⟨z.toBitVec.toNat / 2 ^ 8, ?_, ?_⟩
  · have := z.toBitVec.isLt
    omega
  · unfold sp_dr
    apply Int32.toBitVec_inj.mp
    apply BitVec.eq_of_toNat_eq
    rw [h, pk_tn]
    have := z.toBitVec.isLt
    omega
theorem sp_rem_ok (z : Int32) {m : Nat} (hm : 0 < m) (hm2 : m < 100000) : ∃ k, k < m ∧ sp_rem (sp_dr z) (nI m) = nI k := by
  obtain ⟨n, hn, e⟩ := sp_dr_ok z
  refine ⟨n % m, Nat.mod_lt _ hm, ?_⟩
  unfold sp_rem
  rw [e, pk_rem (by omega) hm (by omega)]
theorem sp_el_ok {n : Nat} : ∀ {m : Nat} {c : Int32}, m ≤ n → sp_v1n n c → sp_v1n n (sp_el f m c)
  | 0, _, _, h => h
  | m + 1, c, hm, h => by
    rw [sp_el]
    refine sp_el_ok (by omega) ?_
    split
    · exact h
    · exact Or.inr ⟨m, by omega, rfl⟩
theorem sp_smk_ok (c d : Int32) : ∃ k, k < 4 ∧ sp_smk c d = nI k := by
  unfold sp_smk
  split
  · split
    · split
      · exact ⟨3, by omega, rfl⟩
      · exact ⟨2, by omega, rfl⟩
    · exact ⟨1, by omega, rfl⟩
  · exact ⟨0, by omega, rfl⟩
theorem sp_wets_at {T : Nat → Int32} {v : Nat} : ∀ i, sp_wets T i f (15 + 6 * v) = f (15 + 6 * v) ∨ ∃ z, sp_wets T i f (15 + 6 * v) = sp_rem (sp_dr z) 10
  | 0 => Or.inl rfl
  | i + 1 => by
    rw [sp_wets]
    split
    · exact sp_wets_at i
    · by_cases e : v = i
      · subst e; rw [pk_us]; exact Or.inr ⟨_, rfl⟩
      · rw [pk_un (by omega), pk_un (by omega)]; exact sp_wets_at i
theorem sp_wt.cg {f' : Nat → Int32} (h : sp_wt f) (h10 : f' 10 = f 10) (h71 : ∀ p, 71 ≤ p → f' p = f p) : sp_wt f' := by
  intro t ht
  have et : sp_t f' = sp_t f := by unfold sp_t; rw [h10]
  obtain ⟨k, m, h1, h2, h3, h4⟩ := h t (by omega)
  refine ⟨k, m, h1, h2, by rw [h71 _ (by omega)]; exact h3, ?_⟩
  have e : (fun k => f' (99 + 96 * t + k)) = fun k => f (99 + 96 * t + k) := by
    funext k; rw [h71 _ (by omega)]
  rw [e]; exact h4
theorem sp_votes_71 (hw : sp_W B f) {p : Nat} (hp : 71 ≤ p) : sp_votes f p = f p := by
  have := hw.n2
  exact sp_votes_ne (by omega) (fun j _ => by omega) (fun j _ => by omega)
theorem sp_W.day {r d : Nat} (hw : sp_W B f) (h3 : f 3 = nI r) (hr : r ≤ d) (hd : d ≤ B) {B' : Nat} (hd2 : d ≤ B') : sp_W B' (upd f 2 (nI d)) := by
  have en : sp_n (upd f 2 (nI d)) = sp_n f := sp_n_cg (by rw [pk_un (by omega)])
  have et : sp_t (upd f 2 (nI d)) = sp_t f := by unfold sp_t; rw [pk_un (by omega)]
  obtain ⟨⟨w1, w2⟩, w3, w4, w5, w6, w7, w8, w9⟩ := hw.1
  refine ⟨⟨?_, ?_, ?_, ?_, ?_, ?_, ⟨r, d, ?_, pk_us, hr, hd2⟩, ?_⟩, hw.2.cg (by rw [pk_un (by omega)]) (fun p hp => by rw [pk_un (by omega)])⟩
  · rw [en, pk_un (by omega)]; exact ⟨w1, w2⟩
  · rw [en]
    intro v j hv hj
    rw [pk_un (by omega)]; exact w3 v j hv hj
  · rw [en]
    intro v hv
    rw [pk_un (by omega)]; exact w4 v hv
  · rw [pk_un (by omega), pk_un (by omega), pk_un (by omega)]; exact w5
  · rw [en, pk_un (by omega)]; exact w6
  · rw [pk_un (by omega), pk_un (by omega)]; exact w7
  · rw [pk_un (by omega)]; exact h3
  · rw [et, pk_un (by omega)]; exact w9
theorem sp_W.up {B' : Nat} (hw : sp_W B f) (h : B ≤ B') : sp_W B' f := by
  obtain ⟨⟨w12, w3, w4, w5, w6, w7, ⟨r, d, w81, w82, w83, w84⟩, w9⟩, wt⟩ := hw
  exact ⟨⟨w12, w3, w4, w5, w6, w7, ⟨r, d, w81, w82, w83, by omega⟩, w9⟩, wt⟩
theorem sp_W.votes (hw : sp_W B f) : sp_n (sp_votes f) = sp_n f ∧ sp_t (sp_votes f) = sp_t f ∧ ∃ r d, sp_votes f 3 = nI (r + 1) ∧ sp_votes f 2 = nI d ∧ r ≤ d ∧ d ≤ B ∧ (∀ B', d + 1 ≤ B' → sp_W B' (upd (sp_votes f) 2 (nI (d + 1)))) := by
  have n2 := hw.n2
  have en : sp_n (sp_votes f) = sp_n f := sp_n_cg (sp_votes_ne (by omega) (fun j _ => by omega) (fun j _ => by omega))
  have et : sp_t (sp_votes f) = sp_t f := by unfold sp_t; rw [sp_votes_ne (by omega) (fun j _ => by omega) (fun j _ => by omega)]
  obtain ⟨⟨w1, w2⟩, w3, w4, w5, w6, w7, ⟨r, d, w81, w82, w83, w84⟩, w9⟩ := hw.1
  have e3 : sp_votes f 3 = nI (r + 1) := by
    unfold sp_votes
    rw [sp_wets_ne (by omega) (fun j _ => by omega), sp_v4_ne (by omega)]
    unfold sp_v1
    rw [pk_us, w81, nI_1]
  have e2 : sp_votes f 2 = nI d := by rw [sp_votes_ne (by omega) (fun j _ => by omega) (fun j _ => by omega)]; exact w82
  refine ⟨en, et, r, d, e3, e2, w83, w84, fun B' hB' => ?_⟩
  have en' : sp_n (upd (sp_votes f) 2 (nI (d + 1))) = sp_n f := (sp_n_cg (by rw [pk_un (by omega)])).trans en
  have et' : sp_t (upd (sp_votes f) 2 (nI (d + 1))) = sp_t f := by unfold sp_t at et ⊢; rw [pk_un (by omega)]; exact et
  refine ⟨⟨?_, ?_, ?_, ?_, ?_, ?_, ⟨r + 1, d + 1, ?_, pk_us, by omega, hB'⟩, ?_⟩, hw.2.cg ?_ (fun p hp => ?_)⟩
  · rw [en', pk_un (by omega), sp_votes_ne (by omega) (fun j _ => by omega) (fun j _ => by omega)]; exact ⟨w1, w2⟩
  · rw [en']
    intro v j hv hj
    rw [pk_un (by omega)]
    by_cases ej : j = 4
    · subst ej
      rw [show 11 + 6 * v + 4 = 15 + 6 * v by omega]
      unfold sp_votes
      rcases sp_wets_at (f := sp_v4 f) (T := sp_for f) (v := v) (sp_n f) with e | ⟨z, e⟩
      · rw [e, sp_v4_ne (by omega), sp_v1_ne (by omega) (fun j _ => by omega)]
        have := w3 v 4 hv (by omega)
        rw [show 11 + 6 * v + 4 = 15 + 6 * v by omega] at this
        exact this
      · rw [e]
        exact sp_rem_ok z (m := 10) (by omega) (by omega)
    · rw [sp_votes_ne (by omega) (fun j _ => by omega) (fun j _ => by omega)]
      exact w3 v j hv hj
  · rw [en']
    intro v hv
    rw [pk_un (by omega)]
    unfold sp_votes
    rw [sp_wets_ne (by omega) (fun j _ => by omega), sp_v4_ne (by omega), sp_v1_at hv]
    exact sp_for_ok hw hv
  · rw [pk_un (by omega), pk_un (by omega), pk_un (by omega), sp_votes_ne (by omega) (fun j _ => by omega) (fun j _ => by omega), sp_votes_ne (by omega) (fun j _ => by omega) (fun j _ => by omega), sp_votes_ne (by omega) (fun j _ => by omega) (fun j _ => by omega)]
    exact w5
  · rw [en', pk_un (by omega)]
    unfold sp_votes
    rw [sp_wets_ne (by omega) (fun j _ => by omega)]
    unfold sp_v4 sp_v3 sp_v2
    rw [pk_un (by omega), pk_un (by omega), pk_un (by omega), pk_us]
    exact sp_el_ok (Nat.le_refl _) w6
  · rw [pk_un (by omega), pk_un (by omega)]
    unfold sp_votes
    rw [sp_wets_ne (by omega) (fun j _ => by omega), sp_wets_ne (by omega) (fun j _ => by omega)]
    unfold sp_v4
    rw [pk_us, pk_un (by omega), pk_un (by omega)]
    unfold sp_v3
    rw [pk_us]
    exact ⟨sp_smk_ok _ _, sp_rem_ok _ (m := 4) (by omega) (by omega)⟩
  · rw [pk_un (by omega)]; exact e3
  · rw [et', pk_un (by omega), sp_votes_ne (by omega) (fun j _ => by omega) (fun j _ => by omega)]; exact w9
  · rw [pk_un (by omega), sp_votes_ne (by omega) (fun j _ => by omega) (fun j _ => by omega)]
  · rw [pk_un (by omega), sp_votes_71 hw hp]
theorem sp_W.round (hw : sp_W B f) : sp_W (B + 1) (sp_round f) := by
  unfold sp_round
  split
  · obtain ⟨r, d, h3, h2, hrd, hd⟩ := hw.1.2.2.2.2.2.2.1
    rw [h2, nI_1]
    exact (hw.up (B' := B + 1) (by omega)).day h3 (by omega) (by omega) (by omega)
  · obtain ⟨-, -, r, d, h3, h2, hrd, hd, h⟩ := hw.votes
    rw [h2, nI_1]
    exact h (B + 1) (by omega)
theorem sp_round_day (hw : sp_W B f) : sp_round f 2 = f 2 + 1 := by
  unfold sp_round
  split
  · exact pk_us
  · rw [pk_us, sp_votes_ne (by omega) (fun j _ => by omega) (fun j _ => by omega)]
theorem sp_round_n (hw : sp_W B f) : sp_n (sp_round f) = sp_n f := by
  unfold sp_round
  split
  · exact sp_n_cg (by rw [pk_un (by omega)])
  · exact (sp_n_cg (by rw [pk_un (by omega)])).trans hw.votes.1
theorem sp_round_71 (hw : sp_W B f) {p : Nat} (hp : 71 ≤ p) : sp_round f p = f p := by
  unfold sp_round
  split
  · rw [pk_un (by omega)]
  · rw [pk_un (by omega), sp_votes_71 hw hp]
end KD
