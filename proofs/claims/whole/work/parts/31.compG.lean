/-! ROWS THAT AGREE BELOW 1443; a voter comes; all starts over -/
theorem sp_dep_cg {c c' : Nat → Int32} : ∀ {k : Nat}, (∀ j, j < k → c' j = c j) → sp_dep c' k = sp_dep c k
  | 0, _ => rfl
  | k + 1, h => by
    rw [sp_dep, sp_dep, sp_dep_cg (fun j hj => h j (by omega)), h k (by omega)]
theorem sp_okc.cg {nx m : Nat} {c c' : Nat → Int32} (h : sp_okc nx c m) (hc : ∀ j, j < m → c' j = c j) : sp_okc nx c' m := by
  refine ⟨by rw [sp_dep_cg hc]; exact h.1, fun k hk => ?_⟩
  rw [hc k hk, sp_dep_cg (fun j hj => hc j (by omega))]
  exact h.2 k hk
section KG
variable {F : sv_Fr} {g : sv_Mg} {a a1 B : Nat} {f f' : Nat → Int32}
def sp_43 (f f' : Nat → Int32) : Prop := ∀ p, p < 1443 → f' p = f p
theorem sp_W.c43 (hw : sp_W B f) (h : sp_43 f f') : sp_W B f' := by
  have en : sp_n f' = sp_n f := sp_n_cg (h 1 (by omega))
  have et : sp_t f' = sp_t f := by unfold sp_t; rw [h 10 (by omega)]
  obtain ⟨⟨w1, w2⟩, w3, w4, ⟨w51, w52, w53⟩, w6, ⟨w71, w72⟩, ⟨r', d, w81, w82, w83, w84⟩, ⟨w91, w92⟩⟩ := hw.1
  refine ⟨⟨?_, ?_, ?_, ⟨?_, ?_, ?_⟩, ?_, ⟨?_, ?_⟩, ⟨r', d, ?_, ?_, w83, w84⟩, ?_⟩, fun t ht => ?_⟩
  · rw [en, h _ (by omega)]; exact ⟨w1, w2⟩
  · rw [en]
    intro v' j' hv' hj'
    rw [h _ (by omega)]; exact w3 v' j' hv' hj'
  · rw [en]
    intro v' hv'
    rw [h _ (by omega)]; exact w4 v' hv'
  · rw [h _ (by omega)]; exact w51
  · rw [h _ (by omega)]; exact w52
  · rw [h _ (by omega)]; exact w53
  · rw [en, h _ (by omega)]; exact w6
  · rw [h _ (by omega)]; exact w71
  · rw [h _ (by omega)]; exact w72
  · rw [h _ (by omega)]; exact w81
  · rw [h _ (by omega)]; exact w82
  · rw [et, h _ (by omega)]; exact ⟨w91, w92⟩
  · rw [et] at ht
    obtain ⟨k, m, h1, h2, h3, h4⟩ := hw.2 t ht
    exact ⟨k, m, h1, h2, by rw [h _ (by omega)]; exact h3, h4.cg (fun j hj => h _ (by omega))⟩
theorem sp_43.lenk (h : sp_43 f f') {t : Nat} (ht : t < 14) : sp_key f' t = sp_key f t ∧ sp_len f' t = sp_len f t := by
  unfold sp_key sp_len
  rw [h _ (by omega)]
  exact ⟨rfl, rfl⟩
theorem sp_W.len (hw : sp_W B f) {t : Nat} (ht : t < sp_t f) : sp_len f t ≤ 96 ∧ sp_key f t < 3 := by
  obtain ⟨k, m, h1, h2, h3, h4⟩ := hw.2 t ht
  have := sp_key_of h3 h1 h2
  omega
theorem cr.c43 (hc : cr F g a f) (hw : sp_W B f) (h : sp_43 f f') : cr F g a f' := by
  have n2 := hw.n2
  have t2 := hw.t2
  have en : sp_n f' = sp_n f := sp_n_cg (h 1 (by omega))
  have et : sp_t f' = sp_t f := by unfold sp_t; rw [h 10 (by omega)]
  obtain ⟨⟨⟨s1, s2, s3, s4, s5, s6, s7, s8, s9, s10⟩, c2, c3, c4⟩, c5, c6⟩ := hc
  refine ⟨⟨⟨?_, ?_, ?_, ?_, ?_, ?_, ?_, ?_, ?_, ?_⟩, fun v j hv hj => ?_, fun u hu => ?_, fun t ht => ?_⟩, fun v hv => ?_, ?_⟩
  · rw [h _ (by omega)]; exact s1
  · rw [h _ (by omega)]; exact s2
  · rw [h _ (by omega)]; exact s3
  · rw [h _ (by omega)]; exact s4
  · rw [h _ (by omega)]; exact s5
  · rw [h _ (by omega)]; exact s6
  · rw [h _ (by omega)]; exact s7
  · rw [h _ (by omega)]; exact s8
  · rw [h _ (by omega)]; exact s9
  · rw [h _ (by omega)]; exact s10
  · rw [h _ (by omega)]; exact c2 v j (by omega) hj
  · rw [sp_hv_cg (f := f) (h 1 (by omega)) (fun k hk => ⟨h _ (by omega), h _ (by omega)⟩)]; exact c3 u hu
  · rw [et] at ht
    obtain ⟨q, e1, e2, e3, e4, e5⟩ := c4 t ht
    obtain ⟨k1, k2⟩ := h.lenk (t := t) (by omega)
    have hl := (hw.len ht).1
    refine ⟨q, e1, by rw [k1]; exact e2, by rw [h _ (by omega)]; exact e3, by rw [k2]; exact e4, fun k hk => ?_⟩
    rw [k2] at hk
    rw [h _ (by omega)]; exact e5 k hk
  · rw [h _ (by omega)]; exact c5 v (by omega)
  · rw [h _ (by omega)]; exact c6
/-- a row with one voter more -/
def sp_come (f : Nat → Int32) (k l p e : Int32) : Nat → Int32 := upd (upd (upd (upd (upd (upd (upd f 1 (nI (sp_n f + 1))) (11 + 6 * sp_n f) k) (12 + 6 * sp_n f) l) (13 + 6 * sp_n f) p) (14 + 6 * sp_n f) e) (15 + 6 * sp_n f) 3) (16 + 6 * sp_n f) (-1)
theorem sp_come_ne {k l p e : Int32} {r : Nat} (h1 : r ≠ 1) (h2 : r < 11 + 6 * sp_n f ∨ 16 + 6 * sp_n f < r) : sp_come f k l p e r = f r := by
  unfold sp_come
  rw [pk_un (by omega), pk_un (by omega), pk_un (by omega), pk_un (by omega), pk_un (by omega), pk_un (by omega), pk_un (by omega)]
theorem sp_come_n {k l p e : Int32} (n2 : sp_n f < 10) : sp_come f k l p e 1 = nI (sp_n f + 1) ∧ sp_n (sp_come f k l p e) = sp_n f + 1 := by
  have e1 : sp_come f k l p e 1 = nI (sp_n f + 1) := by
    unfold sp_come
    rw [pk_un (by omega), pk_un (by omega), pk_un (by omega), pk_un (by omega), pk_un (by omega), pk_un (by omega), pk_us]
  refine ⟨e1, ?_⟩
  rw [sp_n, e1, pl_clamp (by omega)]
theorem sp_come_at (k l p e : Int32) : sp_come f k l p e (11 + 6 * sp_n f) = k ∧ sp_come f k l p e (12 + 6 * sp_n f) = l ∧ sp_come f k l p e (13 + 6 * sp_n f) = p ∧ sp_come f k l p e (14 + 6 * sp_n f) = e ∧ sp_come f k l p e (15 + 6 * sp_n f) = 3 ∧ sp_come f k l p e (16 + 6 * sp_n f) = -1 := by
  unfold sp_come
  refine ⟨?_, ?_, ?_, ?_, ?_, ?_⟩
  · rw [pk_un (by omega), pk_un (by omega), pk_un (by omega), pk_un (by omega), pk_un (by omega), pk_us]
  · rw [pk_un (by omega), pk_un (by omega), pk_un (by omega), pk_un (by omega), pk_us]
  · rw [pk_un (by omega), pk_un (by omega), pk_un (by omega), pk_us]
  · rw [pk_un (by omega), pk_un (by omega), pk_us]
  · rw [pk_un (by omega), pk_us]
  · rw [pk_us]
theorem sp_has_0 {v : Int32} : ∀ {m : Nat}, (∀ k, k < m → f (16 + 6 * k) ≠ v) → sp_has f v m = 0
  | 0, _ => rfl
  | m + 1, h => by rw [sp_has, if_neg (h m (by omega)), sp_has_0 (fun k hk => h k (by omega))]
theorem sp_W.come {k l p e : Nat} (hw : sp_W B f) (n2 : sp_n f < 10) (hk : k < 6) (hl : l < 10) (hp : p < 4) (he : e < 100) : sp_W B (sp_come f (nI k) (nI l) (nI p) (nI e)) := by
  obtain ⟨e1, en⟩ := sp_come_n (f := f) (k := nI k) (l := nI l) (p := nI p) (e := nI e) n2
  obtain ⟨a1, a2, a3, a4, a5, a6⟩ := sp_come_at (f := f) (nI k) (nI l) (nI p) (nI e)
  have et : sp_t (sp_come f (nI k) (nI l) (nI p) (nI e)) = sp_t f := by unfold sp_t; rw [sp_come_ne (by omega) (by omega)]
  obtain ⟨⟨w1, w2⟩, w3, w4, ⟨w51, w52, w53⟩, w6, ⟨w71, w72⟩, ⟨r', d, w81, w82, w83, w84⟩, ⟨w91, w92⟩⟩ := hw.1
  refine ⟨⟨?_, ?_, ?_, ⟨?_, ?_, ?_⟩, ?_, ⟨?_, ?_⟩, ⟨r', d, ?_, ?_, w83, w84⟩, ?_⟩, hw.2.cg (sp_come_ne (by omega) (by omega)) (fun q hq => sp_come_ne (by omega) (by omega))⟩
  · rw [en, e1]; exact ⟨rfl, by omega⟩
  · rw [en]
    intro v' j' hv' hj'
    by_cases ev : v' = sp_n f
    · subst ev
      have : j' = 0 ∨ j' = 1 ∨ j' = 2 ∨ j' = 3 ∨ j' = 4 := by omega
      rcases this with rfl | rfl | rfl | rfl | rfl
      · exact ⟨k, hk, a1⟩
      · exact ⟨l, hl, by rw [show 11 + 6 * sp_n f + 1 = 12 + 6 * sp_n f by omega]; exact a2⟩
      · exact ⟨p, hp, by rw [show 11 + 6 * sp_n f + 2 = 13 + 6 * sp_n f by omega]; exact a3⟩
      · exact ⟨e, he, by rw [show 11 + 6 * sp_n f + 3 = 14 + 6 * sp_n f by omega]; exact a4⟩
      · exact ⟨3, by decide, by rw [show 11 + 6 * sp_n f + 4 = 15 + 6 * sp_n f by omega]; exact a5⟩
    · rw [sp_come_ne (by omega) (by omega)]; exact w3 v' j' (by omega) hj'
  · rw [en]
    intro v' hv'
    by_cases ev : v' = sp_n f
    · subst ev; exact Or.inl a6
    · rw [sp_come_ne (by omega) (by omega)]
      rcases w4 v' (by omega) with q | ⟨q, hq, eq⟩
      · exact Or.inl q
      · exact Or.inr ⟨q, by omega, eq⟩
  · rw [sp_come_ne (by omega) (by omega)]; exact w51
  · rw [sp_come_ne (by omega) (by omega)]; exact w52
  · rw [sp_come_ne (by omega) (by omega)]; exact w53
  · rw [en, sp_come_ne (by omega) (by omega)]
    rcases w6 with q | ⟨q, hq, eq⟩
    · exact Or.inl q
    · exact Or.inr ⟨q, by omega, eq⟩
  · rw [sp_come_ne (by omega) (by omega)]; exact w71
  · rw [sp_come_ne (by omega) (by omega)]; exact w72
  · rw [sp_come_ne (by omega) (by omega)]; exact w81
  · rw [sp_come_ne (by omega) (by omega)]; exact w82
  · rw [et, sp_come_ne (by omega) (by omega)]; exact ⟨w91, w92⟩
theorem r_comes {k l p e : Int32} {Q : Int32 → sv_Mg → Prop} (hn : g 59 1 = nI (sp_n (g 59))) (n2 : sp_n (g 59) < 10) (q : ∀ g', sv_sm (fun k => k = 59) g g' → g' 59 = sp_come (g 59) k l p e → Q (nI (sp_n (g 59))) g') : wp_X7_comes F k l p e g Q := by
  intro v5 e5 g2 e2
  rw [e5, hn] at *
  generalize hN : sp_n (g 59) = n at *
  refine r_put (j := 0) rfl (by omega) (by omega) (r_put (j := 1) rfl (by omega) (by omega) (r_put (j := 2) rfl (by omega) (by omega) (r_put (j := 3) rfl (by omega) (by omega) (r_put (j := 4) rfl (by omega) (by omega) (r_put (j := 5) rfl (by omega) (by omega) ?_)))))
  refine q _ ?_ ?_
  · rw [e2]
    have h0 : sv_sm (fun k => k = 59) g g := sv_sm.rf
    exact ((((((h0.st rfl).st rfl).st rfl).st rfl).st rfl).st rfl).st rfl
  · rw [upd_st, upd_st, upd_st, upd_st, upd_st, upd_st, e2, upd_st]
    unfold sp_come
    rw [hN, nI_1, show 11 + 6 * n + 0 = 11 + 6 * n by omega, show 11 + 6 * n + 1 = 12 + 6 * n by omega, show 11 + 6 * n + 2 = 13 + 6 * n by omega, show 11 + 6 * n + 3 = 14 + 6 * n by omega, show 11 + 6 * n + 4 = 15 + 6 * n by omega, show 11 + 6 * n + 5 = 16 + 6 * n by omega]
theorem k_enter {k l p e : Int32} {Q : sv_Mg → Prop} (hL : sv_Lay F) (ha : sv_isC a) (hc : cr F g a f) (hw : sp_W B f) (n2 : sp_n f < 10) (q : ∀ g', sv_sm (sp_fa a) g g' → cr F g' a (sp_come f k l p e) → Q g') : wp_X0_enter F a k l p e g Q := by
  have a75 : a + 7 < 82 := by rcases ha with h | h | h <;> omega
  have e8 : g a 8 = nI (sp_n f) := hc.1.n hw
  have hin : vp_in (nI (sp_n f)) 10 := pl_in (by omega) (by omega)
  have hcl : (nI (sp_n f)).toNatClampNeg = sp_n f := pl_clamp (by omega)
  obtain ⟨e1, en⟩ := sp_come_n (f := f) (k := k) (l := l) (p := p) (e := e) n2
  obtain ⟨a1, a2, a3, a4, a5, a6⟩ := sp_come_at (f := f) k l p e
  unfold wp_X0_enter
  rw [e8, hcl]
  refine br_y ((pl_lt (b := 10) (by omega) (by omega)).mpr n2) ⟨hin, fun g1 eg1 => ?_⟩
  have c1 : g1 a 8 = nI (sp_n f) := by rw [eg1, st_ne (by omega)]; exact e8
  rw [c1, hcl]
  refine ⟨hin, fun g2 eg2 => ?_⟩
  have c2 : g2 a 8 = nI (sp_n f) := by rw [eg2, st_ne (by omega)]; exact c1
  rw [c2, hcl]
  refine ⟨hin, fun g3 eg3 => ?_⟩
  have c3 : g3 a 8 = nI (sp_n f) := by rw [eg3, st_ne (by omega)]; exact c2
  rw [c3, hcl]
  refine ⟨hin, fun g4 eg4 => ?_⟩
  have c4 : g4 a 8 = nI (sp_n f) := by rw [eg4, st_ne (by omega)]; exact c3
  rw [c4, hcl]
  refine ⟨hin, fun g5 eg5 => ?_⟩
  have c5 : g5 a 8 = nI (sp_n f) := by rw [eg5, st_ne (by omega)]; exact c4
  rw [c5, hcl]
  refine ⟨hin, fun g6 eg6 => ?_⟩
  have c6 : g6 a 8 = nI (sp_n f) := by rw [eg6, st_ne (by omega)]; exact c5
  rw [c6, hcl]
  refine ⟨hin, fun g7 eg7 => ?_⟩
  have c7 : g7 a 8 = nI (sp_n f) := by rw [eg7, st_ne (by omega)]; exact c6
  rw [c7, nI_1]
  intro g8 eg8
  have rj : ∀ j, j ≤ 7 → sp_fa a (a + j) := fun j hj => ⟨by omega, by omega⟩
  have hS : sv_sm (sp_fa a) g g8 := by
    rw [eg8, eg7, eg6, eg5, eg4, eg3, eg2, eg1]
    exact (((((((sv_sm.rf.st (rj 1 (by omega))).st (rj 2 (by omega))).st (rj 3 (by omega))).st (rj 4 (by omega))).st (rj 5 (by omega))).st (rj 6 (by omega))).st (rj 7 (by omega))).st (rj 0 (by omega))
  refine q g8 hS ?_
  have ga : ∀ r, r ≠ 8 → g8 a r = g a r := fun r hr => by
    rw [eg8, st_nk hr, eg7, st_ne (by omega), eg6, st_ne (by omega), eg5, st_ne (by omega), eg4, st_ne (by omega), eg3, st_ne (by omega), eg2, st_ne (by omega), eg1, st_ne (by omega)]
  have gj : ∀ v, v ≠ sp_n f → ∀ j, 1 ≤ j → j ≤ 7 → g8 (a + j) v = g (a + j) v := by
    intro v hv j h1 h2
    have step : ∀ (h h' : sv_Mg) (i : Nat) (x : Int32), h' = sv_st h (a + i) (sp_n f) x → h' (a + j) v = h (a + j) v := by
      intro h h' i x eh
      rw [eh]
      by_cases ei : j = i
      · subst ei; exact st_nk hv
      · rw [st_ne (by omega)]
    rw [eg8, st_ne (by omega), step g6 g7 7 0 eg7, step g5 g6 6 (-1) eg6, step g4 g5 5 3 eg5, step g3 g4 4 e eg4, step g2 g3 3 p eg3, step g1 g2 2 l eg2, step g g1 1 k eg1]
  have n1 : g8 (a + 1) (sp_n f) = k := by
    rw [eg8, st_ne (by omega), eg7, st_ne (by omega), eg6, st_ne (by omega), eg5, st_ne (by omega), eg4, st_ne (by omega), eg3, st_ne (by omega), eg2, st_ne (by omega), eg1, st_at]
  have n2' : g8 (a + 2) (sp_n f) = l := by
    rw [eg8, st_ne (by omega), eg7, st_ne (by omega), eg6, st_ne (by omega), eg5, st_ne (by omega), eg4, st_ne (by omega), eg3, st_ne (by omega), eg2, st_at]
  have n3 : g8 (a + 3) (sp_n f) = p := by
    rw [eg8, st_ne (by omega), eg7, st_ne (by omega), eg6, st_ne (by omega), eg5, st_ne (by omega), eg4, st_ne (by omega), eg3, st_at]
  have n4 : g8 (a + 4) (sp_n f) = e := by
    rw [eg8, st_ne (by omega), eg7, st_ne (by omega), eg6, st_ne (by omega), eg5, st_ne (by omega), eg4, st_at]
  have n5 : g8 (a + 5) (sp_n f) = 3 := by
    rw [eg8, st_ne (by omega), eg7, st_ne (by omega), eg6, st_ne (by omega), eg5, st_at]
  have n6 : g8 (a + 6) (sp_n f) = -1 := by
    rw [eg8, st_ne (by omega), eg7, st_ne (by omega), eg6, st_at]
  have n7 : g8 (a + 7) (sp_n f) = 0 := by
    rw [eg8, st_ne (by omega), eg7, st_at]
  obtain ⟨⟨⟨s1, s2, s3, s4, s5, s6, s7, s8, s9, s10⟩, d2, d3, d4⟩, d5, d6⟩ := hc
  have hvc : ∀ u, u < 10 → sp_hv (sp_come f k l p e) (nI u) = sp_hv f (nI u) := by
    intro u hu
    unfold sp_hv
    rw [en, sp_has, a6, if_neg (fun z => pl_m1 (by omega) z.symm), Nat.add_zero]
    exact sp_has_cg (fun j hj => ⟨sp_come_ne (by omega) (by omega), sp_come_ne (by omega) (by omega)⟩)
  refine ⟨⟨⟨?_, ?_, ?_, ?_, ?_, ?_, ?_, ?_, ?_, ?_⟩, fun v j hv hj => ?_, fun u hu => ?_, d4.cg hL (sp_come_ne (by omega) (by omega)) (fun r hr => sp_come_ne (by omega) (by omega)) (fun j hj => hS j (fun z => by have := z.2; omega))⟩, fun v hv => ?_, ?_⟩
  · rw [e1, eg8, st_at]
  · rw [ga _ (by omega), sp_come_ne (by omega) (by omega)]; exact s2
  · rw [ga _ (by omega), sp_come_ne (by omega) (by omega)]; exact s3
  · rw [ga _ (by omega), sp_come_ne (by omega) (by omega)]; exact s4
  · rw [ga _ (by omega), sp_come_ne (by omega) (by omega)]; exact s5
  · rw [ga _ (by omega), sp_come_ne (by omega) (by omega)]; exact s6
  · rw [ga _ (by omega), sp_come_ne (by omega) (by omega)]; exact s7
  · rw [ga _ (by omega), sp_come_ne (by omega) (by omega)]; exact s8
  · rw [ga _ (by omega), sp_come_ne (by omega) (by omega)]; exact s9
  · rw [ga _ (by omega), sp_come_ne (by omega) (by omega)]; exact s10
  · rw [en] at hv
    by_cases ev : v = sp_n f
    · subst ev
      have : j = 0 ∨ j = 1 ∨ j = 2 ∨ j = 3 ∨ j = 4 := by omega
      rcases this with rfl | rfl | rfl | rfl | rfl
      · exact n1.trans a1.symm
      · rw [show a + 1 + 1 = a + 2 by omega, show 11 + 6 * sp_n f + 1 = 12 + 6 * sp_n f by omega]; exact n2'.trans a2.symm
      · rw [show a + 1 + 2 = a + 3 by omega, show 11 + 6 * sp_n f + 2 = 13 + 6 * sp_n f by omega]; exact n3.trans a3.symm
      · rw [show a + 1 + 3 = a + 4 by omega, show 11 + 6 * sp_n f + 3 = 14 + 6 * sp_n f by omega]; exact n4.trans a4.symm
      · rw [show a + 1 + 4 = a + 5 by omega, show 11 + 6 * sp_n f + 4 = 15 + 6 * sp_n f by omega]; exact n5.trans a5.symm
    · have := gj v ev (1 + j) (by omega) (by omega)
      rw [show a + 1 + j = a + (1 + j) by omega, this, show a + (1 + j) = a + 1 + j by omega, sp_come_ne (by omega) (by omega)]
      exact d2 v j (by omega) hj
  · rw [hvc u hu]
    by_cases eu : u = sp_n f
    · subst eu
      rw [n7]
      unfold sp_hv
      rw [sp_has_0 (fun j hj => ?_)]
      · rfl
      · intro z
        rcases hw.1.2.2.1 j hj with q1 | ⟨q1, hq1, eq1⟩
        · rw [q1] at z; exact pl_m1 (by omega) z.symm
        · rw [eq1] at z
          have := (pl_eq (by omega) (by omega)).mp z
          omega
    · rw [gj u eu 7 (by omega) (by omega)]; exact d3 u hu
  · rw [en] at hv
    by_cases ev : v = sp_n f
    · subst ev; exact n6.trans a6.symm
    · rw [gj v ev 6 (by omega) (by omega), sp_come_ne (by omega) (by omega)]
      exact d5 v (by omega)
  · rw [ga _ (by omega), sp_come_ne (by omega) (by omega)]; exact d6
end KG
