/-! THE REFERENCE: a text worked out; whom a voter votes for -/
theorem r_works_l {F : sv_Fr} {g0 : sv_Mg} {t m nx : Nat} {Q : Int32 → sv_Mg → Prop} (hnx : nx ≤ 3) (hm : m ≤ 96) (ht : t < 14) (hok : sp_okc nx (fun k => g0 59 (99 + 96 * t + k)) m)
    (q : ∀ g, sv_sm (fun k => k = 71) g0 g → Q ((sp_ev (g0 72) (fun k => g0 59 (99 + 96 * t + k)) m).getD 0 0) g) :
    ∀ n k g, k ≤ m → m + 1 ≤ k + n → sv_sm (fun k => k = 71) g0 g → sp_stk (g 71) (sp_ev (g0 72) (fun k => g0 59 (99 + 96 * t + k)) k) → wp_X7_worksOut_21 F Q n (nI t) (nI (sp_ev (g0 72) (fun k => g0 59 (99 + 96 * t + k)) k).length) (nI m) (nI k) g := by
  intro n
  induction n with
  | zero => intro k g h1 h2; omega
  | succ n ih =>
    intro k g h1 h2 hS hst
    have e59 : g 59 = g0 59 := hS 59 (by decide)
    have e72 : g 72 = g0 72 := hS 72 (by decide)
    rw [wp_X7_worksOut_21]
    by_cases hk : m ≤ k
    · have e : k = m := by omega
      subst e
      refine br_y ((pl_le (by omega) (by omega)).mpr hk) ?_
      have hl := sp_ev_len (x := g0 72) hok k (Nat.le_refl _)
      rw [hok.1] at hl
      rw [sp_stk_one hst hl]
      exact q g hS
    · refine br_n (fun z => hk ((pl_le (by omega) (by omega)).mp z)) ?_
      rw [pl_lit 99, pl_lit 96, pk_mul, nI_add, nI_add, pl_clamp (by omega)]
      refine ⟨pl_in (by omega) (by omega), ?_⟩
      intro c ec
      rw [e59] at ec
      have hl := sp_ev_len (x := g0 72) hok k (by omega)
      have hd := sp_dep_le (fun k => g0 59 (99 + 96 * t + k)) k
      obtain ⟨o1, o2⟩ := hok.2 k (by omega)
      have ihk := ih (k + 1)
      have eev : sp_ev (g0 72) (fun k => g0 59 (99 + 96 * t + k)) (k + 1) = sp_step (g0 72) c (sp_ev (g0 72) (fun k => g0 59 (99 + 96 * t + k)) k) := by rw [ec]; rfl
      dsimp only at o1 o2
      rw [← ec] at o1 o2
      rw [eev] at ihk
      have hsl : ∀ g', sv_sm (fun k => k = 71) g0 g' → ∀ s, sp_step (g0 72) c (sp_ev (g0 72) (fun k => g0 59 (99 + 96 * t + k)) k) = s → sp_stk (g' 71) s → wp_X7_worksOut_149 F Q (wp_X7_worksOut_21 F Q n) (nI t) (nI s.length) (nI m) (nI k) g' := by
        intro g' h1' s es hst' v4 e4
        rw [e4, nI_1, ← es]
        exact ihk g' (by omega) (by omega) h1' (by rw [es]; exact hst')
      generalize hs : sp_ev (g0 72) (fun k => g0 59 (99 + 96 * t + k)) k = s at hst hl hsl ⊢
      by_cases hc : c < 0
      · refine br_y hc ?_
        rcases o1 hc with ⟨e10, hd1⟩ | ⟨z, z1, z2, ez, hd2⟩
        · refine br_y e10 ?_
          cases s with
          | nil => simp at hl; omega
          | cons a r =>
            have hr : r.length < 96 := by simp at hl; omega
            have er : nI (a :: r).length - 1 = nI r.length := by
              rw [List.length_cons, nI_pred]
            rw [er, pl_clamp (by omega)]
            obtain ⟨p1, p2⟩ := sp_stk_pop hst
            refine ⟨pl_in hr (by omega), ?_⟩
            rw [p2]
            have fin : ∀ w : Int32, (if a = 0 then (1 : Int32) else 0) = w → wp_X7_worksOut_115 F Q (wp_X7_worksOut_21 F Q n) (nI t) (nI (a :: r).length) (nI m) (nI k) w (nI r.length) g := by
              intro w ew
              refine ⟨pl_in hr (by omega), fun g3 e3 => ?_⟩
              rw [pl_clamp (by omega)] at e3
              refine hsl g3 (by rw [e3]; exact hS.st rfl) (w :: r) ?_ (by rw [e3, sv_st_eq]; exact sp_stk_push p1 w)
              unfold sp_step
              rw [if_pos hc, if_pos e10]
              dsimp only
              rw [ew]
            by_cases ha : a = 0
            · exact br_y ha (fin 1 (if_pos ha))
            · exact br_n ha (fin 0 (if_neg ha))
        · have e10 : ¬ c = -10 := by
            intro y
            rw [ez] at y
            have : ∀ s, s < 10 → ¬ (-nI s : Int32) = -10 := by decide
            exact this z (by omega) y
          refine br_n e10 ?_
          cases s with
          | nil => simp at hl; omega
          | cons b s2 =>
            cases s2 with
            | nil => simp at hl; omega
            | cons a r =>
              have hr : r.length + 1 < 96 := by simp at hl; omega
              intro v2 e2
              rw [pl_am1, List.length_cons, nI_pred] at e2
              obtain ⟨p1, p2⟩ := sp_stk_pop hst
              obtain ⟨p3, p4⟩ := sp_stk_pop p1
              have e2' : v2 - 1 = nI r.length := by rw [e2, List.length_cons, nI_pred]
              rw [e2', pl_clamp (by omega)]
              have e2'' : v2.toNatClampNeg = r.length + 1 := by rw [e2, List.length_cons, pl_clamp (by omega)]
              rw [e2'']
              refine ⟨pl_in (by omega) (by omega), by rw [e2]; exact pl_in hr (by omega), ?_⟩
              rw [List.length_cons] at p2
              rw [p2, p4]
              refine r_two ⟨pl_in (by omega) (by omega), fun g3 e3 => ?_⟩
              have := hsl g3 (by rw [e3]; exact hS.st rfl) (sp_two c a b :: r) (by unfold sp_step; rw [if_pos hc, if_neg e10]) (by rw [e3, sv_st_eq]; exact sp_stk_push p3 _)
              rw [e2]
              exact this
      · refine br_n hc ?_
        obtain ⟨j, hj, ej⟩ := o2 hc
        have hlen : s.length < 96 := by omega
        have fin : ∀ w : Int32, sp_step (g0 72) c s = w :: s → wp_X7_worksOut_78 F Q (wp_X7_worksOut_21 F Q n) (nI t) (nI s.length) (nI m) (nI k) w (nI s.length) g := by
          intro w ew
          refine ⟨pl_in hlen (by omega), fun g5 e5 v2 e2 => ?_⟩
          rw [pl_clamp (by omega)] at e5
          rw [e2, nI_1]
          exact hsl g5 (by rw [e5]; exact hS.st rfl) (w :: s) ew (by rw [e5, sv_st_eq]; exact sp_stk_push hst w)
        by_cases h10 : (10000 : Int32) ≤ c
        · refine br_y h10 ?_
          have hj2 : 10000 ≤ j := by
            rw [ej, pl_lit 10000] at h10
            exact (pl_le (by omega) (by omega)).mp h10
          refine ⟨?_, ?_⟩
          · rw [ej, pl_lit 10000, pk_sub hj2]
            exact pl_in (by omega) (by omega)
          · rw [e72]
            refine fin _ ?_
            unfold sp_step
            rw [if_neg hc, if_pos h10]
        · refine br_n h10 (fin c ?_)
          unfold sp_step
          rw [if_neg hc, if_neg h10]
/-- worksOut(t): the row of facts is cell 72 -/
theorem r_works {F : sv_Fr} {g : sv_Mg} {t : Nat} {Q : Int32 → sv_Mg → Prop} (hw : sp_wt (g 59)) (ht : t < sp_t (g 59)) (ht2 : sp_t (g 59) ≤ 14) (q : ∀ g', sv_sm (fun k => k = 71) g g' → Q (sp_val (g 59) t (g 72)) g') : wp_X7_worksOut F (nI t) g Q := by
  obtain ⟨k, m, hk, hm, he, hok⟩ := hw t ht
  obtain ⟨e1, e2⟩ := sp_key_of he hk hm
  unfold wp_X7_worksOut
  rw [pl_lit 71, pl_lit 2, pk_mul, nI_add, pl_clamp (by omega)]
  refine ⟨pl_in (by omega) (by omega), fun v3 e3 => ?_⟩
  rw [he, pl_lit 1000, pk_rem (by omega) (by omega) (by omega), show (1000 * k + m) % 1000 = m by omega] at e3
  rw [e3]
  refine ⟨m + 1, r_works_l (sp_nx_le k) hm (by omega) hok ?_ (m + 1) 0 g (Nat.zero_le _) (by omega) sv_sm.rf (fun i hi => by simp [sp_ev] at hi)⟩
  intro g' hS
  have := q g' hS
  unfold sp_val at this
  rw [e2] at this
  exact this
theorem sp_val_x {f : Nat → Int32} {t : Nat} {x y : Nat → Int32} (hw : sp_wt f) (ht : t < sp_t f) (hxy : ∀ i, i < sp_nx (sp_key f t) → x i = y i) : sp_val f t x = sp_val f t y := by
  obtain ⟨k, m, hk, hm, he, hok⟩ := hw t ht
  obtain ⟨e1, e2⟩ := sp_key_of he hk hm
  unfold sp_val
  rw [e1] at hxy
  rw [e2, sp_ev_x (sp_nx_le k) hok hxy m (Nat.le_refl _)]
def sp_x (a b c : Int32) : Nat → Int32 := fun i => if i = 0 then a else if i = 1 then b else c
def sp_held (v l h : Int32) : Int32 := if v < l then l else if h < v then h else v
/-- what sway gives, held -/
def sp_sway (f : Nat → Int32) (v : Nat) : Int32 := match sp_cnt f 0 (sp_t f) with
  | none => f (14 + 6 * v) / 10
  | some t => sp_held (sp_val f t (sp_x (f (14 + 6 * v)) (f 3) (f (13 + 6 * v)))) 0 99
def sp_swayed (f : Nat → Int32) (v : Nat) (set : Int32) : Int32 := if nI (sp_hv f (sp_o (sp_mo f set))) ≤ sp_sway f v then sp_plain f v set else sp_o (sp_mo f set)
def sp_for (f : Nat → Int32) (v : Nat) : Int32 :=
  if f (11 + 6 * v) = 1 then sp_loyal f v (sp_runs f)
  else if f (11 + 6 * v) = 2 then sp_swayed f v (sp_runs f)
  else if f (11 + 6 * v) = 3 then (if ((sp_runs f >>> (nI v &&& 31)) &&& 1) = 1 then (if f (14 + 6 * v) < 50 then sp_loyal f v (sp_runs f) else nI v) else sp_loyal f v (sp_runs f))
  else if f (11 + 6 * v) = 4 then (if (f 3 - f 3 / 2 * 2) = 1 then -1 else sp_swayed f v (sp_runs f))
  else sp_plain f v (sp_runs f)
/-- what a reading reference needs of its row -/
def sp_rd (g : sv_Mg) : Prop := (g 59 1 = nI (sp_n (g 59)) ∧ sp_n (g 59) ≤ 10) ∧ (g 59 10 = nI (sp_t (g 59)) ∧ sp_t (g 59) ≤ 14) ∧ sp_wt (g 59)
def sp_tmp : Nat → Prop := fun k => k = 71 ∨ k = 72
theorem r_swayed {F : sv_Fr} {g : sv_Mg} {v : Nat} {set : Int32} {Q : Int32 → sv_Mg → Prop} (hr : sp_rd g) (hv : v < 10) (q : ∀ g', sv_sm sp_tmp g g' → Q (sp_swayed (g 59) v set) g') : wp_X7_swayed F (nI v) set g Q := by
  obtain ⟨⟨hn, hn2⟩, ⟨ht, ht2⟩, hw⟩ := hr
  have fin : ∀ g' s, sv_sm sp_tmp g g' → s = sp_sway (g 59) v → wp_X7_swayed_69 F Q (nI v) set s g' := by
    intro g' s hS es
    have e59 : g' 59 = g 59 := hS 59 (by unfold sp_tmp; omega)
    have q := q g' hS
    unfold sp_swayed at q
    refine r_most (by rw [e59]; exact hn) (by rw [e59]; exact hn2) (r_has (by rw [e59]; exact hn) (by rw [e59]; exact hn2) ?_)
    rw [e59, es]
    split at q
    · rename_i h
      exact br_y h (r_plain (by rw [e59]; exact hn) (by rw [e59]; exact hn2) hv (by rw [e59]; exact q))
    · rename_i h
      exact br_n h q
  refine r_cnt (key := 0) rfl ht hw ht2 (by omega) ?_
  refine r_of (j := 3) rfl hv (by omega) ?_
  intro g1 e1 g2 e2
  have h1 : sv_sm sp_tmp g g1 := by rw [e1]; exact sv_sm.rf.st (Or.inr rfl)
  have h2 : sv_sm sp_tmp g g2 := by rw [e2]; exact h1.st (Or.inr rfl)
  refine r_of (j := 2) rfl hv (by omega) ?_
  intro g3 e3
  have h3 : sv_sm sp_tmp g g3 := by rw [e3]; exact h2.st (Or.inr rfl)
  have e59 : g3 59 = g 59 := h3 59 (by unfold sp_tmp; omega)
  have e592 : g2 59 = g 59 := h2 59 (by unfold sp_tmp; omega)
  have e591 : g1 59 = g 59 := h1 59 (by unfold sp_tmp; omega)
  cases e : sp_cnt (g 59) 0 (sp_t (g 59)) with
  | none =>
    refine br_n (by decide) (r_of (j := 3) rfl hv (by omega) ?_)
    refine fin g3 _ h3 ?_
    unfold sp_sway
    rw [e, e59]
    show g 59 (11 + 6 * v + 3) / 10 = g 59 (14 + 6 * v) / 10
    rw [show 11 + 6 * v + 3 = 14 + 6 * v by omega]
  | some t =>
    obtain ⟨htl, hkey⟩ := sp_cnt_lt e
    refine br_y (pl_nn' (by omega)) ?_
    refine r_works (t := t) (by rw [e59]; exact hw) (by rw [e59]; exact htl) (by rw [e59]; exact ht2) ?_
    intro g4 h4
    refine r_within ?_
    refine fin g4 _ (h3.tr (h4.mono (fun k z => Or.inl z))) ?_
    unfold sp_sway
    rw [e, e59]
    show sp_held _ 0 99 = sp_held _ 0 99
    congr 1
    refine sp_val_x hw htl ?_
    intro i hi
    rw [hkey] at hi
    have hi : i < 3 := hi
    rw [e3]
    rcases (show i = 0 ∨ i = 1 ∨ i = 2 by omega) with rfl | rfl | rfl
    · rw [st_nk (by decide), e2, st_nk (by decide), e1, st_at]
      show g 59 (11 + 6 * v + 3) = g 59 (14 + 6 * v)
      rw [show 11 + 6 * v + 3 = 14 + 6 * v by omega]
    · rw [st_nk (by decide), e2, st_at, e591]
      rfl
    · rw [st_at, e592]
      show g 59 (11 + 6 * v + 2) = g 59 (13 + 6 * v)
      rw [show 11 + 6 * v + 2 = 13 + 6 * v by omega]
/-- votesFor(v) -/
theorem r_for {F : sv_Fr} {g : sv_Mg} {v : Nat} {Q : Int32 → sv_Mg → Prop} (hr : sp_rd g) (hv : v < 10) (q : ∀ g', sv_sm sp_tmp g g' → Q (sp_for (g 59) v) g') : wp_X7_votesFor F (nI v) g Q := by
  obtain ⟨⟨hn, hn2⟩, ⟨ht, ht2⟩, hw⟩ := id hr
  refine r_runs hn hn2 (r_of (j := 0) rfl hv (by omega) ?_)
  show (g 59 (11 + 6 * v) = 1 → _) ∧ _
  unfold sp_for at q
  by_cases c1 : g 59 (11 + 6 * v) = 1
  · simp only [if_pos c1] at q
    exact br_y c1 (r_loyal hn hn2 hv (q g sv_sm.rf))
  · simp only [if_neg c1] at q
    refine br_n c1 ?_
    by_cases c2 : g 59 (11 + 6 * v) = 2
    · simp only [if_pos c2] at q
      exact br_y c2 (r_swayed hr hv q)
    · simp only [if_neg c2] at q
      refine br_n c2 ?_
      by_cases c3 : g 59 (11 + 6 * v) = 3
      · simp only [if_pos c3] at q
        refine br_y c3 ?_
        by_cases c4 : ((sp_runs (g 59) >>> (nI v &&& 31)) &&& 1) = 1
        · simp only [if_pos c4] at q
          refine br_y c4 (r_of (j := 3) rfl hv (by omega) ?_)
          rw [show 11 + 6 * v + 3 = 14 + 6 * v by omega]
          by_cases c5 : g 59 (14 + 6 * v) < 50
          · simp only [if_pos c5] at q
            exact br_y c5 (r_loyal hn hn2 hv (q g sv_sm.rf))
          · simp only [if_neg c5] at q
            exact br_n c5 (q g sv_sm.rf)
        · simp only [if_neg c4] at q
          exact br_n c4 (r_loyal hn hn2 hv (q g sv_sm.rf))
      · simp only [if_neg c3] at q
        refine br_n c3 ?_
        by_cases c4 : g 59 (11 + 6 * v) = 4
        · simp only [if_pos c4] at q
          refine br_y c4 ?_
          by_cases c5 : (g 59 3 - g 59 3 / 2 * 2) = 1
          · simp only [if_pos c5] at q
            exact br_y c5 (q g sv_sm.rf)
          · simp only [if_neg c5] at q
            exact br_n c5 (r_swayed hr hv q)
        · simp only [if_neg c4] at q
          exact br_n c4 (r_plain hn hn2 hv (q g sv_sm.rf))
