/-! FITS: numbers of both widths -/
theorem lg_ge {a b : Nat} (ha : a < 2 ^ 62) (hb : b < 2 ^ 62) : 0 ≤ lg_cmp (lN a) (lN b) ↔ b ≤ a := (lg_cmp_ge _ _).trans (pk_lLE (by omega) (by omega))
theorem bm32 {n : Int} (h1 : -1000000000 ≤ n) (h2 : n ≤ 1000000000) : n.bmod (2 ^ 32) = n := by
  apply Int.bmod_eq_of_le <;> omega
theorem bm64 {n : Int} (h1 : -1000000000 ≤ n) (h2 : n ≤ 1000000000) : n.bmod (2 ^ 64) = n := by
  apply Int.bmod_eq_of_le <;> omega
theorem sub32 {a b : Int32} (h1 : -400000000 ≤ a.toInt ∧ a.toInt ≤ 400000000) (h2 : -400000000 ≤ b.toInt ∧ b.toInt ≤ 400000000) : (a - b).toInt = a.toInt - b.toInt := by
  rw [Int32.toInt_sub, bm32 (by omega) (by omega)]
theorem sub64 {a b : Int64} (h1 : -400000000 ≤ a.toInt ∧ a.toInt ≤ 400000000) (h2 : -400000000 ≤ b.toInt ∧ b.toInt ≤ 400000000) : (a - b).toInt = a.toInt - b.toInt := by
  rw [Int64.toInt_sub, bm64 (by omega) (by omega)]
theorem nI_toI {n : Nat} (h : n < 2 ^ 30) : (nI n).toInt = n := by
  have := pk_sub_toInt (a := n) (b := 0) h (by omega)
  rw [pk_sub (Nat.zero_le _), Nat.sub_zero] at this
  rw [this]; omega
theorem of32 {x : Int32} {n : Nat} (hn : n < 2 ^ 30) (h : x.toInt = n) : x = nI n := by
  apply Int32.toInt_inj.mp
  rw [h, nI_toI hn]
theorem of64 {x : Int64} {n : Nat} (hn : n < 2 ^ 30) (h : x.toInt = n) : x = lN n := by
  apply Int64.toInt_inj.mp
  rw [h, pk_lT (by omega)]
/-- how far off -/
def sp_ab (c s : Int32) : Nat := (c.toInt - s.toInt).natAbs
theorem iv_dk {c : Int32} {s : Nat} (hc : -99999 ≤ c.toInt ∧ c.toInt ≤ 99999) (hs : s < 4) : (if 0 ≤ (nI s - c) then (nI s - c) else 0 - (nI s - c)) = nI (sp_ab c (nI s)) ∧ sp_ab c (nI s) ≤ 100002 := by
  have es := nI_toI (n := s) (by omega)
  have eD : (nI s - c).toInt = s - c.toInt := by rw [sub32 (by omega) (by omega), es]
  have z0 : (0 : Int32).toInt = 0 := rfl
  have hab : sp_ab c (nI s) = (c.toInt - s).natAbs := by unfold sp_ab; rw [es]
  refine ⟨?_, by omega⟩
  by_cases c0 : 0 ≤ (nI s - c)
  · rw [if_pos c0]
    have := Int32.le_iff_toInt_le.mp c0
    rw [z0, eD] at this
    refine of32 (by omega) ?_
    rw [eD]; omega
  · rw [if_neg c0]
    have h2 : ¬ (0 : Int) ≤ s - c.toInt := by
      intro z
      apply c0
      apply Int32.le_iff_toInt_le.mpr
      rw [z0, eD]; exact z
    refine of32 (by omega) ?_
    rw [sub32 (by rw [z0]; omega) (by rw [eD]; omega), eD, z0]; omega
theorem iv_dr {c : Int32} {s : Nat} (hc : -99999 ≤ c.toInt ∧ c.toInt ≤ 99999) (hs : s < 4) : (0 ≤ lg_cmp (c.toInt64 - (nI s).toInt64) 0 → (c.toInt64 - (nI s).toInt64) = lN (sp_ab c (nI s))) ∧ (¬ 0 ≤ lg_cmp (c.toInt64 - (nI s).toInt64) 0 → 0 - (c.toInt64 - (nI s).toInt64) = lN (sp_ab c (nI s))) := by
  have es := nI_toI (n := s) (by omega)
  have e1 : c.toInt64.toInt = c.toInt := Int32.toInt_toInt64 c
  have e2 : (nI s).toInt64.toInt = s := by rw [Int32.toInt_toInt64]; exact es
  have eD : (c.toInt64 - (nI s).toInt64).toInt = c.toInt - s := by rw [sub64 (by omega) (by omega), e1, e2]
  have z0 : (0 : Int64).toInt = 0 := rfl
  have hab : sp_ab c (nI s) = (c.toInt - s).natAbs := by unfold sp_ab; rw [es]
  refine ⟨fun c0 => ?_, fun c0 => ?_⟩
  · have := Int64.le_iff_toInt_le.mp ((lg_cmp_ge _ _).mp c0)
    rw [z0, eD] at this
    refine of64 (by omega) ?_
    rw [eD]; omega
  · have h2 : ¬ (0 : Int) ≤ c.toInt - s := by
      intro z
      apply c0
      apply (lg_cmp_ge _ _).mpr
      apply Int64.le_iff_toInt_le.mpr
      rw [z0, eD]; exact z
    refine of64 (by omega) ?_
    rw [sub64 (by rw [z0]; omega) (by rw [eD]; omega), eD, z0]; omega
section CH
variable {F : sv_Fr} {g : sv_Mg} {a B : Nat} {f : Nat → Int32}
/-- how far a row of smokes is off, the first k places -/
def sp_ob (f c : Nat → Int32) : Nat → Nat
  | 0 => 0
  | k + 1 => sp_ob f c k + (if c k = -1000000005 then 0 else sp_ab (c k) (sp_it f (k + 1) 8))
def sp_num (c : Nat → Int32) (n : Nat) : Prop := ∀ k, k < n → iv_num (c k)
theorem sp_ob_le {c : Nat → Int32} {n : Nat} (hw : sp_W B f) (hc : sp_num c n) : ∀ {k : Nat}, k ≤ n → sp_ob f c k ≤ 100002 * k
  | 0, _ => Nat.le_refl 0
  | k + 1, h => by
    have ih := sp_ob_le hw hc (k := k) (by omega)
    rw [sp_ob]
    split
    · omega
    · rename_i hx
      obtain ⟨s, hs, es⟩ := (hw.it (k + 1)).1.2.2.2.2.2.1.1
      rw [es]
      have := (iv_dk (s := s) ((hc k (by omega)).resolve_left hx) hs).2
      omega
theorem k_num {i : Nat} {n : Nat} {Q : Int32 → sv_Mg → Prop} (hs : g a 2 = nI n) (hn : n ≤ 24) (hi : i < n) (q : ((g (a + 1) i) = (-1000000005) → Q 0 g) ∧ (¬ (g (a + 1) i) = (-1000000005) → Q 1 g)) : wp_X4_isNumber F a (nI i) g Q := by
  refine br_n (pl_nn (by omega)) ?_
  rw [hs]
  refine br_n (fun z => absurd ((pl_le (by omega) (by omega)).mp z) (by omega)) (br_n ne10 ⟨pl_in (by omega) (by omega), ?_⟩)
  rw [pl_clamp (by omega)]
  exact q
theorem k_diff {i r n : Nat} {Q : Int32 → sv_Mg → Prop} (h : Inv F g) (hi : i < 4) (hr : 1 ≤ r ∧ r < 100) (hn : n ≤ 24) (hsz : g (32 + 2 * i) 2 = nI n) (hc : sp_num (fun k => g (33 + 2 * i) k) n) (q : ∀ g', sv_sm iv_tp g g' → Q (nI (sp_ob (upd (g 59) 6 (nI r)) (fun k => g (33 + 2 * i) k) n)) g') : wp_X6_differenceWith F (32 + 2 * i) (nI r) g Q := by
  have W := h.W.rule (r := 6) (k := r) (x := nI r) (by omega) hr.2 rfl
  refine k_th h (fun g1 S1 C1 => ?_)
  intro g2 e2
  have S2 : sv_sm iv_tp g g2 := by rw [e2]; exact S1.st (by unfold iv_tp; omega)
  have C2 : cr F g2 23 (upd (g 59) 6 (nI r)) := by
    have := C1.fld (p := 11) (r := 6) (x := nI r) h.L sv_C23 (by unfold sp_pr; omega)
    unfold cr
    rw [pk_un (by omega), e2]; exact this
  have go : ∀ m k g', k ≤ n → n + 1 ≤ k + m → sv_sm iv_tp g g' → cr F g' 23 (sp_it (upd (g 59) 6 (nI r)) k) → wp_X6_differenceWith_24 F (32 + 2 * i) Q m (nI (sp_ob (upd (g 59) 6 (nI r)) (fun k => g (33 + 2 * i) k) k)) (nI k) g' := by
    intro m
    induction m with
    | zero => intro i g' h1 h2; omega
    | succ m ih =>
      intro k g' h1 h2 S C
      have e32 : g' (32 + 2 * i) = g (32 + 2 * i) := S _ (by unfold iv_tp; omega)
      rw [wp_X6_differenceWith_24, e32, hsz]
      by_cases hk : n ≤ k
      · have ek : k = n := by omega
        refine br_y ((pl_le (by omega) (by omega)).mpr hk) ?_
        rw [ek]; exact q g' S
      · refine br_n (fun z => hk ((pl_le (by omega) (by omega)).mp z)) (k_round h.L sv_C23 C (W.it k) (by omega) (fun g3 S3 C3 => ?_))
        have S3' := S.tr (iv_tp23 S3)
        have e32' : g3 (32 + 2 * i) = g (32 + 2 * i) := S3' _ (by unfold iv_tp; omega)
        have e33' : g3 (32 + 2 * i + 1) = g (33 + 2 * i) := by rw [show 32 + 2 * i + 1 = 33 + 2 * i by omega]; exact S3' _ (by unfold iv_tp; omega)
        have e17 : g3 23 17 = sp_it (upd (g 59) 6 (nI r)) (k + 1) 8 := C3.1.1.2.2.2.2.2.2.2.2.1
        obtain ⟨s, hs, es⟩ := (W.it (k + 1)).1.2.2.2.2.2.1.1
        refine k_num (n := n) (by rw [e32']; exact hsz) hn (by omega) ?_
        rw [e33']
        have ih2 := ih (k + 1) g3 (by omega) (by omega) S3' C3
        rw [sp_ob] at ih2
        refine ⟨fun c => br_y rfl ?_, fun c => br_n ne10 ⟨pl_in (by omega) (by omega), ?_⟩⟩
        · rw [if_pos c, Nat.add_zero] at ih2
          intro v4 e4
          rw [e4, nI_1]; exact ih2
        · rw [if_neg c, ← nI_add] at ih2
          have hd := (iv_dk (c := g (33 + 2 * i) k) (s := s) ((hc k (by omega)).resolve_left c) hs).1
          intro v3 e3 v4 e4
          rw [pl_clamp (by omega), e17, es, hd] at e3
          rw [es] at ih2
          rw [e3, e4, nI_1]; exact ih2
  exact ⟨_, go (n + 1) 0 g2 (Nat.zero_le _) (by omega) S2 C2⟩
theorem r_off {g' : sv_Mg} {i r n : Nat} {Q : Int64 → sv_Mg → Prop} (h : Inv F g) (t : iv_th g g') (e59 : g' 59 = g 59) (hi : i < 4) (hr : 1 ≤ r ∧ r < 100) (hn : n ≤ 24) (hsz : g 74 i = nI n) (hc : sp_num (fun k => g 75 (24 * i + k)) n) (q : ∀ g'', sv_sm iv_tp g g'' → iv_th g g'' → g'' 59 = g 59 → Q (lN (sp_ob (upd (g 59) 6 (nI r)) (fun k => g 75 (24 * i + k)) n)) g'') : wp_X7_offBy F (nI i) (nI r) g' Q := by
  have W := h.W.rule (r := 6) (k := r) (x := nI r) (by omega) hr.2 rfl
  intro g2 e2 v3 e3
  have t2 : iv_th g g2 := by rw [e2]; exact t.put (by omega)
  have e59' : g2 59 = upd (g 59) 6 (nI r) := by rw [e2, upd_st, e59]
  have go : ∀ m k g', k ≤ n → n + 1 ≤ k + m → iv_th g g' → g' 59 = sp_it (upd (g 59) 6 (nI r)) k → wp_X7_offBy_13 F Q m (nI i) (lN (sp_ob (upd (g 59) 6 (nI r)) (fun k => g 75 (24 * i + k)) k)) (nI k) g' := by
    intro m
    induction m with
    | zero => intro i g' h1 h2; omega
    | succ m ih =>
      intro k g' h1 h2 t e
      have e74 : g' 74 = g 74 := t.1 _ (by unfold iv_tp; omega)
      rw [wp_X7_offBy_13, pl_clamp (by omega), e74, hsz]
      refine ⟨pl_in (by omega) (by omega), ?_⟩
      by_cases hk : n ≤ k
      · have ek : k = n := by omega
        refine br_y ((pl_le (by omega) (by omega)).mpr hk) (r_bk t (fun g5 S5 t5 e5 => ?_))
        rw [ek]; exact q g5 S5 t5 e5
      · refine br_n (fun z => hk ((pl_le (by omega) (by omega)).mp z)) (r_thround (B := 9999 + k) t (by rw [e]; exact W.it k) (fun g3 t3 e3 => ?_))
        have e3 : g3 59 = sp_it (upd (g 59) 6 (nI r)) (k + 1) := by rw [e3, e]; rfl
        have e75 : g3 75 = g 75 := t3.1 _ (by unfold iv_tp; omega)
        have ei : ((24 * nI i) + nI k : Int32) = nI (24 * i + k) := by rw [pl_lit 24, pk_mul, nI_add]
        rw [ei, pl_clamp (by omega), e75, e3]
        refine ⟨pl_in (by omega) (by omega), ?_⟩
        obtain ⟨s, hs, es⟩ := (W.it (k + 1)).1.2.2.2.2.2.1.1
        intro v6 e6 v7 e7
        have ih2 := ih (k + 1) g3 (by omega) (by omega) t3 e3
        rw [sp_ob] at ih2
        rw [← e6, es] at ih2
        rw [es] at e7
        refine ⟨fun c => ?_, fun c => ?_⟩
        · rw [if_pos c, Nat.add_zero] at ih2
          intro v3 e3' v5 e5
          have z : lN (sp_ob (upd (g 59) 6 (nI r)) (fun k => g 75 (24 * i + k)) k) + (0 : Int64) = lN (sp_ob (upd (g 59) 6 (nI r)) (fun k => g 75 (24 * i + k)) k) := Int64.add_zero _
          rw [e3', e5, nI_1, z]; exact ih2
        · rw [if_neg c, ← lN_add] at ih2
          have hnum : iv_num v6 := by rw [e6]; exact hc k (by omega)
          have hd := iv_dr (c := v6) (s := s) (hnum.resolve_left c) hs
          rw [e7]
          refine ⟨fun c2 => ?_, fun c2 => ?_⟩
          · rw [hd.1 c2]
            intro v3 e3' v5 e5
            rw [e3', e5, nI_1]; exact ih2
          · rw [hd.2 c2]
            intro v3 e3' v5 e5
            rw [e3', e5, nI_1]; exact ih2
  rw [e3]
  exact ⟨_, go (n + 1) 0 g2 (Nat.zero_le _) (by omega) t2 e59'⟩
theorem sp_ob_cg {c c' : Nat → Int32} : ∀ {n : Nat}, (∀ k, k < n → c' k = c k) → sp_ob f c' n = sp_ob f c n
  | 0, _ => rfl
  | n + 1, h => by rw [sp_ob, sp_ob, sp_ob_cg (fun k hk => h k (by omega)), h n (by omega)]
/-- least and best among the first r runs -/
def sp_fl (f c : Nat → Int32) (n : Nat) : Nat → Nat
  | 0 => 0
  | 1 => sp_ob (upd f 6 (nI 1)) c n
  | r + 1 => if sp_fl f c n r ≤ sp_ob (upd f 6 (nI (r + 1))) c n then sp_fl f c n r else sp_ob (upd f 6 (nI (r + 1))) c n
def sp_fb (f c : Nat → Int32) (n : Nat) : Nat → Nat
  | 0 => 1
  | 1 => 1
  | r + 1 => if sp_fl f c n r ≤ sp_ob (upd f 6 (nI (r + 1))) c n then sp_fb f c n r else r + 1
theorem sp_fl_s {c : Nat → Int32} {n r : Nat} (hr : 1 ≤ r) : sp_fl f c n (r + 1) = (if sp_fl f c n r ≤ sp_ob (upd f 6 (nI (r + 1))) c n then sp_fl f c n r else sp_ob (upd f 6 (nI (r + 1))) c n) ∧ sp_fb f c n (r + 1) = (if sp_fl f c n r ≤ sp_ob (upd f 6 (nI (r + 1))) c n then sp_fb f c n r else r + 1) := by
  obtain ⟨k, rfl⟩ : ∃ k, r = k + 1 := ⟨r - 1, by omega⟩
  exact ⟨rfl, rfl⟩
theorem k_sh_n {v : Int32} {Q : Int32 → sv_Mg → Prop} (hv : v < 0 ∨ nI 3 < v) (q : Q 0 g) : wp_X6_isSheet F v g Q := by
  unfold wp_X6_isSheet
  exact k_in_n hv ⟨Or.inl rfl, q⟩
theorem k_sh_y {i : Nat} {Q : Int32 → sv_Mg → Prop} (hi : i ≤ 3) (q : Q 1 g) : wp_X6_isSheet F (nI i) g Q := by
  unfold wp_X6_isSheet
  exact k_rng_y 0 3 rfl rfl rfl (Nat.zero_le i) hi (by omega) ⟨Or.inr rfl, q⟩
theorem r_sh_n {v : Int32} {Q : Int32 → sv_Mg → Prop} (hv : v < 0 ∨ nI 3 < v) (q : Q 0 g) : wp_X7_isSheet F v g Q := by
  unfold wp_X7_isSheet
  exact r_in_n hv ⟨Or.inl rfl, q⟩
theorem r_sh_y {i : Nat} {Q : Int32 → sv_Mg → Prop} (hi : i ≤ 3) (q : Q 1 g) : wp_X7_isSheet F (nI i) g Q := by
  unfold wp_X7_isSheet
  exact r_rng_y 0 3 rfl rfl rfl (Nat.zero_le i) hi (by omega) ⟨Or.inr rfl, q⟩
theorem k_sl_n {v : Int32} {Q : Int32 → sv_Mg → Prop} (hv : v < 0 ∨ nI 4 < v) (q : Q 0 g) : wp_X6_isSlot F v g Q := by
  unfold wp_X6_isSlot
  exact k_in_n hv ⟨Or.inl rfl, q⟩
theorem k_sl_y {i : Nat} {Q : Int32 → sv_Mg → Prop} (hi : i ≤ 4) (q : Q 1 g) : wp_X6_isSlot F (nI i) g Q := by
  unfold wp_X6_isSlot
  exact k_rng_y 0 4 rfl rfl rfl (Nat.zero_le i) hi (by omega) ⟨Or.inr rfl, q⟩
theorem r_sl_n {v : Int32} {Q : Int32 → sv_Mg → Prop} (hv : v < 0 ∨ nI 4 < v) (q : Q 0 g) : wp_X7_isSlot F v g Q := by
  unfold wp_X7_isSlot
  exact r_in_n hv ⟨Or.inl rfl, q⟩
theorem r_sl_y {i : Nat} {Q : Int32 → sv_Mg → Prop} (hi : i ≤ 4) (q : Q 1 g) : wp_X7_isSlot F (nI i) g Q := by
  unfold wp_X7_isSlot
  exact r_rng_y 0 4 rfl rfl rfl (Nat.zero_le i) hi (by omega) ⟨Or.inr rfl, q⟩
theorem l_fits (h : Inv F g) (v w : Int32) : wp_X6_fits F v w g (fun r g1 => wp_X7_fits F v w g1 (fun r2 g2 => iv_E F r r2 g2)) := by
  rcases iv_rng v (n := 3) (by omega) with hv | ⟨i, hi, rfl⟩
  · exact k_sh_n hv (br_y rfl (r_sh_n hv (br_y rfl ⟨rfl, h⟩)))
  refine k_sh_y hi (br_n ne10 ?_)
  rcases iv_rng w (n := 1) (by omega) with hw | ⟨y, hy, rfl⟩
  · exact k_in_n hw (br_y rfl (r_sh_y hi (br_n ne10 (r_in_n hw (br_y rfl ⟨rfl, h⟩)))))
  refine k_rng_y 0 1 rfl rfl rfl (Nat.zero_le y) hy (by omega) (br_n ne10 ⟨pl_in (by omega) (by omega), ?_⟩)
  rw [pl_clamp (by omega)]
  obtain ⟨s1, s2, s3, s4, n, hn, s5⟩ := h.2.2.2.2.1 i (by omega)
  have pre : ∀ g1 (Q : Int32 → sv_Mg → Prop), g1 73 = g 73 → ((0 ≤ (g 73 i) → wp_X7_thinks F g1 (fun g_16 => wp_X7_offBy F (nI i) 1 g_16 (fun r_18 g_17 => ∃ n_19, wp_X7_fits_48 F Q n_19 (nI i) (nI y) 1 r_18 2 g_17))) ∧ (¬ 0 ≤ (g 73 i) → Q (-1000000011) g1)) → wp_X7_fits F (nI i) (nI y) g1 Q := by
    intro g1 Q e73 q
    refine r_sh_y hi (br_n ne10 (r_rng_y 0 1 rfl rfl rfl (Nat.zero_le y) hy (by omega) (br_n ne10 ⟨pl_in (by omega) (by omega), ?_⟩)))
    rw [pl_clamp (by omega), e73]; exact q
  by_cases cm : g 73 i = -1
  · refine br_y (by rw [s1]; exact cm) (br_n ne10 (pre g _ rfl (br_n (by rw [cm]; decide) ⟨rfl, h⟩)))
  have c0 : 0 ≤ g 73 i := by
    rcases s4 with z | z | z
    · exact absurd z cm
    · rw [z]; decide
    · rw [z]; decide
  refine br_n (by rw [s1]; exact cm) (br_y rfl ?_)
  have hc : sp_num (fun k => g 75 (24 * i + k)) n := fun k hk => (s3 k (by omega)).2.1
  have hc33 : sp_num (fun k => g (33 + 2 * i) k) n := fun k hk => by
    have := s3 k (by omega)
    show iv_num (g (33 + 2 * i) k)
    rw [this.1]; exact this.2.1
  have ecg : ∀ f, sp_ob f (fun k => g (33 + 2 * i) k) n = sp_ob f (fun k => g 75 (24 * i + k)) n := fun f => sp_ob_cg (fun k hk => (s3 k (by omega)).1)
  have lo : ∀ r, 1 ≤ r → r < 100 → sp_ob (upd (g 59) 6 (nI r)) (fun k => g 75 (24 * i + k)) n ≤ 3000000 := by
    intro r hr1 hr2
    have W := h.W.rule (r := 6) (k := r) (x := nI r) (by omega) hr2 rfl
    have := sp_ob_le W hc (k := n) (Nat.le_refl _)
    omega
  have lf : ∀ r, 1 ≤ r → r < 100 → sp_fl (g 59) (fun k => g 75 (24 * i + k)) n r ≤ 3000000 ∧ sp_fb (g 59) (fun k => g 75 (24 * i + k)) n r ≤ r := by
    intro r
    induction r with
    | zero => intro z; omega
    | succ r ih =>
      intro hr1 hr2
      by_cases r0 : r = 0
      · subst r0; exact ⟨lo 1 (by omega) (by omega), Nat.le_refl _⟩
      · obtain ⟨i1, i2⟩ := ih (by omega) (by omega)
        obtain ⟨e1, e2⟩ := sp_fl_s (f := g 59) (c := fun k => g 75 (24 * i + k)) (n := n) (r := r) (by omega)
        rw [e1, e2]
        have := lo (r + 1) (by omega) hr2
        split <;> omega
  have ref : ∀ g1, sv_sm iv_tp g g1 → wp_X7_fits F (nI i) (nI y) g1 (fun r2 g3 => iv_E F (if (nI y : Int32) = 0 then nI (sp_fb (g 59) (fun k => g 75 (24 * i + k)) n 20) else nI (sp_fl (g 59) (fun k => g 75 (24 * i + k)) n 20)) r2 g3) := by
    intro g1 S1
    have h1 := h.rdd S1
    have e59 := iv_59 S1
    have e73 : g1 73 = g 73 := S1 73 (by unfold iv_tp; omega)
    have e74 : g1 74 = g 74 := S1 74 (by unfold iv_tp; omega)
    have e75 : g1 75 = g 75 := S1 75 (by unfold iv_tp; omega)
    have off : ∀ g' r (Q : Int64 → sv_Mg → Prop), iv_th g1 g' → g' 59 = g 59 → 1 ≤ r → r < 100 → (∀ g'', sv_sm iv_tp g1 g'' → iv_th g1 g'' → g'' 59 = g 59 → Q (lN (sp_ob (upd (g 59) 6 (nI r)) (fun k => g 75 (24 * i + k)) n)) g'') → wp_X7_offBy F (nI i) (nI r) g' Q := by
      intro g' r Q t e hr1 hr2 q
      refine r_off h1 t (by rw [e, e59]) (by omega) ⟨hr1, hr2⟩ hn (by rw [e74]; exact s5) (by rw [e75]; exact hc) (fun g'' a1 a2 a3 => ?_)
      rw [e59, e75]
      exact q g'' a1 a2 (by rw [a3, e59])
    refine pre g1 _ e73 (br_y c0 (r_th (fun g2 t2 e2 => ?_)))
    refine off g2 1 _ t2 (by rw [e2, e59]) (by omega) (by omega) (fun g3 S3 t3 e3 => ?_)
    have go : ∀ m r g', 1 ≤ r → r ≤ 20 → 21 ≤ r + m → sv_sm iv_tp g1 g' → iv_th g1 g' → g' 59 = g 59 → wp_X7_fits_48 F (fun r2 g3 => iv_E F (if (nI y : Int32) = 0 then nI (sp_fb (g 59) (fun k => g 75 (24 * i + k)) n 20) else nI (sp_fl (g 59) (fun k => g 75 (24 * i + k)) n 20)) r2 g3) m (nI i) (nI y) (nI (sp_fb (g 59) (fun k => g 75 (24 * i + k)) n r)) (lN (sp_fl (g 59) (fun k => g 75 (24 * i + k)) n r)) (nI (r + 1)) g' := by
      intro m
      induction m with
      | zero => intro r g' h1 h2 h3; omega
      | succ m ih =>
        intro r g' hr1 hr2 hr3 S t e
        rw [wp_X7_fits_48, pl_lit 21]
        by_cases hr : 20 ≤ r
        · have er : r = 20 := by omega
          subst er
          refine br_y ((pl_le (by omega) (by omega)).mpr (by omega)) ⟨fun c => ⟨by rw [if_pos c], h1.rdd S⟩, fun c => ⟨?_, h1.rdd S⟩⟩
          rw [if_neg c, lN_i]
        · refine br_n (fun z => absurd ((pl_le (by omega) (by omega)).mp z) (by omega)) (off g' (r + 1) _ t e (by omega) (by omega) (fun g5 S5 t5 e5 => ?_))
          have ih2 := ih (r + 1) g5 (by omega) (by omega) (by omega) S5 t5 e5
          obtain ⟨x1, x2⟩ := sp_fl_s (f := g 59) (c := fun k => g 75 (24 * i + k)) (n := n) (r := r) hr1
          rw [x1, x2] at ih2
          have l1 := lo (r + 1) (by omega) (by omega)
          have l2 := (lf r hr1 (by omega)).1
          have gi := lg_ge (a := sp_ob (upd (g 59) 6 (nI (r + 1))) (fun k => g 75 (24 * i + k)) n) (b := sp_fl (g 59) (fun k => g 75 (24 * i + k)) n r) (by omega) (by omega)
          refine ⟨fun c => br_y c ?_, fun c => br_n c ?_⟩
          · rw [if_pos (gi.mp c), if_pos (gi.mp c)] at ih2
            intro v6 e6
            rw [e6, nI_1]; exact ih2
          · rw [if_neg (fun z => c (gi.mpr z)), if_neg (fun z => c (gi.mpr z))] at ih2
            intro v6 e6
            rw [e6, nI_1]; exact ih2
    exact ⟨20, go 20 1 g3 (by omega) (by omega) (by omega) S3 t3 e3⟩
  have dif : ∀ g' r (Q : Int32 → sv_Mg → Prop), sv_sm iv_tp g g' → 1 ≤ r → r < 100 → (∀ g'', sv_sm iv_tp g g'' → Q (nI (sp_ob (upd (g 59) 6 (nI r)) (fun k => g 75 (24 * i + k)) n)) g'') → wp_X6_differenceWith F (32 + 2 * i) (nI r) g' Q := by
    intro g' r Q S hr1 hr2 q
    have h' := h.rdd S
    have e59 := iv_59 S
    have e32 : g' (32 + 2 * i) = g (32 + 2 * i) := S _ (by unfold iv_tp; omega)
    have e33 : g' (33 + 2 * i) = g (33 + 2 * i) := S _ (by unfold iv_tp; omega)
    refine k_diff h' (by omega) ⟨hr1, hr2⟩ hn (by rw [e32, s2]; exact s5) (by rw [e33]; exact hc33) (fun g'' S'' => ?_)
    rw [e59, e33, ecg]
    exact q g'' (S.tr S'')
  refine dif g 1 _ sv_sm.rf (by omega) (by omega) (fun g1 S1 => ?_)
  have go : ∀ m r g', 1 ≤ r → r ≤ 20 → 21 ≤ r + m → sv_sm iv_tp g g' → wp_X6_fits_50 F (fun r g1 => wp_X7_fits F (nI i) (nI y) g1 (fun r2 g2 => iv_E F r r2 g2)) m (nI y) (32 + 2 * i) (nI (sp_fb (g 59) (fun k => g 75 (24 * i + k)) n r)) (nI (sp_fl (g 59) (fun k => g 75 (24 * i + k)) n r)) (nI (r + 1)) g' := by
    intro m
    induction m with
    | zero => intro r g' h1 h2 h3; omega
    | succ m ih =>
      intro r g' hr1 hr2 hr3 S
      rw [wp_X6_fits_50, pl_lit 20]
      by_cases hr : 20 ≤ r
      · have er : r = 20 := by omega
        subst er
        have rr := ref g' S
        refine br_y ((pl_lt (by omega) (by omega)).mpr (by omega)) ⟨fun c => ?_, fun c => ?_⟩
        · rw [if_pos c] at rr; exact rr
        · rw [if_neg c] at rr; exact rr
      · refine br_n (fun z => absurd ((pl_lt (by omega) (by omega)).mp z) (by omega)) (dif g' (r + 1) _ S (by omega) (by omega) (fun g5 S5 => ?_))
        have ih2 := ih (r + 1) g5 (by omega) (by omega) (by omega) S5
        obtain ⟨x1, x2⟩ := sp_fl_s (f := g 59) (c := fun k => g 75 (24 * i + k)) (n := n) (r := r) hr1
        rw [x1, x2] at ih2
        have l1 := lo (r + 1) (by omega) (by omega)
        have l2 := (lf r hr1 (by omega)).1
        have gi := nI_leI (a := sp_fl (g 59) (fun k => g 75 (24 * i + k)) n r) (b := sp_ob (upd (g 59) 6 (nI (r + 1))) (fun k => g 75 (24 * i + k)) n) (by omega) (by omega)
        refine ⟨fun c => ?_, fun c => ?_⟩
        · rw [if_pos (gi.mp c), if_pos (gi.mp c)] at ih2
          intro v6 e6
          rw [e6, nI_1]; exact ih2
        · rw [if_neg (fun z => c (gi.mpr z)), if_neg (fun z => c (gi.mpr z))] at ih2
          intro v6 e6
          rw [e6, nI_1]; exact ih2
  exact ⟨20, go 20 1 g1 (by omega) (by omega) (by omega) S1⟩
end CH
