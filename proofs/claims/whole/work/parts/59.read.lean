/-! A WHOLE TEXT IS READ, BY BOTH -/
def tx_r (b : Nat → Nat) (n key : Nat) : px_R := px (px_y b n key) 100 true 0 0 0 1
def tx_f (b : Nat → Nat) (n j : Nat) : Prop := (px_key b (tk_i b n 0) = none ∧ j = 0) ∨ ∃ key, px_key b (tk_i b n 0) = some key ∧ j = (tx_r b n key).2.1 ∧ ¬ ((tx_r b n key).1 = true ∧ px_y b n key (tx_r b n key).2.1 = 20013)
def tx_s (b : Nat → Nat) (n key : Nat) (o : List Nat) : Prop := px_key b (tk_i b n 0) = some key ∧ (tx_r b n key).1 = true ∧ px_y b n key (tx_r b n key).2.1 = 20013 ∧ o = (tx_r b n key).2.2
section TX
variable {F : sv_Fr} {g : sv_Mg} {b : Nat → Nat} {n : Nat}
theorem tx_ff {i j : Nat} (h1 : tx_f b n i) (h2 : tx_f b n j) : i = j := by
  rcases h1 with ⟨h1, rfl⟩ | ⟨k, h1, h1', h1''⟩
  · rcases h2 with ⟨h2, rfl⟩ | ⟨k, h2, -⟩
    · rfl
    · rw [h1] at h2; cases h2
  · rcases h2 with ⟨h2, rfl⟩ | ⟨k2, h2, h2', -⟩
    · rw [h1] at h2; cases h2
    · rw [h1] at h2
      cases h2
      rw [h1', h2']
theorem tx_fs {i key : Nat} {o : List Nat} (h1 : tx_f b n i) (h2 : tx_s b n key o) : False := by
  obtain ⟨s1, s2, s3, -⟩ := h2
  rcases h1 with ⟨h1, -⟩ | ⟨k, h1, -, h1'⟩
  · rw [h1] at s1; cases s1
  · rw [h1] at s1
    cases s1
    exact h1' ⟨s2, s3⟩
theorem tx_ss {k1 k2 : Nat} {o1 o2 : List Nat} (h1 : tx_s b n k1 o1) (h2 : tx_s b n k2 o2) : k1 = k2 ∧ o1 = o2 := by
  obtain ⟨s1, s2, s3, s4⟩ := h1
  obtain ⟨r1, r2, r3, r4⟩ := h2
  rw [s1] at r1
  cases r1
  exact ⟨rfl, by rw [s4, r4]⟩
theorem px_key_1 {t : tk_T} {w : Nat} (h : px_key b t = some w) : t.1 = 1 ∧ w < 3 := by
  unfold px_key at h
  split at h
  · rename_i c; cases h; exact ⟨(of_decide_eq_true c).1, by omega⟩
  · split at h
    · rename_i c; cases h; exact ⟨(of_decide_eq_true c).1, by omega⟩
    · split at h
      · rename_i c; cases h; exact ⟨(of_decide_eq_true c).1, by omega⟩
      · cases h
theorem px_key_n {w : Nat} (hb : ∀ k, k < n → b k < 256) (h : px_key b (tk_i b n 0) = some w) : 1 ≤ n := by
  have h1 := (px_key_1 h).1
  have := tk_i_lt hb 0 (by omega)
  have := (tk_i_ok hb 0).2.2.1
  omega
theorem k_read {Q : Int32 → sv_Mg → Prop} (hn : n ≤ 96) (hb : ∀ k, k < n → b k < 256) (hB : tk_kb b n g) (qf : ∀ j, tx_f b n j → ∀ g', px_F b n g j g' → Q (nI (tk_i b n j).2.1) g') (qs : ∀ key o, key < 3 → tx_s b n key o → ∀ g' i, px_K b n key g i (px_lv o) o g' → Q (-1) g') : wp_X3_read F g Q := by
  intro g1 e1 g2 e2 g3 e3 g4 e4
  have S4 : sv_sm (fun k => k = 4) g g4 := by rw [e4, e3, e2, e1]; exact ((((sv_sm.rf (T := fun k => k = 4)).st rfl).st rfl).st rfl).st rfl
  have B4 : tk_kb b n g4 := by
    refine ⟨?_, fun k hk => by rw [S4 5 (by omega)]; exact hB.2 k hk⟩
    rw [e4, st_nk (by omega), e3, st_nk (by omega), e2, st_nk (by omega), e1, st_nk (by omega)]; exact hB.1
  have f2 : g4 4 2 = nI 0 := by rw [e4, st_nk (by omega), e3, st_nk (by omega), e2, st_nk (by omega), e1, st_at]; rfl
  have f4 : g4 4 4 = nI 0 := by rw [e4, st_nk (by omega), e3, st_nk (by omega), e2, st_at]; rfl
  have f7 : g4 4 7 = nI 0 := by rw [e4, st_nk (by omega), e3, st_at]; rfl
  have f9 : g4 4 9 = nI 0 := by rw [e4, st_at]; rfl
  refine k_next hn hb B4 (by omega) f2 (Nat.zero_le n) f4 (fun g5 S5 j5 K5 => ?_)
  have K5 : tk_K (tk_i b n 0) g5 := K5
  have B5 : tk_kb b n g5 := ⟨by rw [j5 1 (by omega)]; exact B4.1, fun k hk => by rw [S5 5 (by omega)]; exact B4.2 k hk⟩
  have S5' : sv_sm (fun k => k = 4) g g5 := S4.tr S5
  have w46 : ∀ g', sv_sm (fun k => k = 4) g g' → sv_sm (fun k => k = 4 ∨ k = 6) g g' := fun g' h => h.mono (fun k z => Or.inl z)
  refine k_key hn hb B5 K5 (tk_i_ok hb 0) (fun hk => br_y rfl (br_y rfl ?_)) (fun w hw hk g6 S6 j6 k6 K6 => br_n ne10 ?_)
  · rw [K5.2.1]
    exact qf 0 (Or.inl ⟨hk, rfl⟩) g5 ⟨w46 _ S5', K5.2.1⟩
  have K6 : tk_K (tk_i b n 1) g6 := K6
  have hn1 := px_key_n hb hk
  have hK : px_K b n w g 1 0 [] g6 := by
    refine ⟨w46 _ (S5'.tr S6), ⟨by rw [j6 1 (by omega)]; exact B5.1, fun k hk => by rw [S6 5 (by omega)]; exact B5.2 k hk⟩, K6, k6, ?_, ?_, fun k hk => absurd hk (Nat.not_lt_zero k)⟩
    · rw [j6 7 (by omega), j5 7 (by omega)]; exact f7
    · rw [j6 9 (by omega), j5 9 (by omega)]; exact f9
  refine k_rc (g0 := g) hn hb hw 100 true 0 0 0 1 0 [] g6 _ hK (by unfold px_fu; rw [if_pos rfl]; omega) (Nat.le_refl _) hn1 (fun cr g7 h7 => br_n ne10 ?_) (fun cr g7 h7 => br_y rfl (br_y rfl ?_))
  · have okj := tk_i_ok hb (px (px_y b n w) 100 true 0 0 0 1).2.1
    have K7 := h7.2.2.1
    rw [K7.1]
    refine ⟨fun c => ?_, fun c => ?_⟩
    · have c0 := (pl_eq (b := 0) (by have := okj.1; omega) (by omega)).mp c
      refine br_n ne10 ?_
      rw [List.nil_append, Nat.zero_add] at h7
      exact qs w _ hw ⟨hk, cr, (px_sy_end okj).mpr c0, rfl⟩ g7 _ h7
    · refine br_y rfl ?_
      rw [K7.2.1]
      refine qf _ (Or.inr ⟨w, hk, rfl, fun z => c ?_⟩) g7 h7.f
      rw [(px_sy_end okj).mp z.2]; rfl
  · rw [h7.2]
    exact qf _ (Or.inr ⟨w, hk, rfl, fun z => by rw [show (tx_r b n w).1 = false from cr] at z; exact Bool.false_ne_true z.1⟩) g7 h7
theorem r_takesE {key : Nat} {g0 : sv_Mg} {Q : Int32 → sv_Mg → Prop} (hn : n ≤ 96) (hb : ∀ k, k < n → b k < 256) (hk : key < 3) (hn1 : 1 ≤ n) (hf : px_fr g0 g) (hB : tk_rb b n g) (hR : tk_R (tk_i b n 1) g) (h14 : g 58 14 = nI key) (q0 : ¬ ((tx_r b n key).1 = true ∧ px_y b n key (tx_r b n key).2.1 = 20013) → ∀ g', px_G b n g0 (tx_r b n key).2.1 g' → Q 0 g') (q1 : (tx_r b n key).1 = true → px_y b n key (tx_r b n key).2.1 = 20013 → ∀ g' i a, px_B b n key g0 i [] (tx_r b n key).2.2 a g' → Q 1 g') : wp_X7_takesE F g Q := by
  intro g1 e1 g2 e2 g3 e3 g4 e4
  have hB4 : px_B b n key g0 1 [] [] (upd (g 70) 0 0) g4 := by
    rw [e4, e3, e2, e1]
    refine ⟨(((hf.st (by omega)).st (by omega)).st (by omega)).st (by omega), (((hB.st (by omega)).st (by omega)).st (by omega)).st (by omega), (((hR.st (by omega)).st (by omega)).st (by omega)).st (by omega), ?_, ?_, ⟨⟨?_, fun k hk => absurd hk (Nat.not_lt_zero k)⟩, ?_, True.intro⟩, ?_⟩
    · rw [st_ne (by omega), st_nk (by omega), st_nk (by omega), st_nk (by omega)]; exact h14
    · rw [st_ne (by omega), st_nk (by omega), st_at]; rfl
    · rw [st_ne (by omega), st_nk (by omega), st_nk (by omega), st_at]; rfl
    · rw [st_ne (by omega), st_at]; rfl
    · rw [upd_st, st_ne (by omega), st_ne (by omega), st_ne (by omega)]
  have hN := px_y_N (key := key) hb
  have st := r_steps (F := F) (Q := Q) (g0 := g0) hn hb hk
  have E := (px_eq st hN hn 100).1 0 0 1 [] [] (fun _ => false) (by omega) True.intro (fun _ => rfl) hn1 (by omega) (by decide) (by decide)
  have X1 : px_X F Q b n key g0 1 0 true [] [] (fun _ => false) := by
    have e0 : px (px_y b n key) 100 true 0 0 (px_nt []) 1 = tx_r b n key := rfl
    rw [e0] at E
    by_cases cr : (tx_r b n key).1 = true
    · refine E.2 cr (fun P D t hps => ?_)
      rw [List.append_nil]
      by_cases c13 : px_y b n key (tx_r b n key).2.1 = 20013
      · refine r_last hn hb c13 (fun z hz => by have := hps.2.1 z hz; omega) (fun g' a h' => ?_)
        rw [hps.1, List.nil_append] at h'
        exact q1 cr c13 g' _ a h'
      · refine st.2.2.2.2.2.2.2.1 _ 0 P D _ c13 (fun z => absurd z.2 (by omega)) (fun a1 a2 => ?_) (q0 (fun z => c13 z.2))
        have a3 := px_rk_sp a1 a2
        have := hps.2.2.1 a1 a2 (by omega)
        exact ⟨this.1, by rw [px_up_at]; exact this.2.2⟩
    · exact E.1 (Bool.eq_false_iff.mpr cr) (q0 (fun z => cr z.1))
  refine ⟨n + 1 - 1, X1 g4 ⟨_, hB4, fun j hj => ?_, ⟨Nat.le_refl _, hn1, by omega⟩, fun z hz => absurd hz List.not_mem_nil⟩⟩
  rw [show j = 0 by omega, pk_us]; rfl
theorem r_read {Q : Int32 → sv_Mg → Prop} (hn : n ≤ 96) (hb : ∀ k, k < n → b k < 256) (hB : tk_rb b n g) (hc : px_cn g) (qf : ∀ j, tx_f b n j → ∀ g', px_G b n g j g' → wp_X7_text_33 F Q 0 g') (qs : ∀ key o, key < 3 → tx_s b n key o → ∀ g' i a, px_B b n key g i [] o a g' → wp_X7_text_33 F Q 1 g') : wp_X7_text F g Q := by
  intro g1 e1 g2 e2
  have f2 : px_fr g g2 := by
    have z : px_fr g g := ⟨sv_sm.rf, fun _ _ => rfl⟩
    rw [e2, e1]; exact (z.st (by omega)).st (by omega)
  have B2 : tk_rb b n g2 := by rw [e2, e1]; exact (hB.st (by omega)).st (by omega)
  refine r_tok (w := false) (p := 0) hn hb B2 (Nat.zero_le n) ?_ (fun z => (Bool.false_ne_true z).elim) (fun _ => Or.inl ?_) (fun g3 O3 R3 => ?_)
  · rw [e2, st_nk (by omega), e1, st_at]; rfl
  · rw [e2, st_at]
  have R3 : tk_R (tk_i b n 0) g3 := R3
  have B3 := O3.rb B2
  have f3 : px_fr g g3 := ⟨f2.1.tr (O3.1.mono (fun k z => Or.inl z)), fun j hj => by rw [O3.2 j (by omega)]; exact f2.2 j hj⟩
  have c3 : px_cn g3 := by
    unfold px_cn
    rw [f3.1 67 (by omega), f3.1 66 (by omega)]
    exact hc
  refine r_key hn hb B3 c3 R3 (tk_i_ok hb 0) (fun hk => br_y rfl (qf 0 (Or.inl ⟨hk, rfl⟩) g3 ⟨f3, R3.2.1⟩)) (fun w hw hk g4 S4 j4 k4 R4 => br_n ne10 ?_)
  have R4 : tk_R (tk_i b n 1) g4 := R4
  have f4 : px_fr g g4 := ⟨f3.1.tr (S4.mono (fun k z => Or.inl z)), fun j hj => by rw [j4 j (by omega)]; exact f3.2 j hj⟩
  have B4 : tk_rb b n g4 := ⟨by rw [j4 8 (by omega)]; exact B3.1, fun k hk => by rw [S4 65 (by omega)]; exact B3.2 k hk⟩
  exact r_takesE hn hb hw (px_key_n hb hk) f4 B4 R4 k4 (fun hnot g5 h5 => br_y rfl (qf _ (Or.inr ⟨w, hk, rfl, hnot⟩) g5 h5)) (fun h1 h2 g5 i a h5 => br_n ne10 (qs w _ hw ⟨hk, h1, h2, rfl⟩ g5 i a h5))
end TX
