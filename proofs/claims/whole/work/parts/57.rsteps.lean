/-! THE REFERENCE'S PARSER, STEP BY STEP -/
def px_fr (g0 g : sv_Mg) : Prop := sv_sm (fun k => k = 58 ∨ (68 ≤ k ∧ k ≤ 70)) g0 g ∧ ∀ j, j < 9 ∨ 21 < j → g 58 j = g0 58 j
def px_B (b : Nat → Nat) (n key : Nat) (g0 : sv_Mg) (i : Nat) (H C : List Nat) (a : Nat → Int32) (g : sv_Mg) : Prop := px_fr g0 g ∧ tk_rb b n g ∧ tk_R (tk_i b n i) g ∧ g 58 14 = nI key ∧ g 58 19 = nI (px_lv C) ∧ px_M H C g ∧ g 70 = a
def px_S (b : Nat → Nat) (n key : Nat) (g0 : sv_Mg) (i p : Nat) (H C : List Nat) (T : Nat → Bool) (g : sv_Mg) : Prop := ∃ a, px_B b n key g0 i H C a g ∧ (∀ q, q ≤ p → a q = sp_b (T q)) ∧ (H.length + C.length + 1 ≤ i ∧ i ≤ n ∧ p ≤ 8) ∧ ∀ z ∈ H, 20001 ≤ z ∧ z ≤ 20011
def px_G (b : Nat → Nat) (n : Nat) (g0 : sv_Mg) (i : Nat) (g : sv_Mg) : Prop := px_fr g0 g ∧ g 58 10 = nI (tk_i b n i).2.1
def px_X (F : sv_Fr) (Q : Int32 → sv_Mg → Prop) (b : Nat → Nat) (n key : Nat) (g0 : sv_Mg) (i p : Nat) (w : Bool) (H C : List Nat) (T : Nat → Bool) : Prop := ∀ g, px_S b n key g0 i p H C T g → wp_X7_takesE_28 F Q (n + 1 - i) (nI p) (nI (px_nt H)) (sp_b w) g
section RS
variable {F : sv_Fr} {g g0 : sv_Mg} {b : Nat → Nat} {n key : Nat}
theorem px_B.gg {i : Nat} {H C : List Nat} {a : Nat → Int32} (h : px_B b n key g0 i H C a g) : px_G b n g0 i g := ⟨h.1, h.2.2.1.2.1⟩
theorem px_go {i : Nat} {H C : List Nat} {a : Nat → Int32} {Q : sv_Mg → Prop} (hn : n ≤ 96) (hb : ∀ k, k < n → b k < 256) (h : px_B b n key g0 i H C a g) (h1 : (tk_i b n i).1 = 1 ∨ (tk_i b n i).1 = 2 ∨ (tk_i b n i).1 = 3) (q : ∀ g', px_B b n key g0 (i + 1) H C a g' → Q g') : wp_X7_go F g Q := by
  obtain ⟨⟨S, J⟩, B, R, k14, k19, ⟨⟨m1, m2⟩, m3, m4⟩, k70⟩ := h
  refine r_nx hn hb B R h1 (fun g' O' R' => q g' ⟨⟨S.tr (O'.1.mono (fun k z => Or.inl z)), fun j hj => ?_⟩, O'.rb B, R', ?_, ?_, ⟨⟨?_, fun k hk => ?_⟩, ?_, ?_⟩, ?_⟩)
  · rw [O'.2 j (by omega)]; exact J j hj
  · rw [O'.2 14 (by omega)]; exact k14
  · rw [O'.2 19 (by omega)]; exact k19
  · rw [O'.2 18 (by omega)]; exact m1
  · rw [O'.1 68 (by omega)]; exact m2 k hk
  · rw [O'.2 21 (by omega)]; exact m3
  · rw [O'.1 69 (by omega)]; exact m4
  · rw [O'.1 70 (by omega)]; exact k70
theorem tk_R.st {t : tk_T} {a k : Nat} {x : Int32} (h : tk_R t g) (ha : a ≠ 58 ∨ k < 9 ∨ 13 < k) : tk_R t (sv_st g a k x) := by
  have e : ∀ j, 9 ≤ j → j ≤ 13 → sv_st g a k x 58 j = g 58 j := by
    intro j j1 j2
    by_cases c : a = 58
    · subst c; exact st_nk (by omega)
    · rw [st_ne (fun z => c z.symm)]
  unfold tk_R
  rw [e 11 (by omega) (by omega), e 10 (by omega) (by omega), e 9 (by omega) (by omega), e 12 (by omega) (by omega), e 13 (by omega) (by omega)]
  exact h
theorem tk_rb.st {a k : Nat} {x : Int32} (h : tk_rb b n g) (ha : (a ≠ 58 ∨ k ≠ 8) ∧ a ≠ 65) : tk_rb b n (sv_st g a k x) := by
  refine ⟨?_, fun j hj => by rw [st_ne (fun z => ha.2 z.symm)]; exact h.2 j hj⟩
  by_cases c : a = 58
  · subst c; rw [st_nk (by omega)]; exact h.1
  · rw [st_ne (fun z => c z.symm)]; exact h.1
theorem px_fr.st {a k : Nat} {x : Int32} (h : px_fr g0 g) (ha : (a = 58 ∧ 9 ≤ k ∧ k ≤ 21) ∨ (68 ≤ a ∧ a ≤ 70)) : px_fr g0 (sv_st g a k x) := by
  refine ⟨h.1.st (by omega), fun j hj => ?_⟩
  rcases ha with ⟨rfl, k1, k2⟩ | ha
  · rw [st_nk (by omega)]; exact h.2 j hj
  · rw [st_ne (by omega)]; exact h.2 j hj
/-- one more waits -/
theorem px_B.push {i z : Nat} {H C : List Nat} {a : Nat → Int32} {x : Int32} (h : px_B b n key g0 i H C a g) (hx : x = px_rc z) : px_B b n key g0 i (z :: H) C a (sv_st (sv_st g 69 H.length x) 58 21 (nI (H.length + 1))) := by
  obtain ⟨S, B, R, k14, k19, ⟨⟨m1, m2⟩, m3, m4⟩, k70⟩ := h
  subst hx
  refine ⟨(S.st (by omega)).st (by omega), (B.st (by omega)).st (by omega), (R.st (by omega)).st (by omega), ?_, ?_, ⟨⟨?_, fun k hk => ?_⟩, ?_, ?_, ?_⟩, ?_⟩
  · rw [st_nk (by omega), st_ne (by omega)]; exact k14
  · rw [st_nk (by omega), st_ne (by omega)]; exact k19
  · rw [st_nk (by omega), st_ne (by omega)]; exact m1
  · rw [st_ne (by omega), st_ne (by omega)]; exact m2 k hk
  · rw [st_at, List.length_cons]
  · rw [st_ne (by omega), st_at]
  · rw [st_ne (by omega), upd_st]; exact px_sk_up m4 (Nat.le_refl _)
  · rw [st_ne (by omega), st_ne (by omega)]; exact k70
theorem px_lv_op : ∀ {P : List Nat}, (∀ z ∈ P, 20000 ≤ z) → px_lv P = 0
  | [], _ => rfl
  | z :: P, h => by
    have := h z List.mem_cons_self
    rw [px_lv, if_neg (by omega), px_lv_op (fun x hx => h x (List.mem_cons_of_mem _ hx))]
theorem px_settle {i v : Nat} {w : Int32} {P H C : List Nat} {a : Nat → Int32} {Q : sv_Mg → Prop} (h : px_B b n key g0 i (P ++ H) C a g) (hw : w = nI v) (hv : v < 10) (h0 : px_stp v H) (hP : ∀ z ∈ P, 20001 ≤ z ∧ z ≤ 20010 ∧ v ≤ px_rk z) (hl : (P ++ H).length + C.length < 96) (q : ∀ g', px_B b n key g0 i H (C ++ P) a g' → Q g') : wp_X7_settle F w g Q := by
  obtain ⟨S, B, R, k14, k19, M, k70⟩ := h
  refine ⟨_, r_settle hw hv h0 M hP hl (fun g' M' S' J' => q g' ⟨⟨S.1.tr (S'.mono (fun k z => by omega)), fun j hj => ?_⟩, ⟨?_, fun k hk => ?_⟩, ?_, ?_, ?_, M', ?_⟩)⟩
  · rw [J' j (by omega) (by omega)]; exact S.2 j hj
  · rw [J' 8 (by omega) (by omega)]; exact B.1
  · rw [S' 65 (by omega)]; exact B.2 k hk
  · unfold tk_R
    rw [J' 11 (by omega) (by omega), J' 10 (by omega) (by omega), J' 9 (by omega) (by omega), J' 12 (by omega) (by omega), J' 13 (by omega) (by omega)]
    exact R
  · rw [J' 14 (by omega) (by omega)]; exact k14
  · rw [J' 19 (by omega) (by omega), px_lv_app, px_lv_op (P := P) (fun z hz => by have := hP z hz; omega)]; exact k19
  · rw [S' 70 (by omega)]; exact k70
theorem px_B.lf {i z : Nat} {H C : List Nat} {a : Nat → Int32} {x : Int32} (h : px_B b n key g0 i H C a g) (hx : x = px_rc z) (hz : z < 20000) : px_B b n key g0 i H (C ++ [z]) a (sv_st (sv_st (sv_st g 68 C.length x) 58 18 (nI (C.length + 1))) 58 19 (nI (px_lv C + 1))) := by
  obtain ⟨S, B, R, k14, k19, ⟨⟨m1, m2⟩, m3, m4⟩, k70⟩ := h
  subst hx
  refine ⟨((S.st (by omega)).st (by omega)).st (by omega), ((B.st (by omega)).st (by omega)).st (by omega), ((R.st (by omega)).st (by omega)).st (by omega), ?_, ?_, ⟨⟨?_, fun k hk => ?_⟩, ?_, ?_⟩, ?_⟩
  · rw [st_nk (by omega), st_nk (by omega), st_ne (by omega)]; exact k14
  · rw [st_at, px_lv_app, px_lv, if_pos hz]; rfl
  · rw [st_nk (by omega), st_at, List.length_append]; rfl
  · rw [st_ne (by omega), st_ne (by omega), upd_st]
    have : (C ++ [z]).length = C.length + 1 := by rw [List.length_append]; rfl
    by_cases c : k < C.length
    · rw [pk_un (by omega), m2 k c, px_gl c]
    · have : k = C.length := by omega
      subst this
      rw [pk_us, px_gr]
  · rw [st_nk (by omega), st_nk (by omega), st_ne (by omega)]; exact m3
  · rw [st_ne (by omega), st_ne (by omega), st_ne (by omega)]; exact m4
  · rw [st_ne (by omega), st_ne (by omega), st_ne (by omega)]; exact k70
theorem px_B.ts {i p : Nat} {H C : List Nat} {a : Nat → Int32} {x : Int32} (h : px_B b n key g0 i H C a g) : px_B b n key g0 i H C (upd a p x) (sv_st g 70 p x) := by
  obtain ⟨S, B, R, k14, k19, ⟨⟨m1, m2⟩, m3, m4⟩, k70⟩ := h
  refine ⟨S.st (by omega), B.st (by omega), R.st (by omega), ?_, ?_, ⟨⟨?_, fun k hk => ?_⟩, ?_, ?_⟩, ?_⟩
  · rw [st_ne (by omega)]; exact k14
  · rw [st_ne (by omega)]; exact k19
  · rw [st_ne (by omega)]; exact m1
  · rw [st_ne (by omega)]; exact m2 k hk
  · rw [st_ne (by omega)]; exact m3
  · rw [st_ne (by omega)]; exact m4
  · rw [upd_st, k70]
theorem px_nt_op {H : List Nat} : ∀ {P : List Nat}, px_opl P 0 → px_nt (P ++ H) = px_nt H
  | [], _ => rfl
  | z :: P, h => by
    have := h z List.mem_cons_self
    rw [List.cons_append, px_nt, if_neg (by omega), px_nt_op (fun x hx => h x (List.mem_cons_of_mem _ hx)), Nat.zero_add]
/-- sort of the token behind a symbol -/
theorem px_sort {t : tk_T} (ht : tk_ok n t) : (px_sy key t < 20000 → t.1 = 2 ∨ t.1 = 1) ∧ (20001 ≤ px_sy key t → px_sy key t ≤ 20012 → t.1 = 3) := by
  refine ⟨fun h => ?_, fun h1 h2 => ?_⟩
  · apply Classical.byContradiction
    intro c
    unfold px_sy at h
    by_cases c0 : t.1 = 0
    · rw [if_pos c0] at h; omega
    rw [if_neg c0, if_neg (by omega)] at h
    by_cases c3 : t.1 = 3
    · rw [if_pos c3] at h; have := px_sg_r _ (ht.2.2.2.2.2.1 (Or.inr c3)); omega
    · rw [if_neg c3, if_neg (by omega)] at h; omega
  · apply Classical.byContradiction
    intro c
    have := px_sy_ns (key := key) ht c
    omega
/-- a part is taken, or not -/
theorem r_part {i : Nat} {H C : List Nat} {k : Nat} {a : Nat → Int32} {Q : Int32 → sv_Mg → Prop} (hn : n ≤ 96) (hb : ∀ k, k < n → b k < 256) (hk : key < 3) (h : px_B b n key g0 i (List.replicate k 20010 ++ H) C a g) (h0 : px_stp 6 H) (hl : (List.replicate k 20010 ++ H).length + C.length + 1 ≤ i) (hi : i ≤ n) (q1 : px_y b n key i < 20000 → ∀ g', px_B b n key g0 (i + 1) H (C ++ [px_y b n key i] ++ List.replicate k 20010) a g' → Q 1 g') (q0 : ¬ px_y b n key i < 20000 → Q 0 g) : wp_X7_takesPart F g Q := by
  have ok := tk_i_ok hb i
  have hN := px_y_N (key := key) hb i
  obtain ⟨S, B, R, k14, k19, M, k70⟩ := id h
  have t5 := ok.1
  -- the part is one
  have s87 : ∀ (x : Int32), px_y b n key i < 20000 → x = px_rc (px_y b n key i) → ((tk_i b n i).1 = 1 ∨ (tk_i b n i).1 = 2 ∨ (tk_i b n i).1 = 3) → wp_X7_takesPart_87 F Q x (g 58 18) g := by
    intro x hy hx ht
    have hiN := hN (by omega)
    rw [M.1.1]
    refine ⟨pl_in (by omega) (by omega), ?_⟩
    rw [pl_clamp (by omega)]
    intro g1 e1 g2 e2 g3 e3
    have f18 : g1 58 18 = nI C.length := by rw [e1, st_ne (by omega)]; exact M.1.1
    have f19 : g2 58 19 = nI (px_lv C) := by rw [e2, st_nk (by omega), e1, st_ne (by omega)]; exact k19
    rw [f18, nI_1] at e2
    rw [f19, nI_1] at e3
    have h3 : px_B b n key g0 i (List.replicate k 20010 ++ H) (C ++ [px_y b n key i]) a g3 := by rw [e3, e2, e1]; exact h.lf hx hy
    refine px_settle (v := 6) h3 rfl (by omega) h0 (fun z hz => ?_) ?_ (fun g4 h4 => px_go hn hb h4 ht (fun g5 h5 => q1 hy g5 h5))
    · rw [List.eq_of_mem_replicate hz]; decide
    · have : (C ++ [px_y b n key i]).length = C.length + 1 := by rw [List.length_append]; rfl
      omega
  unfold wp_X7_takesPart wp_X7_takesPart_36
  rw [R.1]
  have e1 : nI (tk_i b n i).1 = 1 ↔ (tk_i b n i).1 = 1 := pl_eq (b := 1) (by omega) (by omega)
  have e2 : nI (tk_i b n i).1 = 2 ↔ (tk_i b n i).1 = 2 := pl_eq (b := 2) (by omega) (by omega)
  have hy : px_y b n key i = px_sy key (tk_i b n i) := rfl
  rw [e1]
  refine ⟨fun c1 => ?_, fun c1 => ?_⟩
  · have hv := ok.2.2.2.2.2.1 (Or.inl c1)
    have hse := ok.2.1
    have hen := ok.2.2.1
    rw [R.2.2.1, R.2.1, pk_sub hse]
    have n37 : ¬ px_y b n key i < 20000 → wp_X7_takesPart_37 F Q 0 g := by
      intro c
      unfold wp_X7_takesPart_37
      rw [R.1, e2]
      exact br_n (by omega) (br_y rfl (q0 c))
    unfold px_sy at hy
    rw [if_neg (by omega), if_neg (by omega), if_neg (by omega)] at hy
    refine ⟨fun cl => ?_, fun cl => n37 ?_⟩
    · have cl : (tk_i b n i).2.2.1 - (tk_i b n i).2.1 = 1 := (pl_eq (b := 1) (by omega) (by omega)).mp cl
      rw [if_pos ⟨c1, cl⟩] at hy
      rw [R.2.2.2.1 (Or.inl c1)]
      refine r_name hk k14 hv ?_
      cases en : px_nm key (tk_i b n i).2.2.2 with
      | none =>
        rw [en] at hy
        refine br_y (by decide) (n37 ?_)
        rw [hy]; decide
      | some j =>
        rw [en] at hy
        have hy : px_y b n key i = 10000 + j := hy
        have hj := px_nm_lt en
        have := sp_nx_le key
        refine br_n (pl_nn (a := j) (by omega)) ?_
        unfold wp_X7_takesPart_37 wp_X7_takesPart_52
        rw [R.1, e2]
        refine br_n (by omega) (br_n ne10 (br_n (by omega) ?_))
        rw [R.2.2.2.1 (Or.inl c1)]
        refine r_name hk k14 hv ?_
        rw [en]
        refine s87 _ (by omega) ?_ (Or.inl c1)
        rw [hy, px_rc, if_pos (by omega), pl_lit 10000]
        exact nI_add 10000 j
    · rw [if_neg (fun z => cl (by rw [z.2]; rfl))] at hy
      omega
  · unfold wp_X7_takesPart_37 wp_X7_takesPart_52
    rw [R.1, e2]
    refine ⟨fun c2 => ⟨fun _ => ?_, fun z => absurd c2 z⟩, fun c2 => br_y rfl (q0 (fun z => ?_))⟩
    · have hv := ok.2.2.2.2.2.2 c2
      unfold px_sy at hy
      rw [if_neg (by omega), if_pos c2] at hy
      refine s87 _ (by omega) ?_ (Or.inr (Or.inl c2))
      rw [R.2.2.2.1 (Or.inr (Or.inl c2)), hy, px_rc, if_pos (by omega)]
    · have := (px_sort (key := key) ok).1 z
      omega
end RS
