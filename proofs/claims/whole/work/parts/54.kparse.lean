/-! SYMBOLS OF TOKENS; THE SYSTEM'S PARSER AT WORK -/
def px_sg (v : Nat) : Nat := if v = 124 then 20001 else if v = 38 then 20002 else if v = 60 then 20003 else if v = 61 then 20004 else if v = 62 then 20005 else if v = 43 then 20006 else if v = 45 then 20007 else if v = 42 then 20008 else if v = 47 then 20009 else if v = 33 then 20010 else if v = 40 then 20011 else if v = 41 then 20012 else 20014
def px_nm (key v : Nat) : Option Nat := if key = 0 then (if v = 102 then some 0 else if v = 114 then some 1 else if v = 112 then some 2 else none) else if key = 1 then (if v = 114 then some 0 else if v = 119 then some 1 else none) else (if v = 102 then some 0 else if v = 119 then some 1 else none)
def px_nc (o : Option Nat) : Nat := match o with
  | some j => 10000 + j
  | none => 20014
def px_sy (key : Nat) (t : tk_T) : Nat := if t.1 = 0 then 20013 else if t.1 = 2 then t.2.2.2 else if t.1 = 3 then px_sg t.2.2.2 else if t.1 = 1 ∧ t.2.2.1 - t.2.1 = 1 then px_nc (px_nm key t.2.2.2) else 20014
def px_y (b : Nat → Nat) (n key i : Nat) : Nat := px_sy key (tk_i b n i)
/-- a symbol as the reference's code, and as the system's -/
def px_rc (z : Nat) : Int32 := if z < 20000 then nI z else -nI (z - 20000)
def px_cd (z : Nat) : Int32 := sp_tr (px_rc z)
def px_lv : List Nat → Nat
  | [] => 0
  | z :: l => (if z < 20000 then 1 else 0) + px_lv l
theorem px_lv_app : ∀ {a c : List Nat}, px_lv (a ++ c) = px_lv a + px_lv c
  | [], c => by rw [List.nil_append, px_lv, Nat.zero_add]
  | z :: a, c => by rw [List.cons_append, px_lv, px_lv, px_lv_app, Nat.add_assoc]
theorem px_gl {a c : List Nat} {k : Nat} (h : k < a.length) : (a ++ c).getD k 0 = a.getD k 0 := by
  rw [List.getD_eq_getElem?_getD, List.getD_eq_getElem?_getD, List.getElem?_append_left h]
theorem px_gr {a : List Nat} {z : Nat} : (a ++ [z]).getD a.length 0 = z := by
  rw [List.getD_eq_getElem?_getD, List.getElem?_append_right (Nat.le_refl _), Nat.sub_self]
  rfl
theorem px_sg_r : ∀ v, v < 256 → (20001 ≤ px_sg v ∧ px_sg v ≤ 20012) ∨ px_sg v = 20014 := by decide +kernel
theorem px_sg_k : ∀ v, v < 256 → 20001 ≤ px_sg v → px_sg v ≤ 20009 → (20000 + nI v : Int32) = px_cd (px_sg v) := by decide +kernel
theorem px_cd33 : (20033 : Int32) = px_cd 20010 := by decide
theorem px_ix : ∀ s, s < 14 → 6 ≤ s → ∀ v, v < 256 → (sp_ixf (sv_byt.getD s []) ((nI v).toInt8.toInt32) (sv_len.getD s 0) 0 < 0 ↔ px_in s (px_sg v) = false) := by decide +kernel
theorem px_ixn : ∀ k, k < 3 → ∀ v, v < 256 → sp_ixf (sv_byt.getD (3 + k) []) ((nI v).toInt8.toInt32) (sv_len.getD (3 + k) 0) 0 = sp_o (px_nm k v) := by decide +kernel
theorem px_nm_lt {k v j : Nat} (h : px_nm k v = some j) : j < sp_nx k := by
  unfold px_nm at h
  unfold sp_nx
  split at h
  · rw [if_pos (by assumption)]
    split at h
    · cases h; omega
    · split at h
      · cases h; omega
      · split at h
        · cases h; omega
        · cases h
  · rw [if_neg (by assumption)]
    split at h
    · split at h
      · cases h; omega
      · split at h
        · cases h; omega
        · cases h
    · split at h
      · cases h; omega
      · split at h
        · cases h; omega
        · cases h
section KP
variable {F : sv_Fr} {g g0 : sv_Mg} {b : Nat → Nat} {n key : Nat}
theorem px_sy_leaf {t : tk_T} (ht : tk_ok n t) (h : px_sy key t < 20000) : px_sy key t < 10000 + sp_nx key := by
  obtain ⟨t1, -, -, -, -, t6, t7⟩ := ht
  unfold px_sy at h ⊢
  by_cases c0 : t.1 = 0
  · rw [if_pos c0] at h; omega
  rw [if_neg c0] at h ⊢
  by_cases c2 : t.1 = 2
  · rw [if_pos c2]; have := t7 c2; omega
  rw [if_neg c2] at h ⊢
  by_cases c3 : t.1 = 3
  · rw [if_pos c3] at h; have := px_sg_r _ (t6 (Or.inr c3)); omega
  rw [if_neg c3] at h ⊢
  by_cases c1 : t.1 = 1 ∧ t.2.2.1 - t.2.1 = 1
  · rw [if_pos c1] at h ⊢
    cases e : px_nm key t.2.2.2 with
    | none => rw [e] at h; exact absurd h (by decide)
    | some j => have := px_nm_lt e; show 10000 + j < _; omega
  · rw [if_neg c1] at h; omega
theorem px_sy_end {t : tk_T} (ht : tk_ok n t) : px_sy key t = 20013 ↔ t.1 = 0 := by
  obtain ⟨t1, -, -, -, -, t6, t7⟩ := ht
  unfold px_sy
  by_cases c0 : t.1 = 0
  · rw [if_pos c0]; exact ⟨fun _ => c0, fun _ => rfl⟩
  rw [if_neg c0]
  refine ⟨fun h => ?_, fun h => absurd h c0⟩
  exfalso
  by_cases c2 : t.1 = 2
  · rw [if_pos c2] at h; have := t7 c2; omega
  rw [if_neg c2] at h
  by_cases c3 : t.1 = 3
  · rw [if_pos c3] at h; have := px_sg_r _ (t6 (Or.inr c3)); omega
  rw [if_neg c3] at h
  by_cases c1 : t.1 = 1 ∧ t.2.2.1 - t.2.1 = 1
  · rw [if_pos c1] at h
    cases e : px_nm key t.2.2.2 with
    | none => rw [e] at h; exact absurd h (by decide)
    | some j => have := px_nm_lt e; have := sp_nx_le key; rw [e] at h; have h : 10000 + j = 20013 := h; omega
  · rw [if_neg c1] at h; omega
theorem px_y_N (hb : ∀ k, k < n → b k < 256) : ∀ k, px_y b n key k ≠ 20013 → k < n := by
  intro k h
  have h0 : (tk_i b n k).1 ≠ 0 := fun z => h ((px_sy_end (tk_i_ok hb k)).mpr z)
  have := tk_i_lt hb k h0
  have := (tk_i_ok hb k).2.2.1
  omega
/-- a token that is no sign is none of the signs -/
theorem px_in_ns {t : tk_T} {s : Nat} (ht : tk_ok n t) (h3 : t.1 ≠ 3) : px_in s (px_sy key t) = false := by
  have key2 : px_sy key t < 20000 ∨ 20013 ≤ px_sy key t := by
    obtain ⟨t1, -, -, -, -, t6, t7⟩ := ht
    unfold px_sy
    by_cases c0 : t.1 = 0
    · rw [if_pos c0]; omega
    rw [if_neg c0]
    by_cases c2 : t.1 = 2
    · rw [if_pos c2]; have := t7 c2; omega
    rw [if_neg c2, if_neg h3]
    by_cases c1 : t.1 = 1 ∧ t.2.2.1 - t.2.1 = 1
    · rw [if_pos c1]
      cases e : px_nm key t.2.2.2 with
      | none => right; decide
      | some j => have := px_nm_lt e; have := sp_nx_le key; left; show 10000 + j < 20000; omega
    · rw [if_neg c1]; omega
  unfold px_in
  exact decide_eq_false (by omega)
/-- the system's reader: at token i, with L leaves and the codes O -/
def px_K (b : Nat → Nat) (n key : Nat) (g0 : sv_Mg) (i L : Nat) (O : List Nat) (g : sv_Mg) : Prop := sv_sm (fun k => k = 4 ∨ k = 6) g0 g ∧ tk_kb b n g ∧ tk_K (tk_i b n i) g ∧ g 4 6 = nI key ∧ g 4 7 = nI L ∧ g 4 9 = nI O.length ∧ ∀ k, k < O.length → g 6 k = px_cd (O.getD k 0)
def px_F (b : Nat → Nat) (n : Nat) (g0 : sv_Mg) (i : Nat) (g : sv_Mg) : Prop := sv_sm (fun k => k = 4 ∨ k = 6) g0 g ∧ g 4 3 = nI (tk_i b n i).2.1
theorem px_K.f {i L : Nat} {O : List Nat} (h : px_K b n key g0 i L O g) : px_F b n g0 i g := ⟨h.1, h.2.2.1.2.1⟩
theorem k_nx {i L : Nat} {O : List Nat} {Q : sv_Mg → Prop} (hn : n ≤ 96) (hb : ∀ k, k < n → b k < 256) (h : px_K b n key g0 i L O g) (q : ∀ g', px_K b n key g0 (i + 1) L O g' → Q g') : wp_X3_next F g Q := by
  obtain ⟨S, B, K, k6, k7, k9, kO⟩ := h
  have ok := tk_i_ok hb i
  refine k_next hn hb B (by have := ok.1; omega) K.1 ok.2.2.1 K.2.2.1 (fun g' S' j' K' => q g' ⟨S.tr (S'.mono (fun k z => Or.inl z)), ⟨?_, fun k hk => ?_⟩, K', ?_, ?_, ?_, fun k hk => ?_⟩)
  · rw [j' 1 (by omega)]; exact B.1
  · rw [S' 5 (by omega)]; exact B.2 k hk
  · rw [j' 6 (by omega)]; exact k6
  · rw [j' 7 (by omega)]; exact k7
  · rw [j' 9 (by omega)]; exact k9
  · rw [S' 6 (by omega)]; exact kO k hk
theorem k_ad {i L z : Nat} {v : Int32} {O : List Nat} {Q : Int32 → sv_Mg → Prop} (hv : v = px_cd z) (hO : O.length < 96) (h : px_K b n key g0 i L O g) (q : ∀ g', px_K b n key g0 i L (O ++ [z]) g' → Q 1 g') : wp_X3_add F v g Q := by
  obtain ⟨S, B, K, k6, k7, k9, kO⟩ := h
  unfold wp_X3_add
  rw [k9]
  refine br_y ((pl_lt (b := 96) (by omega) (by omega)).mpr hO) ⟨pl_in (by omega) (by omega), ?_⟩
  rw [pl_clamp (by omega)]
  intro g1 e1 g2 e2
  have f9 : g1 4 9 = nI O.length := by rw [e1, st_ne (by omega)]; exact k9
  rw [f9, nI_1] at e2
  have j2 : ∀ j, j ≠ 9 → g2 4 j = g 4 j := fun j hj => by rw [e2, st_nk hj, e1, st_ne (by omega)]
  refine q g2 ⟨?_, ⟨?_, fun k hk => ?_⟩, ⟨?_, ?_, ?_, ?_⟩, ?_, ?_, ?_, fun k hk => ?_⟩
  · rw [e2, e1]; exact (S.st (Or.inr rfl)).st (Or.inl rfl)
  · rw [j2 1 (by omega)]; exact B.1
  · rw [e2, st_ne (by omega), e1, st_ne (by omega)]; exact B.2 k hk
  · rw [j2 2 (by omega)]; exact K.1
  · rw [j2 3 (by omega)]; exact K.2.1
  · rw [j2 4 (by omega)]; exact K.2.2.1
  · rw [j2 5 (by omega)]; exact K.2.2.2
  · rw [j2 6 (by omega)]; exact k6
  · rw [j2 7 (by omega)]; exact k7
  · rw [e2, st_at, List.length_append]; rfl
  · have f6 : g2 6 = upd (g 6) O.length v := by rw [e2, st_ne (by omega), e1, upd_st]
    rw [f6]
    by_cases c : k < O.length
    · rw [pk_un (by omega), kO k c, px_gl c]
    · rw [List.length_append, List.length_singleton] at hk
      have : k = O.length := by omega
      subst this
      rw [pk_us, hv, px_gr]
theorem k_leaf {i L z : Nat} {v : Int32} {O : List Nat} {Q : Int32 → sv_Mg → Prop} (hn : n ≤ 96) (hb : ∀ k, k < n → b k < 256) (hv : v = px_cd z) (hO : O.length < 96) (h : px_K b n key g0 i L O g) (q : ∀ g', px_K b n key g0 (i + 1) (L + 1) (O ++ [z]) g' → Q 1 g') : wp_X3_addLeaf F v g Q := by
  intro g1 e1
  obtain ⟨S, B, K, k6, k7, k9, kO⟩ := h
  rw [k7, nI_1] at e1
  have j1 : ∀ j, j ≠ 7 → g1 4 j = g 4 j := fun j hj => by rw [e1, st_nk hj]
  have h1 : px_K b n key g0 i (L + 1) O g1 := by
    refine ⟨?_, ⟨?_, fun k hk => ?_⟩, ⟨?_, ?_, ?_, ?_⟩, ?_, ?_, ?_, fun k hk => ?_⟩
    · rw [e1]; exact S.st (Or.inl rfl)
    · rw [j1 1 (by omega)]; exact B.1
    · rw [e1, st_ne (by omega)]; exact B.2 k hk
    · rw [j1 2 (by omega)]; exact K.1
    · rw [j1 3 (by omega)]; exact K.2.1
    · rw [j1 4 (by omega)]; exact K.2.2.1
    · rw [j1 5 (by omega)]; exact K.2.2.2
    · rw [j1 6 (by omega)]; exact k6
    · rw [e1, st_at]
    · rw [j1 9 (by omega)]; exact k9
    · rw [e1, st_ne (by omega)]; exact kO k hk
  exact k_nx hn hb h1 (fun g2 h2 => k_ad hv hO h2 (fun g3 h3 => ⟨Or.inr rfl, q g3 h3⟩))
theorem k_one {i L s : Nat} {O : List Nat} {Q : Int32 → sv_Mg → Prop} (hb : ∀ k, k < n → b k < 256) (h : px_K b n key g0 i L O g) (hs : 6 ≤ s ∧ s < 14) (q1 : px_in s (px_y b n key i) = true → Q 1 g) (q0 : px_in s (px_y b n key i) = false → Q 0 g) : wp_X3_isOneOf F s g Q := by
  obtain ⟨S, B, K, -⟩ := h
  have ok := tk_i_ok hb i
  unfold px_y at q0 q1
  generalize tk_i b n i = t at K ok q0 q1
  unfold wp_X3_isOneOf
  rw [K.1]
  refine ⟨fun c => ?_, fun c => q0 (px_in_ns ok (fun z => c (by rw [z]; rfl)))⟩
  have c3 : t.1 = 3 := (pl_eq (b := 3) (by have := ok.1; omega) (by omega)).mp c
  have hv := ok.2.2.2.2.2.1 (Or.inr c3)
  rw [K.2.2.2 (Or.inr (Or.inr c3))]
  have e : px_sy key t = px_sg t.2.2.2 := by unfold px_sy; rw [if_neg (by omega), if_neg (by omega), if_pos c3]
  rw [e] at q0 q1
  have ix := px_ix s hs.2 hs.1 t.2.2.2 hv
  refine k_index hs.2 hv ⟨fun z => q0 (ix.mp z), fun z => q1 ?_⟩
  cases e2 : px_in s (px_sg t.2.2.2)
  · exact absurd (ix.mpr e2) z
  · rfl
theorem k_signs {u : Nat} {Q : Nat → sv_Mg → Prop} (hu : u ≤ 4) (q : Q (9 + u) g) : wp_X3_signsOf F (nI u) g Q := by
  have : u = 0 ∨ u = 1 ∨ u = 2 ∨ u = 3 ∨ u = 4 := by omega
  rcases this with rfl | rfl | rfl | rfl | rfl
  · exact br_y rfl q
  · exact br_n (by decide) (br_y rfl q)
  · exact br_n (by decide) (br_n (by decide) (br_y rfl q))
  · exact br_n (by decide) (br_n (by decide) (br_n (by decide) (br_y rfl q)))
  · exact br_n (by decide) (br_n (by decide) (br_n (by decide) (br_n (by decide) q)))
theorem k_names {Q : Nat → sv_Mg → Prop} (hk : key < 3) (q : Q (3 + key) g) : wp_X3_namesOfKey F (nI key) g Q := by
  have : key = 0 ∨ key = 1 ∨ key = 2 := by omega
  rcases this with rfl | rfl | rfl
  · exact br_y rfl q
  · exact br_n (by decide) (br_y rfl q)
  · exact br_n (by decide) (br_n (by decide) q)
end KP
