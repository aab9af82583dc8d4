/-! text: the codes are sound, the new row, the new law -/
theorem px_vo : ∀ s, s < 10 → 1 ≤ s → (-nI s < 0 ∧ ¬ -nI s = (-10 : Int32)) := by decide
theorem px_okc {nx : Nat} {o : List Nat} {c : Nat → Int32} (hnx : nx ≤ 3) (h2 : ∀ z ∈ o, z < 10000 + nx ∨ (20001 ≤ z ∧ z ≤ 20010)) (hc : ∀ k, k < o.length → c k = px_rc (o.getD k 0)) (h1 : px_vd o 0 1) : sp_okc nx c o.length := by
  have key : ∀ (l pre : List Nat) (d : Nat), o = pre ++ l → sp_dep c pre.length = d → px_vd l d 1 → sp_dep c o.length = 1 ∧ ∀ k, pre.length ≤ k → k < o.length → (c k < 0 → (c k = -10 ∧ 1 ≤ sp_dep c k) ∨ (∃ s, 1 ≤ s ∧ s ≤ 9 ∧ c k = -nI s ∧ 2 ≤ sp_dep c k)) ∧ (¬ c k < 0 → ∃ j, j < 10000 + nx ∧ c k = nI j) := by
    intro l
    induction l with
    | nil =>
      intro pre d e hd hv
      rw [List.append_nil] at e
      have hv : d = 1 := hv
      rw [e]
      exact ⟨hd.trans hv, fun k k1 k2 => absurd k2 (by omega)⟩
    | cons z l ih =>
      intro pre d e hd hv
      have hlen : o.length = pre.length + (l.length + 1) := by rw [e, List.length_append, List.length_cons]
      have hz : z < 10000 + nx ∨ (20001 ≤ z ∧ z ≤ 20010) := h2 z (by rw [e]; exact List.mem_append_right _ List.mem_cons_self)
      have ez : c pre.length = px_rc z := by
        rw [hc _ (by omega), e, List.getD_eq_getElem?_getD, List.getElem?_append_right (Nat.le_refl _), Nat.sub_self]
        rfl
      have e' : o = (pre ++ [z]) ++ l := by rw [e, List.append_assoc]; rfl
      have lp : (pre ++ [z]).length = pre.length + 1 := by rw [List.length_append]; rfl
      unfold px_vd at hv
      have fin : ∀ d', sp_dep c (pre.length + 1) = d' → px_vd l d' 1 → ((c pre.length < 0 → (c pre.length = -10 ∧ 1 ≤ sp_dep c pre.length) ∨ (∃ s, 1 ≤ s ∧ s ≤ 9 ∧ c pre.length = -nI s ∧ 2 ≤ sp_dep c pre.length)) ∧ (¬ c pre.length < 0 → ∃ j, j < 10000 + nx ∧ c pre.length = nI j)) → _ := fun d' a1 a2 a3 => by
        obtain ⟨i1, i2⟩ := ih (pre ++ [z]) d' e' (by rw [lp]; exact a1) a2
        exact (⟨i1, fun k k1 k2 => if ck : k = pre.length then by subst ck; exact a3 else i2 k (by omega) k2⟩ : sp_dep c o.length = 1 ∧ ∀ k, pre.length ≤ k → k < o.length → (c k < 0 → (c k = -10 ∧ 1 ≤ sp_dep c k) ∨ (∃ s, 1 ≤ s ∧ s ≤ 9 ∧ c k = -nI s ∧ 2 ≤ sp_dep c k)) ∧ (¬ c k < 0 → ∃ j, j < 10000 + nx ∧ c k = nI j))
      by_cases c1 : z < 20000
      · rw [if_pos c1] at hv
        have er : px_rc z = nI z := if_pos c1
        have nn : ¬ c pre.length < 0 := by rw [ez, er]; exact pl_nn (by omega)
        refine fin (d + 1) ?_ hv ⟨fun x => absurd x nn, fun _ => ⟨z, by omega, by rw [ez, er]⟩⟩
        rw [sp_dep, if_neg nn, hd]
      · rw [if_neg c1] at hv
        have er : px_rc z = -nI (z - 20000) := if_neg c1
        by_cases c2 : z = 20010
        · rw [if_pos c2] at hv
          have e10 : c pre.length = -10 := by rw [ez, er, c2]; decide
          have neg : c pre.length < 0 := by rw [e10]; decide
          refine fin d ?_ hv.2 ⟨fun _ => Or.inl ⟨e10, by rw [hd]; exact hv.1⟩, fun x => absurd neg x⟩
          rw [sp_dep, if_pos neg, if_pos e10, hd]
        · rw [if_neg c2] at hv
          have v := px_vo (z - 20000) (by omega) (by omega)
          have neg : c pre.length < 0 := by rw [ez, er]; exact v.1
          have n10 : ¬ c pre.length = -10 := by rw [ez, er]; exact v.2
          refine fin (d - 1) ?_ hv.2 ⟨fun _ => Or.inr ⟨z - 20000, by omega, by omega, by rw [ez, er], by rw [hd]; exact hv.1⟩, fun x => absurd neg x⟩
          rw [sp_dep, if_pos neg, if_neg n10, hd]
  obtain ⟨k1, k2⟩ := key o [] 0 rfl rfl h1
  exact ⟨k1, fun k hk => k2 k (Nat.zero_le k) hk⟩
/-- the reference's row with the text's head and k of its codes -/
def tx_rw (f : Nat → Int32) (t key : Nat) (o : List Nat) (k : Nat) : Nat → Int32 := fun p => if p = 71 + 2 * t then nI (1000 * key + o.length) else if p = 72 + 2 * t then nI (px_lv o) else if 99 + 96 * t ≤ p ∧ p < 99 + 96 * t + k then px_rc (o.getD (p - (99 + 96 * t)) 0) else f p
def tx_row (f : Nat → Int32) (t key : Nat) (o : List Nat) : Nat → Int32 := upd (tx_rw f t key o o.length) 10 (nI (t + 1))
theorem tx_rw_0 {f : Nat → Int32} {t key : Nat} {o : List Nat} (ht : t < 14) : upd (upd f (71 + 2 * t) (nI (1000 * key + o.length))) (72 + 2 * t) (nI (px_lv o)) = tx_rw f t key o 0 := by
  funext p
  unfold tx_rw
  by_cases c1 : p = 71 + 2 * t
  · rw [if_pos c1, c1, pk_un (by omega), pk_us]
  · rw [if_neg c1]
    by_cases c2 : p = 72 + 2 * t
    · rw [if_pos c2, c2, pk_us]
    · rw [if_neg c2, if_neg (by omega), pk_un c2, pk_un c1]
theorem tx_rw_s {f : Nat → Int32} {t key k : Nat} {o : List Nat} (ht : t < 14) (hk : k < 96) : upd (tx_rw f t key o k) (99 + 96 * t + k) (px_rc (o.getD k 0)) = tx_rw f t key o (k + 1) := by
  funext p
  by_cases c : p = 99 + 96 * t + k
  · rw [c, pk_us]
    unfold tx_rw
    rw [if_neg (by omega), if_neg (by omega), if_pos (by omega), show 99 + 96 * t + k - (99 + 96 * t) = k by omega]
  · rw [pk_un c]
    unfold tx_rw
    by_cases c1 : p = 71 + 2 * t
    · rw [if_pos c1, if_pos c1]
    · rw [if_neg c1, if_neg c1]
      by_cases c2 : p = 72 + 2 * t
      · rw [if_pos c2, if_pos c2]
      · rw [if_neg c2, if_neg c2]
        by_cases c3 : 99 + 96 * t ≤ p ∧ p < 99 + 96 * t + k
        · rw [if_pos c3, if_pos (by omega)]
        · rw [if_neg c3, if_neg (by omega)]
theorem tx_row_lt {f : Nat → Int32} {t key p : Nat} {o : List Nat} (hp : p < 71) (h10 : p ≠ 10) : tx_row f t key o p = f p := by
  unfold tx_row
  rw [pk_un h10]
  unfold tx_rw
  rw [if_neg (by omega), if_neg (by omega), if_neg (by omega)]
theorem tx_row_10 {f : Nat → Int32} {t key : Nat} {o : List Nat} : tx_row f t key o 10 = nI (t + 1) := pk_us
theorem tx_row_h {f : Nat → Int32} {t key : Nat} {o : List Nat} (ht : t < 14) : tx_row f t key o (71 + 2 * t) = nI (1000 * key + o.length) ∧ tx_row f t key o (72 + 2 * t) = nI (px_lv o) := by
  unfold tx_row tx_rw
  rw [pk_un (by omega), pk_un (by omega)]
  exact ⟨if_pos rfl, by rw [if_neg (by omega), if_pos rfl]⟩
theorem tx_row_c {f : Nat → Int32} {t key k : Nat} {o : List Nat} (ht : t < 14) (hk : k < o.length) : tx_row f t key o (99 + 96 * t + k) = px_rc (o.getD k 0) := by
  unfold tx_row tx_rw
  rw [pk_un (by omega), if_neg (by omega), if_neg (by omega), if_pos (by omega), show 99 + 96 * t + k - (99 + 96 * t) = k by omega]
theorem tx_row_o {f : Nat → Int32} {t t' key : Nat} {o : List Nat} (ht : t < 14) (ht' : t' < 14) (hne : t' ≠ t) (ho : o.length ≤ 96) : tx_row f t key o (71 + 2 * t') = f (71 + 2 * t') ∧ tx_row f t key o (72 + 2 * t') = f (72 + 2 * t') ∧ ∀ k, k < 96 → tx_row f t key o (99 + 96 * t' + k) = f (99 + 96 * t' + k) := by
  unfold tx_row tx_rw
  refine ⟨?_, ?_, fun k hk => ?_⟩
  · rw [pk_un (by omega), if_neg (by omega), if_neg (by omega), if_neg (by omega)]
  · rw [pk_un (by omega), if_neg (by omega), if_neg (by omega), if_neg (by omega)]
  · rw [pk_un (by omega), if_neg (by omega), if_neg (by omega), if_neg (by omega)]
section TZ
variable {F : sv_Fr} {g g0 : sv_Mg} {b : Nat → Nat} {n key : Nat}
theorem r_text1 {i t : Nat} {o : List Nat} {a : Nat → Int32} {Q : Int32 → sv_Mg → Prop} (h : px_B b n key g0 i [] o a g) (hk : key < 3) (ho : o.length ≤ 95) (h10 : g 59 10 = nI t) (ht : t ≤ 14) (qF : t = 14 → ∀ g', g' = sv_st g 58 8 0 → Q (-1000000003) g') (q : t < 14 → ∀ g', sv_sm (fun k => k = 58 ∨ k = 59) g g' → (∀ j, j ≠ 8 → g' 58 j = g 58 j) → g' 58 8 = 0 → g' 59 = tx_row (g 59) t key o → Q (nI t) g') : wp_X7_text_33 F Q 1 g := by
  obtain ⟨S, B, R, k14, k19, ⟨⟨m1, m2⟩, m3, m4⟩, k70⟩ := h
  intro g1 e1
  refine br_n ne10 ?_
  have f59 : g1 59 = g 59 := by rw [e1, st_ne (by omega)]
  rw [f59, h10]
  by_cases c14 : t = 14
  · exact br_y (by rw [c14]; rfl) (qF c14 g1 e1)
  refine br_n (fun z => c14 ((pl_eq (b := 14) (by omega) (by omega)).mp z)) ?_
  intro v ev
  subst ev
  have i71 : (71 + 2 * nI t : Int32) = nI (71 + 2 * t) := by rw [pl_lit 71, pl_lit 2, pk_mul, nI_add]
  rw [i71]
  refine ⟨pl_in (by omega) (by omega), ?_⟩
  rw [pl_clamp (by omega)]
  have v1 : (1000 * g1 58 14 + g1 58 18 : Int32) = nI (1000 * key + o.length) := by
    rw [e1, st_nk (by omega), st_nk (by omega), k14, m1, pl_lit 1000, pk_mul, nI_add]
  rw [v1]
  intro g2 e2
  rw [nI_1]
  refine ⟨pl_in (by omega) (by omega), ?_⟩
  rw [pl_clamp (by omega)]
  have v2 : g2 58 19 = nI (px_lv o) := by rw [e2, st_ne (by omega), e1, st_nk (by omega)]; exact k19
  rw [v2]
  intro g3 e3
  have f3 : g3 59 = tx_rw (g 59) t key o 0 := by
    rw [e3, upd_st, e2, upd_st, f59]
    rw [show 71 + 2 * t + 1 = 72 + 2 * t by omega]
    exact tx_rw_0 (t := t) (by omega)
  have S3 : sv_sm (fun k => k = 59) g1 g3 := by rw [e3, e2]; exact ((sv_sm.rf (T := fun k => k = 59)).st rfl).st rfl
  have lp : ∀ d k (g' : sv_Mg), k + d = o.length → sv_sm (fun k => k = 59) g1 g' → g' 59 = tx_rw (g 59) t key o k → wp_X7_text_117 F Q (d + 1) (nI t) (nI k) g' := by
    intro d
    induction d with
    | zero =>
      intro k g' hk S' e59
      have : k = o.length := by omega
      subst this
      have k18 : g' 58 18 = nI o.length := by rw [S' 58 (by omega), e1, st_nk (by omega)]; exact m1
      refine br_y (by rw [k18]; exact (pl_le (by omega) (by omega)).mpr (Nat.le_refl _)) ?_
      intro g4 e4
      have x10 : g' 59 10 = nI t := by
        rw [e59]
        unfold tx_rw
        rw [if_neg (by omega), if_neg (by omega), if_neg (by omega)]
        exact h10
      rw [x10, nI_1] at e4
      refine q (by omega) g4 ?_ (fun j hj => ?_) ?_ ?_
      · have s1 : sv_sm (fun k => k = 58 ∨ k = 59) g g1 := by rw [e1]; exact sv_sm.rf.st (Or.inl rfl)
        rw [e4]
        exact (s1.tr (S'.mono (fun k z => Or.inr z))).st (Or.inr rfl)
      · rw [e4, st_ne (by omega), S' 58 (by omega), e1, st_nk hj]
      · rw [e4, st_ne (by omega), S' 58 (by omega), e1, st_at]
      · rw [e4, upd_st, e59]; rfl
    | succ d ih =>
      intro k g' hk S' e59
      have k18 : g' 58 18 = nI o.length := by rw [S' 58 (by omega), e1, st_nk (by omega)]; exact m1
      refine br_n (by rw [k18]; exact fun z => absurd ((pl_le (by omega) (by omega)).mp z) (by omega)) ⟨pl_in (by omega) (by omega), ?_⟩
      have i99 : (99 + 96 * nI t + nI k : Int32) = nI (99 + 96 * t + k) := by rw [pl_lit 99, pl_lit 96, pk_mul, nI_add, nI_add]
      rw [i99]
      refine ⟨pl_in (by omega) (by omega), ?_⟩
      rw [pl_clamp (by omega), pl_clamp (by omega)]
      have v68 : g' 68 k = px_rc (o.getD k 0) := by rw [S' 68 (by omega), e1, st_ne (by omega)]; exact m2 k (by omega)
      rw [v68]
      intro g4 e4 v ev
      rw [nI_1] at ev
      subst ev
      refine ih (k + 1) g4 (by omega) ?_ ?_
      · rw [e4]; exact S'.st rfl
      · rw [e4, upd_st, e59]
        exact tx_rw_s (by omega) (by omega)
  exact ⟨_, lp o.length 0 g3 (by omega) S3 f3⟩
/-! the law's cells -/
theorem sv_Lay.len (h : sv_Lay F) : 82 ≤ F.1.length := by
  have := congrArg List.length h.1
  rw [List.length_take] at this
  have e : sv_shL.length = 82 := by decide
  omega
theorem sv_rl : ∀ t ∈ sv_refL, t.1 < 82 ∧ t.1 ≠ 2 := by decide
theorem sv_Law.ext {F' : sv_Fr} {X : List sv_Sh} {q : Nat} (h : sv_Law F q) (h1 : F'.1 = F.1 ++ X) (h2 : F'.2 q = F.2 q) : sv_Law F' q := by
  obtain ⟨a1, a2, a3, m, a4, a5⟩ := h
  have l1 := (List.getElem?_eq_some_iff.mp a2).1
  have l2 := (List.getElem?_eq_some_iff.mp a5).1
  exact ⟨a1, by rw [h1, List.getElem?_append_left l1]; exact a2, by rw [h2]; exact a3, m, a4, by rw [h1, List.getElem?_append_left l2]; exact a5⟩
theorem sv_Law.lt {q : Nat} (h : sv_Law F q) : q + 1 < F.1.length := by
  obtain ⟨a1, a2, a3, m, a4, a5⟩ := h
  exact (List.getElem?_eq_some_iff.mp a5).1
theorem lay_ext {F' : sv_Fr} {X : List sv_Sh} (hL : sv_Lay F) (h1 : F'.1 = F.1 ++ X) (h2 : ∀ k, k < F.1.length → k ≠ 2 → F'.2 k = F.2 k) (h3 : ∀ i q, F'.2 2 i = some q → F.2 2 i = some q ∨ sv_Law F' q) : sv_Lay F' := by
  have hl := hL.len
  refine ⟨?_, fun t ht => ?_, fun i q e => ?_⟩
  · rw [h1, List.take_append_of_le_length hl]; exact hL.1
  · have := sv_rl t ht
    rw [h2 t.1 (by omega) this.2]; exact hL.2.1 t ht
  · rcases h3 i q e with e | e
    · have a := hL.2.2 i q e
      have := a.lt
      have := a.1
      exact a.ext h1 (h2 q (by omega) (by omega))
    · exact e
theorem k_law {t m : Nat} {Q : Int32 → sv_Fr → sv_Mg → Prop} (hL : sv_Lay F) (h18 : g 7 18 = nI t) (ht : t < 14) (h9 : g 4 9 = nI m) (hm : m ≤ 95) (q : ∀ (F' : sv_Fr) (g' : sv_Mg), sv_Lay F' → F'.1 = F.1 ++ [(1, 3), (10, m)] → F'.2 2 = va_up (F.2 2) t (some F.1.length) → (∀ k, k < F.1.length → k ≠ 7 → g' k = g k) → g' 7 = upd (g 7) 18 (nI (t + 1)) → g' F.1.length 0 = g 4 6 → g' F.1.length 1 = g 4 7 → (∀ k, k < m → g' (F.1.length + 1) k = g 6 k) → Q (nI t) F' g') : wp_X3_law F g (fun a_8 F_7 g_6 => sv_Lay F_7 ∧ vp_in (g 7 18) 14 ∧ F_7.1[a_8]? = some (1, 3) ∧ ∀ F_12, F_12 = (F_7.1, sv_sr F_7.2 2 (g 7 18).toNatClampNeg (some a_8)) → sv_Lay F_12 ∧ ∀ g_14, g_14 = sv_st g_6 7 18 ((g_6 7 18) + 1) → Q ((g_14 7 18) - 1) F_12 g_14) := by
  have hl := hL.len
  intro F1 g1 a1 eF1 eg1 ea1
  have p1 : F1.1 = F.1 ++ [(1, 3)] := by rw [eF1]; rfl
  have r1 : ∀ k, k ≠ F.1.length → F1.2 k = F.2 k := fun k hk => by rw [eF1]; exact sv_sra_ne hk
  have L1 : sv_Lay F1 := lay_ext hL p1 (fun k hk _ => r1 k (by omega)) (fun i q e => Or.inl (by rw [r1 2 (by omega)] at e; exact e))
  have l1 : F1.1.length = F.1.length + 1 := by rw [p1, List.length_append]; rfl
  have c1 : ∀ k, k ≠ F.1.length → g1 k = g k := fun k hk => by rw [eg1]; exact sv_sa_ne hk
  have s6 : F1.1[6]? = some (10, 96) := L1.sh rfl
  have n6 : sv_ln F1 6 = 96 := by rw [sv_ln, List.getD_eq_getElem?_getD, s6]; rfl
  have f9 : g1 4 9 = nI m := by rw [c1 4 (by omega)]; exact h9
  refine ⟨L1, ?_, ?_⟩
  · rw [n6]; exact s6
  rw [n6, f9]
  refine br_n (fun z => absurd ((pl_eq (by omega) (by omega)).mp z) (by omega)) ⟨m, rfl, by omega, ?_⟩
  intro F2 g2 a2 eF2 eg2 ea2
  have p2 : F2.1 = F.1 ++ [(1, 3), (10, m)] := by
    rw [eF2]
    show F1.1 ++ [(10, m)] = _
    rw [p1, List.append_assoc]; rfl
  have r2 : ∀ k, k < F.1.length → F2.2 k = F.2 k := fun k hk => by
    rw [eF2]
    show sv_sra F1.2 F1.1.length (fun _ => none) k = _
    rw [sv_sra_ne (by omega), r1 k (by omega)]
  have L2 : sv_Lay F2 := lay_ext hL p2 (fun k hk _ => r2 k hk) (fun i q e => Or.inl (by rw [r2 2 (by omega)] at e; exact e))
  have c2 : ∀ k, k < F.1.length → g2 k = g k := fun k hk => by rw [eg2]; show sv_sa g1 F1.1.length (fun _ => 0) k = _; rw [sa_ne (by omega), c1 k (by omega)]
  have s26 : F2.1[6]? = some (10, 96) := L2.sh rfl
  have ea : a2 = F.1.length + 1 := by rw [ea2, l1]
  have sq : F2.1[F.1.length]? = some (1, 3) := by rw [p2, List.getElem?_append_right (Nat.le_refl _), Nat.sub_self]; rfl
  have sq1 : F2.1[F.1.length + 1]? = some (10, m) := by rw [p2, List.getElem?_append_right (by omega), show F.1.length + 1 - F.1.length = 1 by omega]; rfl
  refine ⟨L2, s26, m, if_pos ((pl_lt (by omega) (by omega)).mpr (by omega)), by omega, s26, by rw [ea]; exact sq1, by omega, by omega, ?_⟩
  intro g3 eg3
  rw [ea] at eg3
  subst ea1
  have c3 : ∀ k, k < F.1.length → g3 k = g k := fun k hk => by rw [eg3, sa_ne (by omega)]; exact c2 k hk
  have x3 : ∀ k, k < m → g3 (F.1.length + 1) k = g 6 k := fun k hk => by
    rw [eg3, sa_at, pk_cpy_in (by omega) (by omega), c2 6 (by omega)]
    congr 1
    omega
  refine ⟨L2, sq, ?_⟩
  intro g4 e4
  refine ⟨sq, ?_⟩
  intro g5 e5
  refine ⟨sq, ?_⟩
  intro F3 eF3
  rw [ea] at eF3
  have p3 : F3.1 = F.1 ++ [(1, 3), (10, m)] := by rw [eF3]; exact p2
  have r3 : ∀ k, k < F.1.length → F3.2 k = F.2 k := fun k hk => by
    rw [eF3]
    show sv_sr F2.2 F.1.length 2 (some (F.1.length + 1)) k = _
    rw [sv_sr_ne (by omega)]; exact r2 k hk
  have r3q : F3.2 F.1.length 2 = some (F.1.length + 1) := by
    rw [eF3]
    show sv_sr F2.2 F.1.length 2 (some (F.1.length + 1)) F.1.length 2 = _
    rw [sv_sr_eq]; exact va_up_self _ _ _
  have L3 : sv_Lay F3 := lay_ext hL p3 (fun k hk _ => r3 k hk) (fun i q e => Or.inl (by rw [r3 2 (by omega)] at e; exact e))
  have sq3 : F3.1[F.1.length]? = some (1, 3) := by rw [p3, ← p2]; exact sq
  refine ⟨L3, L3, by rw [h18]; exact pl_in (by omega) (by omega), sq3, ?_⟩
  rw [h18, pl_clamp (by omega)]
  intro F4 eF4
  have p4 : F4.1 = F.1 ++ [(1, 3), (10, m)] := by rw [eF4]; exact p3
  have r4 : ∀ k, k ≠ 2 → F4.2 k = F3.2 k := fun k hk => by
    rw [eF4]
    show sv_sr F3.2 2 t (some F.1.length) k = _
    exact sv_sr_ne hk
  have r42 : F4.2 2 = va_up (F.2 2) t (some F.1.length) := by
    rw [eF4]
    show sv_sr F3.2 2 t (some F.1.length) 2 = _
    rw [sv_sr_eq, r3 2 (by omega)]
  have law : sv_Law F4 F.1.length := ⟨hl, by rw [p4, ← p2]; exact sq, by rw [r4 _ (by omega)]; exact r3q, m, by omega, by rw [p4, ← p2]; exact sq1⟩
  have L4 : sv_Lay F4 := by
    refine lay_ext hL p4 (fun k hk h2 => by rw [r4 k h2]; exact r3 k hk) (fun i q e => ?_)
    rw [r42] at e
    by_cases c : i = t
    · rw [c, va_up_self] at e
      cases e
      exact Or.inr law
    · rw [va_up_ne _ _ c] at e
      exact Or.inl e
  refine ⟨L4, ?_⟩
  intro g6 e6
  have c5 : ∀ k, k < F.1.length → g5 k = g k := fun k hk => by rw [e5, st_ne (by omega), e4, st_ne (by omega)]; exact c3 k hk
  have v7 : g5 7 18 = nI t := by rw [c5 7 (by omega)]; exact h18
  rw [v7, nI_1] at e6
  have ev : g6 7 18 - 1 = nI t := by rw [e6, st_at, nI_pred]
  rw [ev]
  refine q F4 g6 L4 p4 r42 (fun k hk h7 => by rw [e6, st_ne h7]; exact c5 k hk) ?_ ?_ ?_ (fun k hk => ?_)
  · rw [e6, upd_st, c5 7 (by omega)]
  · rw [e6, st_ne (by omega), e5, st_nk (by omega), e4, st_at, c1 4 (by omega)]
  · rw [e6, st_ne (by omega), e5, st_at, c1 4 (by omega)]
  · rw [e6, st_ne (by omega), e5, st_ne (by omega), e4, st_ne (by omega)]; exact x3 k hk
end TZ
