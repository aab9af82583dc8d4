/-! THE STEPS OF THE REFERENCE'S PARSER, ALL -/
section RT
variable {F : sv_Fr} {g0 : sv_Mg} {b : Nat → Nat} {n key : Nat} {Q : Int32 → sv_Mg → Prop}
theorem px_bl_stp {l : Nat} {H : List Nat} (h : px_bl l H) : px_stp (l + 1) H := by
  cases H with
  | nil => exact True.intro
  | cons z H =>
    rcases h with h | ⟨h1, h2, h3⟩
    · exact Or.inl h
    · exact Or.inr ⟨h1, by omega, by omega⟩
theorem px_split : ∀ {H : List Nat}, (∀ z ∈ H, 20001 ≤ z ∧ z ≤ 20011) → ∃ P H0, H = P ++ H0 ∧ (∀ z ∈ P, 20001 ≤ z ∧ z ≤ 20010) ∧ px_stp 0 H0
  | [], _ => ⟨[], [], rfl, fun z hz => absurd hz List.not_mem_nil, True.intro⟩
  | z :: H, h => by
    by_cases c : z = 20011
    · exact ⟨[], z :: H, rfl, fun z hz => absurd hz List.not_mem_nil, Or.inl c⟩
    · obtain ⟨P, H0, e, h1, h2⟩ := px_split (H := H) (fun x hx => h x (List.mem_cons_of_mem _ hx))
      refine ⟨z :: P, H0, by rw [e, List.cons_append], fun x hx => ?_, h2⟩
      rcases List.mem_cons.mp hx with rfl | hx
      · have := h x List.mem_cons_self; omega
      · exact h1 x hx
theorem px_pop {i : Nat} {z : Nat} {H C : List Nat} {a : Nat → Int32} {g : sv_Mg} (h : px_B b n key g0 i (z :: H) C a g) : px_B b n key g0 i H C a (sv_st g 58 21 (nI H.length)) := by
  obtain ⟨S, B, R, k14, k19, ⟨⟨m1, m2⟩, m3, m4⟩, k70⟩ := h
  refine ⟨S.st (by omega), B.st (by omega), R.st (by omega), ?_, ?_, ⟨⟨?_, fun k hk => ?_⟩, ?_, ?_⟩, ?_⟩
  · rw [st_nk (by omega)]; exact k14
  · rw [st_nk (by omega)]; exact k19
  · rw [st_nk (by omega)]; exact m1
  · rw [st_ne (by omega)]; exact m2 k hk
  · rw [st_at]
  · rw [st_ne (by omega)]; exact m4.2
  · rw [st_ne (by omega)]; exact k70
theorem sp_b_ok (t : Bool) : sp_b t = 0 ∨ sp_b t = 1 := by cases t <;> decide
theorem sp_b0 {t : Bool} : sp_b t = 0 ↔ t = false := by cases t <;> decide
/-- 39: a part is wanted, and none of the signs that go ahead of one stands there -/
theorem r_part97 {i p : Nat} {m : Nat} {H C : List Nat} {k : Nat} {T : Nat → Bool} {g : sv_Mg} (hn : n ≤ 96) (hb : ∀ k, k < n → b k < 256) (hk : key < 3) (hS : px_S b n key g0 i p (List.replicate k 20010 ++ H) C T g) (h0 : px_stp 6 H) (hy1 : ¬ (px_y b n key i = 20010 ∧ px_nt (List.replicate k 20010 ++ H) < 8)) (hy2 : ¬ (px_y b n key i = 20011 ∧ p < 8)) (hnt : px_nt (List.replicate k 20010 ++ H) < 1000)
    (q1 : px_y b n key i < 20000 → ∀ g', px_S b n key g0 (i + 1) p H (C ++ [px_y b n key i] ++ List.replicate k 20010) T g' → wp_X7_takesE_28 F Q m (nI p) (nI (px_nt H)) 0 g') (q0 : ¬ px_y b n key i < 20000 → Q 0 g) : wp_X7_takesE_28 F Q (m + 1) (nI p) (nI (px_nt (List.replicate k 20010 ++ H))) 1 g := by
  obtain ⟨a, hB, hT, ⟨hl, hi, hp⟩, hz⟩ := hS
  have ok := tk_i_ok hb i
  have hN := px_y_N (key := key) hb i
  have z158 : wp_X7_takesE_158 F Q (wp_X7_takesE_28 F Q m) (nI p) g := by
    refine r_part hn hb hk hB h0 hl hi (fun hy g' h' => br_n ne10 ?_) (fun hy => br_y rfl (q0 hy))
    have hiN := hN (by omega)
    have ll : (List.replicate k 20010 ++ H).length = k + H.length := by rw [List.length_append, List.length_replicate]
    have lc : (C ++ [px_y b n key i] ++ List.replicate k 20010).length = C.length + 1 + k := by rw [List.length_append, List.length_append, List.length_replicate]; rfl
    have hz' : ∀ z ∈ H, 20001 ≤ z ∧ z ≤ 20011 := fun z hz1 => hz z (List.mem_append_right _ hz1)
    exact r_nots h'.2.2.2.2.2.1 hz' (by omega) (q1 hy g' ⟨a, h', hT, ⟨by omega, by omega, hp⟩, hz'⟩)
  have z97 : wp_X7_takesE_97 F Q (wp_X7_takesE_28 F Q m) (nI p) 1 g := by
    refine r_sw (key := key) (v := 40) (z := 20011) hB.2.2.1 ok rfl (by omega) (fun x hx => (px_sg41 x hx).2.2) (by omega) (fun e => br_y ?_ z158) (fun _ => z158)
    exact (pl_le (a := 8) (by omega) (by omega)).mpr (Nat.le_of_not_lt (fun z => hy2 ⟨e, z⟩))
  refine br_n ne10 (br_n ne10 ?_)
  refine r_sw (key := key) (v := 33) (z := 20010) hB.2.2.1 ok rfl (by omega) (fun x hx => (px_sg41 x hx).2.1) (by omega) (fun e => br_y ?_ z97) (fun _ => z97)
  exact (pl_le (a := 8) (by omega) (by omega)).mpr (Nat.le_of_not_lt (fun z => hy1 ⟨e, z⟩))
theorem px_nt_le : ∀ {H : List Nat}, px_nt H ≤ H.length
  | [] => Nat.le_refl 0
  | z :: H => by have := px_nt_le (H := H); rw [px_nt, List.length_cons]; split <;> omega
theorem r_237 {i p m : Nat} {H C : List Nat} {a : Nat → Int32} {v2 : Int32} {g : sv_Mg} {t : Bool} (hb : ∀ k, k < n → b k < 256) (hB : px_B b n key g0 i H C a g) (hp : p ≤ 8) (ha : a p = sp_b t)
    (q0 : ¬ (20001 ≤ px_y b n key i ∧ px_y b n key i ≤ 20009 ∧ ¬ (px_rk (px_y b n key i) = 3 ∧ t = true)) → Q 0 g)
    (q1 : 20001 ≤ px_y b n key i → px_y b n key i ≤ 20009 → ¬ (px_rk (px_y b n key i) = 3 ∧ t = true) → wp_X7_takesE_305 F Q (wp_X7_takesE_28 F Q m) (nI p) v2 (px_rc (px_y b n key i)) (sp_b (decide (px_rk (px_y b n key i) = 3) || (decide (3 < px_rk (px_y b n key i)) && t))) (nI p) g) : wp_X7_takesE_237 F Q (wp_X7_takesE_28 F Q m) (nI p) v2 g := by
  have ok := tk_i_ok hb i
  obtain ⟨S, B, R, k14, k19, M, k70⟩ := hB
  have e70 : g 70 (nI p).toNatClampNeg = sp_b t := by rw [pl_clamp (by omega), k70]; exact ha
  have ip : vp_in (nI p) 10 := pl_in (by omega) (by omega)
  obtain ⟨y, hy⟩ : ∃ y, y = px_sy key (tk_i b n i) := ⟨_, rfl⟩
  have hy' : px_y b n key i = y := hy.symm
  rw [hy'] at q0 q1
  refine r_sign (key := key) R ok ?_
  rw [← hy]
  by_cases c : 20001 ≤ y ∧ y ≤ 20009
  · have e : px_sgr y = px_rc y := if_pos c
    have n0 : ¬ px_rc y = 0 := by
      have := px_rc_n0 (y - 20001) (by omega)
      rw [show 20001 + (y - 20001) = y by omega] at this
      exact this
    have rk := px_rk_sp c.1 c.2
    rw [e]
    have l3 : nI (px_rk y) = 3 ↔ px_rk y = 3 := pl_eq (b := 3) (by omega) (by omega)
    have l33 : nI (px_rk y) ≤ 3 ↔ px_rk y ≤ 3 := pl_le (b := 3) (by omega) (by omega)
    refine br_n n0 (r_rank rfl c.1 (by omega) ?_)
    have z268 : ¬ (px_rk y = 3 ∧ t = true) → wp_X7_takesE_268 F Q (wp_X7_takesE_28 F Q m) (nI p) v2 (px_rc y) g := by
      intro nn
      have q1 := q1 c.1 c.2 nn
      refine r_rank rfl c.1 (by omega) ?_
      rw [l3]
      refine ⟨fun c3 => ?_, fun c3 => r_rank rfl c.1 (by omega) ?_⟩
      · rw [decide_eq_true c3] at q1; exact q1
      · rw [l33]
        rw [decide_eq_false c3] at q1
        refine ⟨fun c4 => ?_, fun c4 => ⟨ip, ?_⟩⟩
        · rw [decide_eq_false (by omega)] at q1; exact q1
        · rw [decide_eq_true (by omega)] at q1
          rw [e70]
          cases t
          · exact br_y rfl q1
          · exact br_n ne10 q1
    rw [l3]
    refine ⟨fun c3 => ⟨ip, ?_⟩, fun c3 => z268 (fun z => c3 z.1)⟩
    rw [e70]
    cases t
    · exact br_y rfl (z268 (fun z => Bool.false_ne_true z.2))
    · exact br_n ne10 (q0 (fun z => z.2.2 ⟨c3, rfl⟩))
  · have e : px_sgr y = 0 := if_neg c
    rw [e]
    exact br_y rfl (q0 (fun z => c ⟨z.1, z.2.1⟩))
theorem r_steps (hn : n ≤ 96) (hb : ∀ k, k < n → b k < 256) (hk : key < 3) : px_st (px_y b n key) (px_X F Q b n key g0) (fun i => ∀ g, px_G b n g0 i g → Q 0 g) := by
  have ok := tk_i_ok hb
  have hN := px_y_N (key := key) hb
  have fuel : ∀ i, i < n → n + 1 - i = (n + 1 - (i + 1)) + 1 := fun i hi => by omega
  have fuel' : ∀ i, i ≤ n → n + 1 - i = (n - i) + 1 := fun i hi => by omega
  have hY : ∀ i, px_y b n key i = px_sy key (tk_i b n i) := fun _ => rfl
  refine ⟨?_, ?_, ?_, ?_, ?_, ?_, ?_, ?_, ?_⟩
  · intro i p w H C T T' hT q g ⟨a, hB, ha, hl, hz⟩
    exact q g ⟨a, hB, fun j hj => by rw [ha j hj, hT j hj], hl, hz⟩
  · -- not
    intro i p H C T hy hnt q g ⟨a, hB, ha, ⟨hl, hi, hp⟩, hz⟩
    have hiN := hN i (by omega)
    rw [fuel i hiN]
    refine br_n ne10 (br_n ne10 ?_)
    refine r_sw (key := key) (v := 33) (z := 20010) hB.2.2.1 (ok i) rfl (by omega) (fun x hx => (px_sg41 x hx).2.1) (by omega) (fun _ => ?_) (fun z => absurd hy z)
    refine br_n (fun z => absurd ((pl_le (a := 8) (by omega) (by omega)).mp z) (by omega)) ?_
    rw [hB.2.2.2.2.2.1.2.1]
    refine ⟨pl_in (by omega) (by omega), ?_⟩
    rw [pl_clamp (by omega)]
    intro g1 e1 g2 e2 v ev
    have f21 : g1 58 21 = nI H.length := by rw [e1, st_ne (by omega)]; exact hB.2.2.2.2.2.1.2.1
    rw [f21, nI_1] at e2
    have h2 : px_B b n key g0 i (20010 :: H) C a g2 := by rw [e2, e1]; exact hB.push (by decide)
    refine px_go hn hb h2 (Or.inr (Or.inr ((px_sort (key := key) (ok i)).2 (by rw [← hY]; omega) (by rw [← hY]; omega)))) (fun g3 h3 => ?_)
    have hz' : ∀ z ∈ 20010 :: H, 20001 ≤ z ∧ z ≤ 20011 := by
      intro z h
      rcases List.mem_cons.mp h with rfl | h
      · omega
      · exact hz z h
    have ll : (20010 :: H).length = H.length + 1 := rfl
    exact r_nots h3.2.2.2.2.2.1 hz' (by omega) (q g3 ⟨a, h3, ha, ⟨by omega, by omega, hp⟩, hz'⟩)
  · -- open
    intro i p H C T hy hp8 q g ⟨a, hB, ha, ⟨hl, hi, hp⟩, hz⟩
    have hiN := hN i (by omega)
    rw [fuel i hiN]
    refine br_n ne10 (br_n ne10 ?_)
    refine r_sw (key := key) (v := 33) (z := 20010) hB.2.2.1 (ok i) rfl (by omega) (fun x hx => (px_sg41 x hx).2.1) (by omega) (fun z => by rw [← hY] at z; omega) (fun _ => ?_)
    refine r_sw (key := key) (v := 40) (z := 20011) hB.2.2.1 (ok i) rfl (by omega) (fun x hx => (px_sg41 x hx).2.2) (by omega) (fun _ => ?_) (fun z => absurd hy z)
    refine br_n (fun z => absurd ((pl_le (a := 8) (by omega) (by omega)).mp z) (by omega)) ?_
    rw [hB.2.2.2.2.2.1.2.1]
    refine ⟨pl_in (by omega) (by omega), ?_⟩
    rw [pl_clamp (by omega)]
    intro g1 e1 g2 e2 v ev
    have f21 : g1 58 21 = nI H.length := by rw [e1, st_ne (by omega)]; exact hB.2.2.2.2.2.1.2.1
    rw [f21, nI_1] at e2
    rw [nI_1] at ev
    subst ev
    have h2 : px_B b n key g0 i (20011 :: H) C a g2 := by rw [e2, e1]; exact hB.push (by decide)
    refine ⟨pl_in (by omega) (by omega), ?_⟩
    rw [pl_clamp (by omega)]
    intro g3 e3
    have h3 : px_B b n key g0 i (20011 :: H) C (upd a (p + 1) 0) g3 := by rw [e3]; exact h2.ts
    refine px_go hn hb h3 (Or.inr (Or.inr ((px_sort (key := key) (ok i)).2 (by rw [← hY]; omega) (by rw [← hY]; omega)))) (fun g4 h4 => ?_)
    have hz' : ∀ z ∈ 20011 :: H, 20001 ≤ z ∧ z ≤ 20011 := by
      intro z h
      rcases List.mem_cons.mp h with rfl | h
      · omega
      · exact hz z h
    have ll : (20011 :: H).length = H.length + 1 := rfl
    refine r_nots h4.2.2.2.2.2.1 hz' (by omega) (q g4 ⟨_, h4, fun j hj => ?_, ⟨by omega, by omega, by omega⟩, hz'⟩)
    unfold px_up
    by_cases c : j = p + 1
    · rw [c, pk_us, if_pos rfl]; rfl
    · rw [pk_un c, if_neg c]; exact ha j (by omega)
  · -- a leaf
    intro i p k H C T hy hbl q g hS
    have hiN := hN i (by omega)
    rw [fuel i hiN]
    have hlen : px_nt (List.replicate k 20010 ++ H) < 1000 := by
      obtain ⟨a, hB, ha, ⟨hl, hi, hp⟩, hz⟩ := hS
      have := px_nt_le (H := List.replicate k 20010 ++ H)
      omega
    exact r_part97 hn hb hk hS (px_bl_stp hbl) (by omega) (by omega) hlen (fun _ g' h' => q g' h') (fun z => absurd hy z)
  · -- no part
    intro i p H C T hy h1 h2 fl g hS
    obtain ⟨a, hB, ha, ⟨hl, hi, hp⟩, hz⟩ := id hS
    rw [fuel' i hi]
    have hlen : px_nt H < 1000 := by have := px_nt_le (H := H); omega
    -- what waits is cut into nots and the rest
    have hcut : ∀ (H : List Nat), (∀ z ∈ H, 20001 ≤ z ∧ z ≤ 20011) → ∃ k H0, H = List.replicate k 20010 ++ H0 ∧ px_stp 6 H0 := by
      intro H
      induction H with
      | nil => intro _; exact ⟨0, [], rfl, True.intro⟩
      | cons z H ih =>
        intro hz
        have hz1 := hz z List.mem_cons_self
        by_cases c : z = 20010
        · obtain ⟨k, H0, e, h0⟩ := ih (fun x hx => hz x (List.mem_cons_of_mem _ hx))
          exact ⟨k + 1, H0, by rw [List.replicate_succ, List.cons_append, ← e, c], h0⟩
        · refine ⟨0, z :: H, rfl, ?_⟩
          by_cases c2 : z = 20011
          · exact Or.inl c2
          · have := px_rk_sp hz1.1 (by omega)
            exact Or.inr ⟨hz1.1, by omega, by omega⟩
    obtain ⟨k, H0, e, h0⟩ := hcut H hz
    rw [e] at hS h1 hlen ⊢
    exact r_part97 hn hb hk hS h0 h1 h2 hlen (fun z => absurd z hy) (fun _ => fl g hB.gg)
  · -- close
    intro i p k P H C T hy hP hbl q g ⟨a, hB, ha, ⟨hl, hi, hp⟩, hz⟩
    have hiN := hN i (by omega)
    have t3 := (px_sort (key := key) (ok i)).2 (by rw [← hY]; omega) (by rw [← hY]; omega)
    have ll : (P ++ 20011 :: (List.replicate k 20010 ++ H)).length = P.length + (k + H.length + 1) := by rw [List.length_append, List.length_cons, List.length_append, List.length_replicate]
    rw [fuel i hiN]
    refine br_y rfl (br_n ?_ (br_y rfl ?_))
    · rw [hB.2.2.1.1, t3]; decide
    refine r_sw (key := key) (v := 41) (z := 20012) hB.2.2.1 (ok i) rfl (by omega) (fun x hx => (px_sg41 x hx).1) (by omega) (fun _ => ?_) (fun z => absurd hy z)
    refine br_n (nI_nle (by omega) (by omega)) ?_
    refine px_settle (v := 0) (P := P) hB rfl (by omega) (Or.inl rfl) (fun z hz1 => by have := hP z hz1; omega) (by omega) (fun g1 h1 => ?_)
    intro g2 e2 v ev
    have f21 : g1 58 21 = nI ((List.replicate k 20010 ++ H).length + 1) := h1.2.2.2.2.2.1.2.1
    rw [f21, nI_pred] at e2
    rw [pl_am1, nI_pred] at ev
    subst ev
    have h2 : px_B b n key g0 i (List.replicate k 20010 ++ H) (C ++ P) a g2 := by rw [e2]; exact px_pop h1
    have lr : (List.replicate k 20010 ++ H).length = k + H.length := by rw [List.length_append, List.length_replicate]
    have lc : (C ++ P).length = C.length + P.length := List.length_append
    have hz' : ∀ z ∈ H, 20001 ≤ z ∧ z ≤ 20011 := fun z hz1 => hz z (List.mem_append_right _ (List.mem_cons_of_mem _ (List.mem_append_right _ hz1)))
    refine px_settle (v := 6) (P := List.replicate k 20010) h2 rfl (by omega) (px_bl_stp hbl) (fun z hz1 => by rw [List.eq_of_mem_replicate hz1]; decide) (by omega) (fun g3 h3 => ?_)
    refine r_nots h3.2.2.2.2.2.1 hz' (by omega) (px_go hn hb h3 (Or.inr (Or.inr t3)) (fun g4 h4 => ?_))
    have lc2 : (C ++ P ++ List.replicate k 20010).length = C.length + P.length + k := by rw [List.length_append, List.length_append, List.length_replicate]
    exact q g4 ⟨a, h4, fun j hj => ha j (by omega), ⟨by omega, by omega, by omega⟩, hz'⟩
  · -- a sign
    intro i p P H C T y1 y2 hr hP hbl q g ⟨a, hB, ha, ⟨hl, hi, hp⟩, hz⟩
    have hiN := hN i (by omega)
    have t3 := (px_sort (key := key) (ok i)).2 (by rw [← hY]; omega) (by rw [← hY]; omega)
    have rk := px_rk_sp y1 y2
    have ll : (P ++ H).length = P.length + H.length := List.length_append
    have lc : (C ++ P).length = C.length + P.length := List.length_append
    rw [fuel i hiN]
    refine br_y rfl (br_n ?_ (br_y rfl ?_))
    · rw [hB.2.2.1.1, t3]; decide
    refine r_sw (key := key) (v := 41) (z := 20012) hB.2.2.1 (ok i) rfl (by omega) (fun x hx => (px_sg41 x hx).1) (by omega) (fun z => by rw [← hY] at z; omega) (fun _ => ?_)
    refine r_237 (t := T p) hb hB hp (ha p (Nat.le_refl _)) (fun z => absurd ⟨y1, y2, hr⟩ z) (fun _ _ _ => ?_)
    refine ⟨pl_in (by omega) (by omega), sp_b_ok _, ?_⟩
    rw [pl_clamp (by omega)]
    intro g1 e1
    obtain ⟨t1, ht1⟩ : ∃ t1, t1 = (decide (px_rk (px_y b n key i) = 3) || (decide (3 < px_rk (px_y b n key i)) && T p)) := ⟨_, rfl⟩
    rw [← ht1] at e1 q
    have h1 : px_B b n key g0 i (P ++ H) C (upd a p (sp_b t1)) g1 := by rw [e1]; exact hB.ts
    refine r_rank rfl y1 (by omega) ?_
    have hst : px_stp (px_rk (px_y b n key i)) H := by
      have := px_bl_stp hbl
      rw [show px_rk (px_y b n key i) - 1 + 1 = px_rk (px_y b n key i) by omega] at this
      exact this
    refine px_settle (P := P) h1 rfl (by omega) hst (fun z hz1 => by have := hP z hz1; omega) (by omega) (fun g2 h2 => ?_)
    rw [h2.2.2.2.2.2.1.2.1]
    refine ⟨pl_in (by omega) (by omega), ?_⟩
    rw [pl_clamp (by omega)]
    intro g3 e3 g4 e4
    have f21 : g3 58 21 = nI H.length := by rw [e3, st_ne (by omega)]; exact h2.2.2.2.2.2.1.2.1
    rw [f21, nI_1] at e4
    have h4 : px_B b n key g0 i (px_y b n key i :: H) (C ++ P) (upd a p (sp_b t1)) g4 := by rw [e4, e3]; exact h2.push rfl
    refine px_go hn hb h4 (Or.inr (Or.inr t3)) (fun g5 h5 => ?_)
    have hz' : ∀ z ∈ px_y b n key i :: H, 20001 ≤ z ∧ z ≤ 20011 := by
      intro z h
      rcases List.mem_cons.mp h with h | h
      · rw [h]; omega
      · exact hz z (List.mem_append_right _ h)
    have lh : (px_y b n key i :: H).length = H.length + 1 := rfl
    have nt : px_nt (P ++ H) = px_nt (px_y b n key i :: H) := by
      rw [px_nt_op (fun z hz1 => by have := hP z hz1; omega), px_nt, if_neg (by omega), Nat.zero_add]
    rw [nt]
    refine q g5 ⟨_, h5, fun j hj => ?_, ⟨by omega, by omega, hp⟩, hz'⟩
    unfold px_up
    by_cases c : j = p
    · rw [c, pk_us, if_pos rfl]
    · rw [pk_un c, if_neg c]; exact ha j (by omega)
  · -- what can't stand behind a part
    intro i p H C T y13 y12 hop fl g ⟨a, hB, ha, ⟨hl, hi, hp⟩, hz⟩
    have hiN := hN i y13
    rw [fuel i hiN]
    have z237 : wp_X7_takesE_237 F Q (wp_X7_takesE_28 F Q (n + 1 - (i + 1))) (nI p) (nI (px_nt H)) g := r_237 (t := T p) hb hB hp (ha p (Nat.le_refl _)) (fun _ => fl g hB.gg) (fun z1 z2 z3 => absurd (hop z1 z2) z3)
    refine br_y rfl (br_n ?_ (br_y rfl ?_))
    · rw [hB.2.2.1.1]
      intro z
      have := (pl_eq (b := 0) (by have := (ok i).1; omega) (by omega)).mp z
      exact y13 ((px_sy_end (ok i)).mpr this)
    refine r_sw (key := key) (v := 41) (z := 20012) hB.2.2.1 (ok i) rfl (by omega) (fun x hx => (px_sg41 x hx).1) (by omega) (fun e => br_y ?_ z237) (fun _ => z237)
    have p0 : p = 0 := by
      apply Classical.byContradiction
      intro z
      exact y12 ⟨e, by omega⟩
    rw [p0]
    decide
  · -- the end, and a bracket is open
    intro i p H C T y13 fl g ⟨a, hB, ha, ⟨hl, hi, hp⟩, hz⟩
    rw [fuel' i hi]
    have t0 : (tk_i b n i).1 = 0 := (px_sy_end (ok i)).mp y13
    obtain ⟨P, H0, e, h1, h2⟩ := px_split hz
    rw [e] at hB hl
    refine br_y rfl (br_y ?_ (px_settle (v := 0) hB rfl (by omega) h2 (fun z hz1 => by have := h1 z hz1; omega) (by omega) (fun g1 hB1 => br_n (nI_ne0 (by omega) (by omega)) (fl g1 hB1.gg))))
    rw [hB.2.2.1.1, t0]; rfl
/-- the end, and all is told -/
theorem r_last {i : Nat} {H C : List Nat} {T : Nat → Bool} (hn : n ≤ 96) (hb : ∀ k, k < n → b k < 256) (y13 : px_y b n key i = 20013) (hH : px_opl H 0) (q : ∀ g a, px_B b n key g0 i [] (C ++ H) a g → Q 1 g) : px_X F Q b n key g0 i 0 false H C T := by
  intro g ⟨a, hB, ha, ⟨hl, hi, hp⟩, hz⟩
  have t0 : (tk_i b n i).1 = 0 := (px_sy_end (tk_i_ok hb i)).mp y13
  rw [show n + 1 - i = (n - i) + 1 by omega]
  have hB' : px_B b n key g0 i (H ++ []) C a g := by rw [List.append_nil]; exact hB
  refine br_y rfl (br_y ?_ (px_settle (v := 0) (P := H) hB' rfl (by omega) True.intro (fun z hz1 => by have := hH z hz1; omega) (by rw [List.append_nil]; omega) (fun g1 hB1 => br_y rfl (q g1 a hB1))))
  rw [hB.2.2.1.1, t0]; rfl
end RT
