/-! THE REFERENCE'S PARSER AT WORK: its pieces -/
def sp_rank (v : Int32) : Int32 := if v = -1 then 1 else if v = -2 then 2 else if v < -5 then (if v < -7 then (if v < -9 then 6 else 5) else 4) else 3
theorem sp_rank_ok : ∀ k, k < 10 → sp_rank (px_rc (20001 + k)) = nI (px_rk (20001 + k)) := by decide
theorem px_rc_ok : ∀ k, k < 11 → (px_rc (20001 + k) = -11 ↔ 20001 + k = 20011) ∧ (px_rc (20001 + k) = -10 ↔ 20001 + k = 20010) := by decide
theorem px_rc11 {z : Nat} (h1 : 20001 ≤ z) (h2 : z ≤ 20011) : (px_rc z = -11 ↔ z = 20011) ∧ (px_rc z = -10 ↔ z = 20010) := by
  have := px_rc_ok (z - 20001) (by omega)
  rw [show 20001 + (z - 20001) = z by omega] at this
  exact this
def sp_sgn (v : Int32) : Int32 := if v = 38 then -2 else if v = 42 then -8 else if v = 43 then -6 else if v = 45 then -7 else if v = 47 then -9 else if v = 60 then -3 else if v = 61 then -4 else if v = 62 then -5 else if v = 124 then -1 else 0
def px_sgr (z : Nat) : Int32 := if 20001 ≤ z ∧ z ≤ 20009 then px_rc z else 0
theorem sp_sgn_ok : ∀ v, v < 256 → sp_sgn (nI v) = px_sgr (px_sg v) := by decide +kernel
theorem px_rc_n0 : ∀ k, k < 10 → ¬ px_rc (20001 + k) = 0 := by decide
theorem px_sg41 : ∀ v, v < 256 → (v = 41 ↔ px_sg v = 20012) ∧ (v = 33 ↔ px_sg v = 20010) ∧ (v = 40 ↔ px_sg v = 20011) := by decide +kernel
/-- what waits: the top first, the bottom at place 0 -/
def px_sk (a : Nat → Int32) : List Nat → Prop
  | [] => True
  | z :: H => a H.length = px_rc z ∧ px_sk a H
theorem px_sk_up {a : Nat → Int32} {k : Nat} {x : Int32} : ∀ {H : List Nat}, px_sk a H → H.length ≤ k → px_sk (upd a k x) H
  | [], _, _ => True.intro
  | z :: H, h, hk => by
    rw [List.length_cons] at hk
    exact ⟨by rw [pk_un (by omega)]; exact h.1, px_sk_up h.2 (by omega)⟩
def px_ct (a : Nat → Int32) : Nat → Nat
  | 0 => 0
  | k + 1 => px_ct a k + (if a k = -10 then 1 else 0)
theorem px_ct_nt {a : Nat → Int32} : ∀ {H : List Nat}, px_sk a H → (∀ z ∈ H, 20001 ≤ z ∧ z ≤ 20011) → px_ct a H.length = px_nt H
  | [], _, _ => rfl
  | z :: H, h, hz => by
    rw [List.length_cons, px_ct, px_nt, px_ct_nt h.2 (fun x hx => hz x (List.mem_cons_of_mem _ hx)), h.1]
    have hz1 := hz z List.mem_cons_self
    have := (px_rc11 hz1.1 hz1.2).2
    by_cases c : z = 20010
    · rw [if_pos c, if_pos (this.mpr c)]; omega
    · rw [if_neg c, if_neg (fun x => c (this.mp x))]; omega
def px_M (H C : List Nat) (g : sv_Mg) : Prop := (g 58 18 = nI C.length ∧ ∀ k, k < C.length → g 68 k = px_rc (C.getD k 0)) ∧ (g 58 21 = nI H.length ∧ px_sk (g 69) H)
def px_stp (v : Nat) (H : List Nat) : Prop := match H with
  | [] => True
  | z :: _ => z = 20011 ∨ (20001 ≤ z ∧ z ≤ 20010 ∧ px_rk z < v)
section RP
variable {F : sv_Fr} {g g0 : sv_Mg} {b : Nat → Nat} {n key : Nat}
theorem px_sy_ns {t : tk_T} (ht : tk_ok n t) (h3 : t.1 ≠ 3) : px_sy key t < 20000 ∨ 20013 ≤ px_sy key t := by
  obtain ⟨t1, -, -, -, -, t6, t7⟩ := ht
  unfold px_sy
  by_cases c0 : t.1 = 0
  · rw [if_pos c0]; omega
  rw [if_neg c0]
  by_cases c2 : t.1 = 2
  · rw [if_pos c2]; have := t7 c2; omega
  rw [if_neg c2, if_neg h3]
  by_cases c1 : t.1 = 1 ∧ t.2.2.1 - t.2.1 = 1
  · rw [if_pos c1]
    cases e : px_nm key t.2.2.2 with
    | none => right; decide
    | some j => have := px_nm_lt e; have := sp_nx_le key; left; show 10000 + j < 20000; omega
  · rw [if_neg c1]; omega
theorem r_rank0 {v : Int32} {Q : Int32 → sv_Mg → Prop} (q : Q (sp_rank v) g) : wp_X7_rank F v g Q := by
  unfold sp_rank at q
  refine ⟨fun c => ?_, fun c => ⟨fun c2 => ?_, fun c2 => ⟨fun c3 => ⟨fun c4 => ⟨fun c5 => ?_, fun c5 => ?_⟩, fun c4 => ?_⟩, fun c3 => ?_⟩⟩⟩
  · rw [if_pos c] at q; exact q
  · rw [if_neg c, if_pos c2] at q; exact q
  · rw [if_neg c, if_neg c2, if_pos c3, if_pos c4, if_pos c5] at q; exact q
  · rw [if_neg c, if_neg c2, if_pos c3, if_pos c4, if_neg c5] at q; exact q
  · rw [if_neg c, if_neg c2, if_pos c3, if_neg c4] at q; exact q
  · rw [if_neg c, if_neg c2, if_neg c3] at q; exact q
theorem r_rank {z : Nat} {v : Int32} {Q : Int32 → sv_Mg → Prop} (hv : v = px_rc z) (h1 : 20001 ≤ z) (h2 : z ≤ 20010) (q : Q (nI (px_rk z)) g) : wp_X7_rank F v g Q := by
  refine r_rank0 ?_
  have := sp_rank_ok (z - 20001) (by omega)
  rw [show 20001 + (z - 20001) = z by omega] at this
  rw [hv, this]
  exact q
theorem r_sign {t : tk_T} {Q : Int32 → sv_Mg → Prop} (hT : tk_R t g) (ht : tk_ok n t) (q : Q (px_sgr (px_sy key t)) g) : wp_X7_signHere F g Q := by
  obtain ⟨h11, -, -, h12, -⟩ := hT
  unfold wp_X7_signHere
  rw [h11]
  refine ⟨fun c => ?_, fun c => ?_⟩
  · have c3 : t.1 = 3 := (pl_eq (b := 3) (by have := ht.1; omega) (by omega)).mp c
    have hv := ht.2.2.2.2.2.1 (Or.inr c3)
    have e : px_sy key t = px_sg t.2.2.2 := by unfold px_sy; rw [if_neg (by omega), if_neg (by omega), if_pos c3]
    rw [e, ← sp_sgn_ok _ hv, ← h12 (Or.inr (Or.inr c3))] at q
    unfold sp_sgn at q
    iterate 9 (refine ⟨fun c => by rw [if_pos c] at q; exact q, fun c => ?_⟩; rw [if_neg c] at q)
    exact q
  · have c3 : t.1 ≠ 3 := fun z => c (by rw [z]; rfl)
    have e : px_sgr (px_sy key t) = 0 := by
      unfold px_sgr
      refine if_neg (fun z => ?_)
      have := px_sy_ns (key := key) ht c3
      omega
    rw [e] at q
    exact q
/-- a test for one sign -/
theorem r_sw {t : tk_T} {A B : Prop} {c : Int32} {z v : Nat} (hT : tk_R t g) (ht : tk_ok n t) (hc : c = nI v) (hv : v < 256) (hcz : ∀ x, x < 256 → (x = v ↔ px_sg x = z)) (hz : 20001 ≤ z ∧ z ≤ 20012) (qa : px_sy key t = z → A) (qb : px_sy key t ≠ z → B) : ((g 58 11 = 3 → ((g 58 12 = c → A) ∧ (¬ g 58 12 = c → B))) ∧ (¬ g 58 11 = 3 → B)) := by
  obtain ⟨h11, -, -, h12, -⟩ := hT
  subst hc
  rw [h11]
  refine ⟨fun c => ?_, fun c => qb (fun e => ?_)⟩
  · have c3 : t.1 = 3 := (pl_eq (b := 3) (by have := ht.1; omega) (by omega)).mp c
    have hx := ht.2.2.2.2.2.1 (Or.inr c3)
    have e : px_sy key t = px_sg t.2.2.2 := by unfold px_sy; rw [if_neg (by omega), if_neg (by omega), if_pos c3]
    rw [h12 (Or.inr (Or.inr c3))]
    rw [e] at qa qb
    refine ⟨fun y => qa ((hcz _ hx).mp ((pl_eq (by omega) (by omega)).mp y)), fun y => qb (fun x => y (by rw [(hcz _ hx).mpr x]))⟩
  · have c3 : t.1 ≠ 3 := fun z => c (by rw [z]; rfl)
    have := px_sy_ns (key := key) ht c3
    omega
theorem r_settle {v : Nat} {w : Int32} {H : List Nat} (hw : w = nI v) (hv : v < 10) (h0 : px_stp v H) : ∀ {P C : List Nat} {g : sv_Mg} {Q : sv_Mg → Prop}, px_M (P ++ H) C g → (∀ z ∈ P, 20001 ≤ z ∧ z ≤ 20010 ∧ v ≤ px_rk z) → (P ++ H).length + C.length < 96 → (∀ g', px_M H (C ++ P) g' → sv_sm (fun k => k = 58 ∨ k = 68) g g' → (∀ j, j ≠ 18 → j ≠ 21 → g' 58 j = g 58 j) → Q g') → wp_X7_settle_0 F Q (P.length + 1) w g := by
  subst hw
  intro P
  have rk6 : ∀ z, px_rk z < 7 := by
    intro z
    unfold px_rk
    repeat (split <;> try omega)
  induction P with
  | nil =>
    intro C g Q hM hP hl q
    obtain ⟨⟨m1, m2⟩, m3, m4⟩ := hM
    rw [List.nil_append] at m3 m4 hl
    have qq := q g (by rw [List.append_nil]; exact ⟨⟨m1, m2⟩, m3, m4⟩) sv_sm.rf (fun _ _ _ => rfl)
    unfold wp_X7_settle_0
    rw [m3]
    cases H with
    | nil => exact br_y (by decide) qq
    | cons z H =>
      obtain ⟨m4, m5⟩ := m4
      rw [List.length_cons] at hl ⊢
      rw [nI_pred]
      refine br_n (nI_nle (by omega) (by omega)) ⟨pl_in (by omega) (by omega), ?_⟩
      rw [pl_clamp (by omega), m4]
      rcases h0 with h0 | ⟨z1, z2, z3⟩
      · exact br_y ((px_rc11 (by omega) (by omega)).1.mpr h0) qq
      · refine br_n (fun x => by have := (px_rc11 (by omega) (by omega)).1.mp x; omega) ⟨pl_in (by omega) (by omega), r_rank rfl z1 z2 (br_y ((pl_lt (by have := rk6 z; omega) (by omega)).mpr z3) qq)⟩
  | cons z P ih =>
    intro C g Q hM hP hl q
    obtain ⟨⟨m1, m2⟩, m3, m4⟩ := hM
    rw [List.cons_append] at m3 m4 hl
    rw [List.length_cons] at m3 hl
    obtain ⟨m4, m5⟩ := m4
    obtain ⟨z1, z2, z3⟩ := hP z List.mem_cons_self
    unfold wp_X7_settle_0
    rw [m3, nI_pred]
    refine br_n (nI_nle (by omega) (by omega)) ⟨pl_in (by omega) (by omega), ?_⟩
    rw [pl_clamp (by omega), m4]
    refine br_n (fun x => by have := (px_rc11 (by omega) (by omega)).1.mp x; omega) ⟨pl_in (by omega) (by omega), r_rank rfl z1 z2 (br_n (fun x => absurd ((pl_lt (by have := rk6 z; omega) (by omega)).mp x) (by omega)) ?_)⟩
    rw [m3, nI_pred]
    intro g1 e1
    have f21 : g1 58 21 = nI (P ++ H).length := by rw [e1, st_at]
    have f18 : g1 58 18 = nI C.length := by rw [e1, st_nk (by omega)]; exact m1
    have f69 : g1 69 = g 69 := by rw [e1, st_ne (by omega)]
    rw [f21, f18]
    refine ⟨pl_in (by omega) (by omega), pl_in (by omega) (by omega), ?_⟩
    rw [pl_clamp (by omega), pl_clamp (by omega), f69, m4]
    intro g2 e2 g3 e3
    have f218 : g2 58 18 = nI C.length := by rw [e2, st_ne (by omega)]; exact f18
    rw [f218, nI_1] at e3
    have j3 : ∀ j, j ≠ 18 → j ≠ 21 → g3 58 j = g 58 j := fun j x y => by rw [e3, st_nk x, e2, st_ne (by omega), e1, st_nk y]
    have f68 : g3 68 = upd (g 68) C.length (px_rc z) := by rw [e3, st_ne (by omega), e2, upd_st, e1, st_ne (by omega)]
    refine ih (C := C ++ [z]) (g := g3) ⟨⟨?_, fun k hk => ?_⟩, ?_, ?_⟩ (fun x hx => hP x (List.mem_cons_of_mem _ hx)) ?_ (fun g' M' S' J' => q g' ?_ ?_ (fun j x y => ?_))
    · rw [e3, st_at, List.length_append]; rfl
    · rw [f68]
      rw [List.length_append, List.length_singleton] at hk
      by_cases c : k < C.length
      · rw [pk_un (by omega), m2 k c, px_gl c]
      · have : k = C.length := by omega
        subst this
        rw [pk_us, px_gr]
    · rw [e3, st_nk (by omega), e2, st_ne (by omega)]; exact f21
    · rw [e3, st_ne (by omega), e2, st_ne (by omega), f69]; exact m5
    · have : (C ++ [z]).length = C.length + 1 := by rw [List.length_append]; rfl
      omega
    · rw [List.append_assoc] at M'; exact M'
    · have S3 : sv_sm (fun k => k = 58 ∨ k = 68) g g3 := by
        rw [e3, e2, e1]
        exact ((sv_sm.rf.st (Or.inl rfl)).st (Or.inr rfl)).st (Or.inl rfl)
      exact S3.tr S'
    · rw [J' j x y]; exact j3 j x y
theorem r_nots {H C : List Nat} {Q : Int32 → sv_Mg → Prop} (hM : px_M H C g) (hz : ∀ z ∈ H, 20001 ≤ z ∧ z ≤ 20011) (hl : H.length < 96) (q : Q (nI (px_nt H)) g) : wp_X7_notsOpen F g Q := by
  obtain ⟨-, m3, m4⟩ := hM
  have lp : ∀ d k, k + d = H.length → wp_X7_notsOpen_4 F Q (d + 1) (nI (px_ct (g 69) k)) (nI k) g := by
    intro d
    induction d with
    | zero =>
      intro k hk
      have : k = H.length := by omega
      subst this
      rw [px_ct_nt m4 hz]
      exact br_y (by rw [m3]; exact (pl_le (by omega) (by omega)).mpr (Nat.le_refl _)) q
    | succ d ih =>
      intro k hk
      refine br_n (by rw [m3]; exact fun x => absurd ((pl_le (by omega) (by omega)).mp x) (by omega)) ⟨pl_in (by omega) (by omega), ?_⟩
      rw [pl_clamp (by omega)]
      have ih := ih (k + 1) (by omega)
      rw [px_ct] at ih
      refine ⟨fun c => ?_, fun c => ?_⟩
      · rw [if_pos c] at ih
        intro v ev w ew
        rw [nI_1] at ev ew
        subst ev; subst ew
        exact ih
      · rw [if_neg c] at ih
        intro v ev w ew
        rw [show nI (px_ct (g 69) k) + 0 = nI (px_ct (g 69) k) from nI_add _ 0] at ev
        rw [nI_1] at ew
        subst ev; subst ew
        exact ih
  exact ⟨_, lp H.length 0 (by omega)⟩
theorem r_name {v : Nat} {Q : Int32 → sv_Mg → Prop} (hk : key < 3) (h14 : g 58 14 = nI key) (hv : v < 256) (q : Q (sp_o (px_nm key v)) g) : wp_X7_nameOf F (nI v) g Q := by
  have l102 : nI v = 102 ↔ v = 102 := pl_eq (b := 102) (by omega) (by omega)
  have l114 : nI v = 114 ↔ v = 114 := pl_eq (b := 114) (by omega) (by omega)
  have l112 : nI v = 112 ↔ v = 112 := pl_eq (b := 112) (by omega) (by omega)
  have l119 : nI v = 119 ↔ v = 119 := pl_eq (b := 119) (by omega) (by omega)
  unfold wp_X7_nameOf
  rw [h14, l102, l114, l112, l119]
  unfold px_nm at q
  have : key = 0 ∨ key = 1 ∨ key = 2 := by omega
  rcases this with rfl | rfl | rfl
  · rw [if_pos rfl] at q
    refine br_y rfl ?_
    refine ⟨fun c => by rw [if_pos c] at q; exact q, fun c => ?_⟩
    rw [if_neg c] at q
    refine ⟨fun c => by rw [if_pos c] at q; exact q, fun c => ?_⟩
    rw [if_neg c] at q
    refine ⟨fun c => by rw [if_pos c] at q; exact q, fun c => ?_⟩
    rw [if_neg c] at q
    exact q
  · rw [if_neg (by omega), if_pos rfl] at q
    refine br_n (by decide) (br_y rfl ?_)
    refine ⟨fun c => by rw [if_pos c] at q; exact q, fun c => ?_⟩
    rw [if_neg c] at q
    refine ⟨fun c => by rw [if_pos c] at q; exact q, fun c => ?_⟩
    rw [if_neg c] at q
    exact q
  · rw [if_neg (by omega), if_neg (by omega)] at q
    refine br_n (by decide) (br_n (by decide) ?_)
    refine ⟨fun c => by rw [if_pos c] at q; exact q, fun c => ?_⟩
    rw [if_neg c] at q
    refine ⟨fun c => by rw [if_pos c] at q; exact q, fun c => ?_⟩
    rw [if_neg c] at q
    exact q
theorem r_nx {i : Nat} {Q : sv_Mg → Prop} (hn : n ≤ 96) (hb : ∀ k, k < n → b k < 256) (hB : tk_rb b n g) (hR : tk_R (tk_i b n i) g) (h1 : (tk_i b n i).1 = 1 ∨ (tk_i b n i).1 = 2 ∨ (tk_i b n i).1 = 3) (q : ∀ g', tk_o g g' → tk_R (tk_i b n (i + 1)) g' → Q g') : wp_X7_go F g Q := by
  have ok := tk_i_ok hb i
  obtain ⟨h11, h10, h9, h12, h13, h13'⟩ := hR
  refine r_tok (w := tk_w (tk_i b n i).1) hn hb hB ok.2.2.1 h9 (fun z => h13 (of_decide_eq_true z)) (fun z => h13' ?_) q
  have := of_decide_eq_false z
  omega
end RP
