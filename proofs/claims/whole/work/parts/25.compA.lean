/-! THE SYSTEM'S CONCLAVE AGAINST A ROW f -/
def sp_tr (c : Int32) : Int32 := if c = -1 then 20124 else if c = -2 then 20038 else if c = -3 then 20060 else if c = -4 then 20061 else if c = -5 then 20062 else if c = -6 then 20043 else if c = -7 then 20045 else if c = -8 then 20042 else if c = -9 then 20047 else if c = -10 then 20033 else c
/-- the laws in the book are the first texts of f -/
def cr_t (F : sv_Fr) (g : sv_Mg) (f : Nat → Int32) : Prop := ∀ t, t < sp_t f → ∃ q, F.2 2 t = some q ∧ g q 0 = nI (sp_key f t) ∧ g q 1 = f (72 + 2 * t) ∧ sv_ln F (q + 1) = sp_len f t ∧ ∀ k, k < sp_len f t → g (q + 1) k = sp_tr (f (99 + 96 * t + k))
def cr_s (g : sv_Mg) (a : Nat) (f : Nat → Int32) : Prop := g a 8 = f 1 ∧ g a 9 = f 4 ∧ g a 10 = f 5 ∧ g a 11 = f 6 ∧ g a 12 = f 9 ∧ g a 13 = f 7 ∧ g a 14 = f 3 ∧ g a 16 = f 0 ∧ g a 17 = f 8 ∧ g a 18 = f 10
def cr_v (g : sv_Mg) (a : Nat) (f : Nat → Int32) : Prop := ∀ v j, v < sp_n f → j < 5 → g (a + 1 + j) v = f (11 + 6 * v + j)
def cr_h (g : sv_Mg) (a : Nat) (f : Nat → Int32) : Prop := ∀ u, u < 10 → g (a + 7) u = nI (sp_hv f (nI u))
def sp_W (B : Nat) (f : Nat → Int32) : Prop := sp_wf B f ∧ sp_wt f
/-- all but the votes -/
def cr5 (F : sv_Fr) (g : sv_Mg) (a : Nat) (f : Nat → Int32) : Prop := cr_s g a f ∧ cr_v g a f ∧ cr_h g a f ∧ cr_t F g f
/-- all, d being the day -/
def crD (F : sv_Fr) (g : sv_Mg) (a : Nat) (f : Nat → Int32) (d : Int32) : Prop := cr5 F g a f ∧ (∀ v, v < sp_n f → g (a + 6) v = f (16 + 6 * v)) ∧ g a 15 = d
def cr (F : sv_Fr) (g : sv_Mg) (a : Nat) (f : Nat → Int32) : Prop := crD F g a f (f 2)
theorem sp_W.n {B : Nat} {f : Nat → Int32} (h : sp_W B f) : f 1 = nI (sp_n f) := h.1.1.1
theorem sp_W.n2 {B : Nat} {f : Nat → Int32} (h : sp_W B f) : sp_n f ≤ 10 := h.1.1.2
theorem sp_W.t {B : Nat} {f : Nat → Int32} (h : sp_W B f) : f 10 = nI (sp_t f) := h.1.2.2.2.2.2.2.2.1
theorem sp_W.t2 {B : Nat} {f : Nat → Int32} (h : sp_W B f) : sp_t f ≤ 14 := h.1.2.2.2.2.2.2.2.2
theorem sp_W.rd {B : Nat} {g : sv_Mg} (h : sp_W B (g 59)) : sp_rd g := ⟨⟨h.n, h.n2⟩, ⟨h.t, h.t2⟩, h.2⟩
theorem cr5.n {F : sv_Fr} {g : sv_Mg} {a : Nat} {f : Nat → Int32} {B : Nat} (h : cr5 F g a f) (hw : sp_W B f) : g a 8 = nI (sp_n f) := by rw [h.1.1]; exact hw.n
theorem cr_v.at {g : sv_Mg} {a : Nat} {f : Nat → Int32} (h : cr_v g a f) {v : Nat} (j p c : Nat) (hv : v < sp_n f) (hj : j < 5) (hp : p = 11 + 6 * v + j) (hc : c = a + 1 + j) : g c v = f p := by
  subst hp; subst hc; exact h v j hv hj
section KA
variable {F : sv_Fr} {g : sv_Mg} {a B : Nat} {f : Nat → Int32}
theorem k_voter_y {n i : Nat} {Q : Int32 → sv_Mg → Prop} (hn : g a 8 = nI n) (hn2 : n ≤ 10) (hi : i < n) (q : Q 1 g) : wp_X0_isVoter F a (nI i) g Q := by
  refine br_n (pl_nn (by omega)) ?_
  rw [hn]
  exact br_n (fun z => absurd ((pl_le (by omega) (by omega)).mp z) (by omega)) q
theorem k_voter_n {n : Nat} {v : Int32} {Q : Int32 → sv_Mg → Prop} (hn : g a 8 = nI n) (hv : v < 0 ∨ nI n ≤ v) (q : Q 0 g) : wp_X0_isVoter F a v g Q := by
  by_cases h : v < 0
  · exact br_y h q
  · refine br_n h ?_
    rw [hn]
    exact br_y (hv.resolve_left h) q
theorem k_weight {k : Int32} {Q : Int32 → sv_Mg → Prop} (q : Q (if k = 5 then 2 else 1) g) : wp_X6_weight F k g Q := br_ite (P := fun x => Q x g) q
theorem sp_w_I (f : Nat → Int32) (k : Nat) : nI (sp_w f k) = if f (11 + 6 * k) = 5 then 2 else 1 := by
  unfold sp_w; split <;> rfl
/-- what the one with the most so far has; -1: nobody yet -/
def sp_mv (f : Nat → Int32) (o : Option Nat) : Int32 := match o with
  | none => -1
  | some b => nI (sp_hv f (nI b))
theorem k_most_l {set : Int32} {n : Nat} {Q : Int32 → sv_Mg → Prop} (hn : g a 8 = nI n) (hn2 : n ≤ 10) (hnn : n = sp_n f) (hh : cr_h g a f) (q : Q (sp_o (sp_most f set n)) g) : ∀ m i, i ≤ n → n + 1 ≤ i + m → wp_X0_mostAmong_7 F a Q m set (sp_o (sp_most f set i)) (sp_mv f (sp_most f set i)) (nI i) g := by
  intro m
  induction m with
  | zero => intro i h1 h2; omega
  | succ m ih =>
    intro i h1 h2
    rw [wp_X0_mostAmong_7]
    by_cases hi : n ≤ i
    · have e : i = n := by omega
      subst e
      exact br_y (by rw [hn]; exact (pl_le (by omega) (by omega)).mpr hi) q
    · refine br_n (fun z => hi (by rw [hn] at z; exact (pl_le (by omega) (by omega)).mp z)) ?_
      have ih2 := ih (i + 1) (by omega) (by omega)
      have go : ∀ o, sp_most f set (i + 1) = o → wp_X0_mostAmong_48 F a Q (wp_X0_mostAmong_7 F a Q m) set (sp_o o) (sp_mv f o) (nI i) g := by
        intro o e v3 e3
        rw [e3, nI_1, ← e]; exact ih2
      have l0 := sp_hv_le f (nI i) (by omega)
      by_cases hb : ((set >>> (nI i &&& 31)) &&& 1) = 1
      · have hb' : sp_bit set i = true := decide_eq_true hb
        refine br_y hb ⟨pl_in (by omega) (by omega), ?_⟩
        rw [pl_clamp (by omega), hh i (by omega)]
        cases e : sp_most f set i with
        | none =>
          refine br_n ?_ ⟨pl_in (by omega) (by omega), fun v3 e3 => ?_⟩
          · show ¬ nI (sp_hv f (nI i)) ≤ -1
            intro z
            have h3 : (-1 : Int32) < 0 := by decide
            exact pl_nn (a := sp_hv f (nI i)) (by omega) (Int32.lt_of_le_of_lt z h3)
          · rw [e3]
            exact go (some i) (by rw [sp_most, e]; dsimp only; rw [if_pos hb'])
        | some b =>
          have hbi := sp_most_lt e
          have l1 := sp_hv_le f (nI b) (by omega)
          rw [show sp_mv f (some b) = nI (sp_hv f (nI b)) from rfl]
          by_cases hc : sp_hv f (nI b) < sp_hv f (nI i)
          · refine br_n (fun z => absurd ((pl_le (by omega) (by omega)).mp z) (by omega)) ⟨pl_in (by omega) (by omega), fun v3 e3 => ?_⟩
            rw [e3]
            exact go (some i) (by rw [sp_most, e]; dsimp only; rw [if_pos ⟨hb', hc⟩])
          · refine br_y ((pl_le (by omega) (by omega)).mpr (by omega)) ?_
            exact go (some b) (by rw [sp_most, e]; dsimp only; rw [if_neg (fun z => hc z.2)])
      · refine br_n hb ?_
        have hb' : ¬ sp_bit set i = true := fun z => hb (of_decide_eq_true z)
        refine go _ ?_
        rw [sp_most]
        cases e : sp_most f set i with
        | none => dsimp only; rw [if_neg hb']
        | some b => dsimp only; rw [if_neg (fun z => hb' z.1)]
theorem k_most {set : Int32} {Q : Int32 → sv_Mg → Prop} (hc : cr5 F g a f) (hw : sp_W B f) (q : Q (sp_o (sp_mo f set)) g) : wp_X0_mostAmong F a set g Q :=
  ⟨_, k_most_l (f := f) (hc.n hw) hw.n2 rfl hc.2.2.1 q (sp_n f + 1) 0 (Nat.zero_le _) (by omega)⟩
theorem k_leader {Q : Int32 → sv_Mg → Prop} (hc : cr5 F g a f) (hw : sp_W B f) (q : Q (sp_o (sp_mo f (sp_set f))) g) : wp_X0_leader F a g Q := by
  unfold wp_X0_leader
  rw [hc.1.1]
  exact k_most hc hw q
/-- the most that somebody has -/
def sp_top (f : Nat → Int32) : Nat := match sp_mo f (sp_set f) with
  | none => 0
  | some b => sp_hv f (nI b)
theorem k_top {Q : Int32 → sv_Mg → Prop} (hc : cr5 F g a f) (hw : sp_W B f) (q : Q (nI (sp_top f)) g) : wp_X0_mostVotes F a g Q := by
  refine k_leader hc hw ?_
  unfold sp_top at q
  have n2 := hw.n2
  cases e : sp_mo f (sp_set f) with
  | none =>
    rw [e] at q
    exact k_voter_n (hc.n hw) (Or.inl (by decide)) (br_y rfl q)
  | some b =>
    rw [e] at q
    have hb := sp_mo_lt e
    refine k_voter_y (hc.n hw) n2 hb (br_n ne10 ⟨pl_in (by omega) (by omega), ?_⟩)
    show Q (g (a + 7) (nI b).toNatClampNeg) g
    rw [pl_clamp (by omega), hc.2.2.1 b (by omega)]
    exact q
theorem k_runs {Q : Int32 → sv_Mg → Prop} (hc : cr5 F g a f) (hw : sp_W B f) (q : Q (sp_runs f) g) : wp_X0_runners F a g Q := by
  intro v1 e1
  have e1 : v1 = sp_set f := by rw [e1, hc.1.1]; rfl
  subst e1
  have n2 := hw.n2
  unfold sp_runs at q
  refine k_most hc hw ?_
  rw [hc.1.2.2.2.2.2.2.1, hc.1.2.2.2.1]
  cases e : sp_mo f (sp_set f) with
  | none =>
    rw [e] at q
    dsimp only at q
    exact ⟨fun _ => q, fun _ => k_voter_n (hc.n hw) (Or.inl (by decide)) (br_y rfl q)⟩
  | some x =>
    rw [e] at q
    dsimp only at q
    have hx := sp_mo_lt e
    have h1 := sp_hv_le f (nI x) n2
    rw [show sp_o (some x) = nI x from rfl]
    by_cases c : f 3 < f 6
    · rw [if_pos (Or.inl c)] at q
      exact br_y c q
    · refine br_n c (k_voter_y (hc.n hw) n2 hx (br_n ne10 ⟨pl_in (by omega) (by omega), ?_⟩))
      rw [pl_clamp (by omega), hc.2.2.1 x (by omega)]
      by_cases c2 : sp_hv f (nI x) = 0
      · rw [if_pos (Or.inr c2)] at q
        exact br_y ((pl_eq0 (by omega)).mpr c2) q
      · rw [if_neg (fun z => z.elim c c2)] at q
        refine br_n (fun z => c2 ((pl_eq0 (by omega)).mp z)) (k_most hc hw ?_)
        cases e2 : sp_mo f (sp_set f &&& ((1 <<< (nI x &&& 31)) ^^^ (-1))) with
        | none =>
          rw [e2] at q
          dsimp only at q
          exact k_voter_n (hc.n hw) (Or.inl (by decide)) (br_y rfl q)
        | some b =>
          rw [e2] at q
          dsimp only at q
          have hb := sp_mo_lt e2
          have h2 := sp_hv_le f (nI b) n2
          rw [show sp_o (some b) = nI b from rfl]
          refine k_voter_y (hc.n hw) n2 hb (br_n ne10 ⟨pl_in (by omega) (by omega), ?_⟩)
          rw [pl_clamp (by omega), hc.2.2.1 b (by omega)]
          by_cases c3 : sp_hv f (nI b) = 0
          · rw [if_pos c3] at q
            exact br_y ((pl_eq0 (by omega)).mpr c3) q
          · rw [if_neg c3] at q
            exact br_n (fun z => c3 ((pl_eq0 (by omega)).mp z)) q
/-! texts in the book -/
theorem k_held {v l h : Int32} {Q : Int32 → sv_Mg → Prop} (hlh : ¬ h < l) (q : Q (sp_held v l h) g) : wp_X6_held F v l h g Q := by
  unfold wp_X6_held
  unfold sp_held at q
  by_cases c1 : v < h
  · rw [if_pos c1]
    rw [if_neg (fun z => Int32.lt_irrefl (Int32.lt_of_lt_of_le c1 (Int32.le_of_lt z)))] at q
    by_cases c2 : l < v
    · rw [if_pos c2]
      rw [if_neg (fun z => Int32.lt_irrefl (Int32.lt_of_lt_of_le c2 (Int32.le_of_lt z)))] at q
      exact q
    · rw [if_neg c2]
      by_cases c3 : v < l
      · rw [if_pos c3] at q; exact q
      · rw [if_neg c3] at q
        have e : v = l := Int32.le_antisymm (Int32.not_lt.mp c2) (Int32.not_lt.mp c3)
        rw [← e]; exact q
  · rw [if_neg c1]
    have hv : h ≤ v := Int32.not_lt.mp c1
    have c3 : ¬ v < l := fun z => hlh (Int32.lt_of_le_of_lt hv z)
    rw [if_neg c3] at q
    by_cases c2 : l < h
    · rw [if_pos c2]
      by_cases c4 : h < v
      · rw [if_pos c4] at q; exact q
      · rw [if_neg c4] at q
        have e : v = h := Int32.le_antisymm (Int32.not_lt.mp c4) hv
        rw [← e]; exact q
    · rw [if_neg c2]
      have e : l = h := Int32.le_antisymm (Int32.not_lt.mp hlh) (Int32.not_lt.mp c2)
      by_cases c4 : h < v
      · rw [if_pos c4] at q; rw [e]; exact q
      · rw [if_neg c4] at q
        have e2 : v = h := Int32.le_antisymm (Int32.not_lt.mp c4) hv
        rw [e, ← e2]; exact q
theorem k_cnt_l {key : Nat} {Q : Int32 → sv_Mg → Prop} (ht : cr_t F g f) (hw : sp_wt f) (ht2 : sp_t f ≤ 14) (hk : key < 3) (q : Q (sp_o (sp_cnt f key (sp_t f))) g) : ∀ t, t ≤ sp_t f → sp_cnt f key t = sp_cnt f key (sp_t f) → wp_X2_latest_9 F Q (t + 1) (nI key) (nI t - 1) g := by
  intro t
  induction t with
  | zero =>
    intro _ e
    rw [wp_X2_latest_9]
    refine br_y (by decide) ?_
    rw [← e] at q; exact q
  | succ t ih =>
    intro h1 e
    rw [wp_X2_latest_9, nI_pred]
    refine br_n (pl_nn (by omega)) ⟨pl_in (by omega) (by omega), ?_⟩
    rw [pl_clamp (by omega)]
    obtain ⟨q0, hq, hkey, -⟩ := ht t (by omega)
    obtain ⟨k, m, hk3, hm, he, -⟩ := hw t (by omega)
    have hkk := (sp_key_of he hk3 hm).1
    refine ⟨fun z => (by rw [hq] at z; cases z), fun q1 z => ?_⟩
    have : q1 = q0 := Option.some.inj (z.symm.trans hq)
    subst this
    rw [hkey]
    rw [sp_cnt] at e
    by_cases hc : sp_key f t = key
    · rw [if_pos hc] at e
      rw [← e] at q
      exact br_y (by rw [hc]) q
    · rw [if_neg hc] at e
      refine br_n (fun y => hc ((pl_eq (by omega) (by omega)).mp y)) ?_
      intro v3 e3
      rw [e3, pl_am1]
      exact ih (by omega) e
theorem k_cnt {key : Nat} {kw w : Int32} {Q : Int32 → sv_Mg → Prop} (hkw : kw = nI key) (hwt : w = nI (sp_t f)) (ht : cr_t F g f) (hw : sp_wt f) (ht2 : sp_t f ≤ 14) (hk : key < 3) (q : Q (sp_o (sp_cnt f key (sp_t f))) g) : wp_X2_latest F kw w g Q := by
  subst hkw
  intro v3 e3
  have h14 : ¬ (14 : Int32) < w := by
    rw [hwt, pl_lit 14]
    exact fun z => absurd ((pl_lt (by omega) (by omega)).mp z) (by omega)
  rw [if_neg h14, hwt] at e3
  rw [e3]
  exact ⟨_, k_cnt_l ht hw ht2 hk q (sp_t f) (Nat.le_refl _) rfl⟩
theorem k_truth {v : Int32} {Q : Int32 → sv_Mg → Prop} (q : Q (if v = 0 then 0 else 1) g) : wp_X2_truth F v g Q := br_ite (P := fun x => Q x g) q
theorem k_t0 {Q : Int32 → sv_Mg → Prop} (q : Q 0 g) : wp_X2_truth F 0 g Q := k_truth q
theorem k_t1 {Q : Int32 → sv_Mg → Prop} (q : Q 1 g) : wp_X2_truth F 1 g Q := k_truth (by rw [if_neg ne10]; exact q)
theorem k_join1 {x y : Int32} {Q : Int32 → sv_Mg → Prop} (q : Q (sp_two (-nI 1) x y) g) : wp_X2_joined F 124 x y g Q := by
  refine br_n (by decide) (br_n (by decide) (br_n (by decide) (br_n (by decide) (br_n (by decide) (br_n (by decide) (br_n (by decide) (br_y rfl ?_)))))))
  rw [show sp_two (-nI 1) x y = (if x = 0 then (if y = 0 then 0 else 1) else 1) from rfl] at q
  have q := br_ite (P := fun z => Q z g) q
  refine ⟨fun c => ?_, fun c => k_t1 (q.2 c)⟩
  have q := br_ite (P := fun z => Q z g) (q.1 c)
  exact ⟨fun c => k_t0 (q.1 c), fun c => k_t1 (q.2 c)⟩
theorem k_join2 {x y : Int32} {Q : Int32 → sv_Mg → Prop} (q : Q (sp_two (-nI 2) x y) g) : wp_X2_joined F 38 x y g Q := by
  refine br_y rfl ?_
  rw [show sp_two (-nI 2) x y = (if x = 0 then 0 else if y = 0 then 0 else 1) from rfl] at q
  have q := br_ite (P := fun z => Q z g) q
  refine ⟨fun c => k_t0 (q.1 c), fun c => ?_⟩
  have q := br_ite (P := fun z => Q z g) (q.2 c)
  exact ⟨fun c => k_t0 (q.1 c), fun c => k_t1 (q.2 c)⟩
theorem k_join3 {x y : Int32} {Q : Int32 → sv_Mg → Prop} (q : Q (sp_two (-nI 3) x y) g) : wp_X2_joined F 60 x y g Q := by
  refine br_n (by decide) (br_n (by decide) (br_n (by decide) (br_n (by decide) (br_y rfl ?_))))
  rw [show sp_two (-nI 3) x y = (if y ≤ x then 0 else 1) from rfl] at q
  have q := br_ite (P := fun z => Q z g) q
  exact ⟨fun c => k_t0 (q.1 c), fun c => k_t1 (q.2 c)⟩
theorem k_join4 {x y : Int32} {Q : Int32 → sv_Mg → Prop} (q : Q (sp_two (-nI 4) x y) g) : wp_X2_joined F 61 x y g Q := by
  refine br_n (by decide) (br_n (by decide) (br_n (by decide) (br_n (by decide) (br_n (by decide) (br_y rfl ?_)))))
  rw [show sp_two (-nI 4) x y = (if x = y then 1 else 0) from rfl] at q
  have q := br_ite (P := fun z => Q z g) q
  exact ⟨fun c => k_t1 (q.1 c), fun c => k_t0 (q.2 c)⟩
theorem k_join5 {x y : Int32} {Q : Int32 → sv_Mg → Prop} (q : Q (sp_two (-nI 5) x y) g) : wp_X2_joined F 62 x y g Q := by
  refine br_n (by decide) (br_n (by decide) (br_n (by decide) (br_n (by decide) (br_n (by decide) (br_n (by decide) (br_y rfl ?_))))))
  rw [show sp_two (-nI 5) x y = (if x ≤ y then 0 else 1) from rfl] at q
  have q := br_ite (P := fun z => Q z g) q
  exact ⟨fun c => k_t0 (q.1 c), fun c => k_t1 (q.2 c)⟩
theorem k_join6 {x y : Int32} {Q : Int32 → sv_Mg → Prop} (q : Q (sp_two (-nI 6) x y) g) : wp_X2_joined F 43 x y g Q := by
  refine br_n (by decide) (br_n (by decide) (br_y rfl ?_))
  exact q
theorem k_join7 {x y : Int32} {Q : Int32 → sv_Mg → Prop} (q : Q (sp_two (-nI 7) x y) g) : wp_X2_joined F 45 x y g Q := by
  refine br_n (by decide) (br_n (by decide) (br_n (by decide) (br_y rfl ?_)))
  exact q
theorem k_join8 {x y : Int32} {Q : Int32 → sv_Mg → Prop} (q : Q (sp_two (-nI 8) x y) g) : wp_X2_joined F 42 x y g Q := by
  refine br_n (by decide) (br_y rfl ?_)
  exact q
theorem k_join9 {x y : Int32} {Q : Int32 → sv_Mg → Prop} (q : Q (sp_two (-nI 9) x y) g) : wp_X2_joined F 47 x y g Q := by
  refine br_n (by decide) (br_n (by decide) (br_n (by decide) (br_n (by decide) (br_n (by decide) (br_n (by decide) (br_n (by decide) (br_n (by decide) (?_))))))))
  rw [show sp_two (-nI 9) x y = (if y = 0 then 0 else x / y) from rfl] at q
  have q := br_ite (P := fun z => Q z g) q
  exact ⟨q.1, fun c => ⟨c, q.2 c⟩⟩
theorem k_join {z : Nat} {v x y : Int32} {Q : Int32 → sv_Mg → Prop} (z1 : 1 ≤ z) (z9 : z ≤ 9) (hv : v = sp_tr (-nI z) - 20000) (q : Q (sp_two (-nI z) x y) g) : wp_X2_joined F v x y g Q := by
  subst hv
  rcases (show z = 1 ∨ z = 2 ∨ z = 3 ∨ z = 4 ∨ z = 5 ∨ z = 6 ∨ z = 7 ∨ z = 8 ∨ z = 9 by omega) with rfl | rfl | rfl | rfl | rfl | rfl | rfl | rfl | rfl
  · rw [show sp_tr (-nI 1) - 20000 = 124 by decide]; exact k_join1 q
  · rw [show sp_tr (-nI 2) - 20000 = 38 by decide]; exact k_join2 q
  · rw [show sp_tr (-nI 3) - 20000 = 60 by decide]; exact k_join3 q
  · rw [show sp_tr (-nI 4) - 20000 = 61 by decide]; exact k_join4 q
  · rw [show sp_tr (-nI 5) - 20000 = 62 by decide]; exact k_join5 q
  · rw [show sp_tr (-nI 6) - 20000 = 43 by decide]; exact k_join6 q
  · rw [show sp_tr (-nI 7) - 20000 = 45 by decide]; exact k_join7 q
  · rw [show sp_tr (-nI 8) - 20000 = 42 by decide]; exact k_join8 q
  · rw [show sp_tr (-nI 9) - 20000 = 47 by decide]; exact k_join9 q
theorem sp_tr_neg {z : Nat} (z1 : 1 ≤ z) (z9 : z ≤ 9) : (20000 : Int32) ≤ sp_tr (-nI z) ∧ ¬ sp_tr (-nI z) = 20033 := by
  have : ∀ z, z < 10 → 1 ≤ z → (20000 : Int32) ≤ sp_tr (-nI z) ∧ ¬ sp_tr (-nI z) = 20033 := by decide
  exact this z (by omega) z1
theorem sp_tr_pos {j : Nat} (hj : j < 10003) : sp_tr (nI j) = nI j := by
  have ne : ∀ x : Int32, x < 0 → ¬ nI j = x := fun x hx e => pl_nn (a := j) (by omega) (by rw [e]; exact hx)
  unfold sp_tr
  rw [if_neg (ne _ (by decide)), if_neg (ne _ (by decide)), if_neg (ne _ (by decide)), if_neg (ne _ (by decide)), if_neg (ne _ (by decide)), if_neg (ne _ (by decide)), if_neg (ne _ (by decide)), if_neg (ne _ (by decide)), if_neg (ne _ (by decide)), if_neg (ne _ (by decide))]
/-- a law worked out -/
theorem k_value_l {g0 : sv_Mg} {q0 m nx : Nat} {c : Nat → Int32} {x0 x1 x2 : Int32} {Q : Int32 → sv_Mg → Prop} (hq0 : 82 ≤ q0) (hnx : nx ≤ 3) (hm : m ≤ 96) (hln : sv_ln F (q0 + 1) = m) (hcd : ∀ k, k < m → g0 (q0 + 1) k = sp_tr (c k)) (hok : sp_okc nx c m)
    (q : ∀ g, sv_sm (fun k => k = 3) g0 g → Q ((sp_ev (sp_x x0 x1 x2) c m).getD 0 0) g) :
    ∀ n k g, k ≤ m → m + 1 ≤ k + n → sv_sm (fun k => k = 3) g0 g → sp_stk (g 3) (sp_ev (sp_x x0 x1 x2) c k) → wp_X2_value_35 F Q n x0 x1 x2 q0 (nI (sp_ev (sp_x x0 x1 x2) c k).length) (nI k) g := by
  intro n
  induction n with
  | zero => intro k g h1 h2; omega
  | succ n ih =>
    intro k g h1 h2 hS hst
    rw [wp_X2_value_35, hln]
    have hl := sp_ev_len (x := sp_x x0 x1 x2) hok k h1
    by_cases hk : m ≤ k
    · have e : k = m := by omega
      subst e
      rw [hok.1] at hl
      refine br_y ((pl_le (by omega) (by omega)).mpr hk) (br_n ?_ ?_)
      · rw [hl]; decide
      · rw [sp_stk_one hst hl]
        exact q g hS
    · refine br_n (fun z => hk ((pl_le (by omega) (by omega)).mp z)) ⟨pl_in (by omega) (by omega), ?_⟩
      intro v8 e8
      rw [pl_clamp (by omega), hS (q0 + 1) (by omega), hcd k (by omega)] at e8
      have hd := sp_dep_le c k
      obtain ⟨o1, o2⟩ := hok.2 k (by omega)
      have ihk := ih (k + 1)
      have eev : sp_ev (sp_x x0 x1 x2) c (k + 1) = sp_step (sp_x x0 x1 x2) (c k) (sp_ev (sp_x x0 x1 x2) c k) := rfl
      rw [eev] at ihk
      have hsl : ∀ g', sv_sm (fun k => k = 3) g0 g' → ∀ s, sp_step (sp_x x0 x1 x2) (c k) (sp_ev (sp_x x0 x1 x2) c k) = s → sp_stk (g' 3) s → wp_X2_value_185 F Q (wp_X2_value_35 F Q n) x0 x1 x2 q0 (nI s.length) (nI k) g' := by
        intro g' h1' s es hst' v4 e4
        rw [e4, nI_1, ← es]
        exact ihk g' (by omega) (by omega) h1' (by rw [es]; exact hst')
      generalize hs : sp_ev (sp_x x0 x1 x2) c k = s at hst hl hsl ⊢
      by_cases hc : c k < 0
      · rcases o1 hc with ⟨e10, hd1⟩ | ⟨z, z1, z2, ez, hd2⟩
        · have e8' : v8 = 20033 := by rw [e8, e10]; decide
          rw [e8']
          refine br_y (by decide) (br_y rfl (br_n ?_ ?_))
          · rw [hl, pl_lit 1]
            exact fun z => absurd ((pl_lt (by omega) (by omega)).mp z) (by omega)
          · cases s with
            | nil => simp at hl; omega
            | cons a r =>
              have hr : r.length < 96 := by simp at hl; omega
              have er : nI (a :: r).length - 1 = nI r.length := by rw [List.length_cons, nI_pred]
              rw [er, pl_clamp (by omega)]
              obtain ⟨p1, p2⟩ := sp_stk_pop hst
              refine ⟨pl_in hr (by omega), ?_⟩
              rw [p2]
              have fin : ∀ w : Int32, (w = 0 ∨ w = 1) → (if a = 0 then (1 : Int32) else 0) = w → wp_X2_value_135 F Q (wp_X2_value_35 F Q n) x0 x1 x2 q0 (nI (a :: r).length) (nI k) w (nI r.length) g := by
                intro w hw ew
                have ew2 : (if w = 0 then (0 : Int32) else 1) = w := by rcases hw with rfl | rfl <;> rfl
                refine k_truth ?_
                rw [ew2]
                refine ⟨pl_in hr (by omega), fun g3 e3 => ?_⟩
                rw [pl_clamp (by omega)] at e3
                refine hsl g3 (by rw [e3]; exact hS.st rfl) (w :: r) ?_ (by rw [e3, sv_st_eq]; exact sp_stk_push p1 w)
                unfold sp_step
                rw [if_pos hc, if_pos e10]
                dsimp only
                rw [ew]
              by_cases ha : a = 0
              · exact br_y ha (fin 1 (Or.inr rfl) (if_pos ha))
              · exact br_n ha (fin 0 (Or.inl rfl) (if_neg ha))
        · have e10 : ¬ c k = -10 := by
            intro y
            rw [ez] at y
            have : ∀ s, s < 10 → ¬ (-nI s : Int32) = -10 := by decide
            exact this z (by omega) y
          obtain ⟨t1, t2⟩ := sp_tr_neg z1 z2
          refine br_y (by rw [e8, ez]; exact t1) (br_n (by rw [e8, ez]; exact t2) (br_n ?_ ?_))
          · rw [hl, pl_lit 2]
            exact fun z => absurd ((pl_lt (by omega) (by omega)).mp z) (by omega)
          · cases s with
            | nil => simp at hl; omega
            | cons b s2 =>
              cases s2 with
              | nil => simp at hl; omega
              | cons a r =>
                have hr : r.length + 1 < 96 := by simp at hl; omega
                intro v2 e2
                rw [pl_am1, List.length_cons, nI_pred] at e2
                obtain ⟨p1, p2⟩ := sp_stk_pop hst
                obtain ⟨p3, p4⟩ := sp_stk_pop p1
                have e2' : v2 - 1 = nI r.length := by rw [e2, List.length_cons, nI_pred]
                rw [e2', pl_clamp (by omega)]
                have e2'' : v2.toNatClampNeg = r.length + 1 := by rw [e2, List.length_cons, pl_clamp (by omega)]
                rw [e2'']
                refine ⟨pl_in (by omega) (by omega), by rw [e2]; exact pl_in hr (by omega), ?_⟩
                rw [List.length_cons] at p2
                rw [p2, p4]
                refine k_join z1 z2 (by rw [e8, ez]) ⟨pl_in (by omega) (by omega), fun g3 e3 => ?_⟩
                have := hsl g3 (by rw [e3]; exact hS.st rfl) (sp_two (c k) a b :: r) (by unfold sp_step; rw [if_pos hc, if_neg e10]) (by rw [e3, ez, sv_st_eq]; exact sp_stk_push p3 _)
                rw [e2]
                exact this
      · obtain ⟨j, hj, ej⟩ := o2 hc
        have e8' : v8 = nI j := by rw [e8, ej, sp_tr_pos (by omega)]
        refine br_n (by rw [e8', pl_lit 20000]; exact fun z => absurd ((pl_le (by omega) (by omega)).mp z) (by omega)) (br_n (fun z => absurd ((pl_le (by omega) (by omega)).mp z) (by omega)) ?_)
        have fin : ∀ w : Int32, sp_step (sp_x x0 x1 x2) (c k) s = w :: s → (vp_in (nI s.length) 96 ∧ ∀ g_27, g_27 = sv_st g 3 (nI s.length).toNatClampNeg w → ∀ v6_28 : Int32, v6_28 = nI s.length + 1 → wp_X2_value_185 F Q (wp_X2_value_35 F Q n) x0 x1 x2 q0 v6_28 (nI k) g_27) := by
          intro w ew
          refine ⟨pl_in (by omega) (by omega), fun g5 e5 v2 e2 => ?_⟩
          rw [pl_clamp (by omega)] at e5
          rw [e2, nI_1]
          exact hsl g5 (by rw [e5]; exact hS.st rfl) (w :: s) ew (by rw [e5, sv_st_eq]; exact sp_stk_push hst w)
        rw [e8']
        unfold sp_step at fin
        simp only [if_neg hc] at fin
        have name : ∀ i, j = 10000 + i → (if (10000 : Int32) ≤ c k then sp_x x0 x1 x2 (c k - 10000).toNatClampNeg else c k) = sp_x x0 x1 x2 i := by
          intro i hi
          rw [ej, hi, if_pos (by rw [pl_lit 10000]; exact (pl_le (by omega) (by omega)).mpr (by omega)), pl_lit 10000, pk_sub (by omega), pl_clamp (by omega), Nat.add_sub_cancel_left]
        by_cases c0 : j = 10000
        · refine br_y (by rw [c0]; rfl) (fin _ ?_)
          rw [name 0 (by omega)]; rfl
        · refine br_n (fun z => c0 ((pl_eq (b := 10000) (by omega) (by omega)).mp z)) ?_
          by_cases c1 : j = 10001
          · refine br_y (by rw [c1]; rfl) (fin _ ?_)
            rw [name 1 (by omega)]; rfl
          · refine br_n (fun z => c1 ((pl_eq (b := 10001) (by omega) (by omega)).mp z)) ?_
            by_cases c2 : j = 10002
            · refine br_y (by rw [c2]; rfl) (fin _ ?_)
              rw [name 2 (by omega)]; rfl
            · refine br_n (fun z => c2 ((pl_eq (b := 10002) (by omega) (by omega)).mp z)) (fin _ ?_)
              rw [if_neg (by rw [ej, pl_lit 10000]; exact fun z => absurd ((pl_le (by omega) (by omega)).mp z) (by omega)), ej]
theorem k_value {t : Nat} {x0 x1 x2 : Int32} {Q : Int32 → sv_Mg → Prop} (hL : sv_Lay F) (ht : cr_t F g f) (hw : sp_wt f) (ht1 : t < sp_t f) (ht2 : sp_t f ≤ 14) (q : ∀ g', sv_sm (fun k => k = 3) g g' → Q (sp_val f t (sp_x x0 x1 x2)) g') : wp_X2_value F (nI t) x0 x1 x2 g Q := by
  obtain ⟨k, m, hk3, hm, he, hok⟩ := hw t ht1
  obtain ⟨e1, e2⟩ := sp_key_of he hk3 hm
  obtain ⟨q0, hq, hkey, -, hln, hcd⟩ := ht t ht1
  rw [e2] at hln hcd
  have hq0 := (hL.2.2 t q0 hq).1
  refine k_in_y (pl_nn (by omega)) (by rw [pl_lit 13]; exact fun z => absurd ((pl_lt (by omega) (by omega)).mp z) (by omega)) (br_n ne10 ⟨pl_in (by omega) (by omega), ?_⟩)
  rw [pl_clamp (by omega)]
  refine ⟨fun z => (by rw [hq] at z; cases z), fun q1 z => ?_⟩
  have : q1 = q0 := Option.some.inj (z.symm.trans hq)
  subst this
  refine ⟨fun z => (by cases z), fun q2 z => ?_⟩
  have : q1 = q2 := Option.some.inj z
  subst this
  refine ⟨m + 1, k_value_l hq0 (sp_nx_le k) hm hln hcd hok (fun g' hS => ?_) (m + 1) 0 g (Nat.zero_le _) (by omega) sv_sm.rf (fun i hi => by simp [sp_ev] at hi)⟩
  have := q g' hS
  unfold sp_val at this
  rw [e2] at this
  exact this
end KA
