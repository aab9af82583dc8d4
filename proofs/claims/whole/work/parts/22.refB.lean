/-! THE REFERENCE: parties, choices, texts -/
def sp_party (f : Nat → Int32) (p : Int32) : Nat → Int32
  | 0 => 0
  | k + 1 => sp_party f p k ||| (if f (13 + 6 * k) = p then 1 <<< (nI k &&& 31) else 0)
theorem r_party_l {F : sv_Fr} {g : sv_Mg} {p : Int32} {n : Nat} {Q : Int32 → sv_Mg → Prop} (hn : g 59 1 = nI n) (hn2 : n ≤ 10) (q : Q (sp_party (g 59) p n) g) : ∀ m i, i ≤ n → n + 1 ≤ i + m → wp_X7_ofParty_4 F Q m p (sp_party (g 59) p i) (nI i) g := by
  intro m
  induction m with
  | zero => intro i h1 h2; omega
  | succ m ih =>
    intro i h1 h2
    rw [wp_X7_ofParty_4]
    by_cases hi : n ≤ i
    · have e : i = n := by omega
      subst e
      exact br_y (by rw [hn]; exact (pl_le (by omega) (by omega)).mpr hi) q
    · refine br_n (fun z => hi (by rw [hn] at z; exact (pl_le (by omega) (by omega)).mp z)) ?_
      refine r_of (j := 2) rfl (by omega) (by omega) ?_
      have ih2 := ih (i + 1) (by omega) (by omega)
      rw [sp_party] at ih2
      have e2 : 11 + 6 * i + 2 = 13 + 6 * i := by omega
      rw [e2]
      by_cases hv : g 59 (13 + 6 * i) = p
      · rw [if_pos hv] at ih2
        refine br_y hv ?_
        intro v2 e2 v3 e3
        rw [e2, e3, nI_1]; exact ih2
      · rw [if_neg hv] at ih2
        refine br_n hv ?_
        intro v2 e2 v3 e3
        rw [e2, e3, nI_1]; exact ih2
theorem r_party {F : sv_Fr} {g : sv_Mg} {p : Int32} {Q : Int32 → sv_Mg → Prop} (hn : g 59 1 = nI (sp_n (g 59))) (hn2 : sp_n (g 59) ≤ 10) (q : Q (sp_party (g 59) p (sp_n (g 59))) g) : wp_X7_ofParty F p g Q :=
  ⟨_, r_party_l hn hn2 q (sp_n (g 59) + 1) 0 (Nat.zero_le _) (by omega)⟩
/-- whom a plain voter votes for -/
def sp_plain (f : Nat → Int32) (v : Nat) (set : Int32) : Int32 := if ((set >>> (f (12 + 6 * v) &&& 31)) &&& 1) = 1 then f (12 + 6 * v) else sp_o (sp_mo f set)
theorem r_plain {F : sv_Fr} {g : sv_Mg} {v : Nat} {set : Int32} {Q : Int32 → sv_Mg → Prop} (hn : g 59 1 = nI (sp_n (g 59))) (hn2 : sp_n (g 59) ≤ 10) (hv : v < 10) (q : Q (sp_plain (g 59) v set) g) : wp_X7_plainly F (nI v) set g Q := by
  have e2 : 11 + 6 * v + 1 = 12 + 6 * v := by omega
  refine r_of (j := 1) rfl hv (by omega) ?_
  rw [e2]
  unfold sp_plain at q
  split at q
  · rename_i h
    refine br_y h (r_of (j := 1) rfl hv (by omega) ?_)
    rw [e2]; exact q
  · rename_i h
    exact br_n h (r_most hn hn2 q)
def sp_loyal (f : Nat → Int32) (v : Nat) (set : Int32) : Int32 := match sp_mo f (set &&& sp_party f (f (13 + 6 * v)) (sp_n f)) with
  | none => sp_plain f v set
  | some b => nI b
theorem r_loyal {F : sv_Fr} {g : sv_Mg} {v : Nat} {set : Int32} {Q : Int32 → sv_Mg → Prop} (hn : g 59 1 = nI (sp_n (g 59))) (hn2 : sp_n (g 59) ≤ 10) (hv : v < 10) (q : Q (sp_loyal (g 59) v set) g) : wp_X7_loyally F (nI v) set g Q := by
  refine r_of (j := 2) rfl hv (by omega) ?_
  rw [show 11 + 6 * v + 2 = 13 + 6 * v by omega]
  refine r_party hn hn2 (r_most hn hn2 ?_)
  unfold sp_loyal at q
  cases e : sp_mo (g 59) (set &&& sp_party (g 59) (g 59 (13 + 6 * v)) (sp_n (g 59))) with
  | none =>
    rw [e] at q
    exact br_n (by decide) (r_plain hn hn2 hv q)
  | some b =>
    rw [e] at q
    have := sp_mo_lt e
    exact br_y (pl_nn' (by omega)) q
/-! texts -/
def sp_key (f : Nat → Int32) (t : Nat) : Nat := (f (71 + 2 * t)).toNatClampNeg / 1000
def sp_len (f : Nat → Int32) (t : Nat) : Nat := (f (71 + 2 * t)).toNatClampNeg % 1000
/-- a row of codes is a text's: values, and never too few on the stack; x is how many names -/
def sp_dep (c : Nat → Int32) : Nat → Nat
  | 0 => 0
  | k + 1 => if c k < 0 then (if c k = -10 then sp_dep c k else sp_dep c k - 1) else sp_dep c k + 1
def sp_okc (nx : Nat) (c : Nat → Int32) (m : Nat) : Prop := sp_dep c m = 1 ∧ ∀ k, k < m → (c k < 0 → (c k = -10 ∧ 1 ≤ sp_dep c k) ∨ (∃ s, 1 ≤ s ∧ s ≤ 9 ∧ c k = -nI s ∧ 2 ≤ sp_dep c k)) ∧ (¬ c k < 0 → ∃ j, j < 10000 + nx ∧ c k = nI j)
def sp_nx (k : Nat) : Nat := if k = 0 then 3 else 2
theorem sp_nx_le (k : Nat) : sp_nx k ≤ 3 := by unfold sp_nx; split <;> omega
def sp_wt (f : Nat → Int32) : Prop := ∀ t, t < sp_t f → ∃ k m, k < 3 ∧ m ≤ 96 ∧ f (71 + 2 * t) = nI (1000 * k + m) ∧ sp_okc (sp_nx k) (fun k => f (99 + 96 * t + k)) m
theorem sp_key_of {f : Nat → Int32} {t k m : Nat} (h : f (71 + 2 * t) = nI (1000 * k + m)) (hk : k < 3) (hm : m ≤ 96) : sp_key f t = k ∧ sp_len f t = m := by
  unfold sp_key sp_len
  rw [h, pl_clamp (by omega)]
  omega
/-- the text that counts for a key, among the first t -/
def sp_cnt (f : Nat → Int32) (key : Nat) : Nat → Option Nat
  | 0 => none
  | t + 1 => if sp_key f t = key then some t else sp_cnt f key t
theorem sp_cnt_lt {f : Nat → Int32} {key : Nat} : ∀ {t b : Nat}, sp_cnt f key t = some b → b < t ∧ sp_key f b = key
  | 0, b, h => by cases h
  | t + 1, b, h => by
    rw [sp_cnt] at h
    split at h
    · cases h; exact ⟨by omega, by assumption⟩
    · have := sp_cnt_lt h; exact ⟨by omega, this.2⟩
theorem pl_am1 (x : Int32) : x + (-1) = x - 1 := by rw [Int32.sub_eq_add_neg]
theorem r_cnt_l {F : sv_Fr} {g : sv_Mg} {key : Nat} {Q : Int32 → sv_Mg → Prop} (hw : sp_wt (g 59)) (ht : sp_t (g 59) ≤ 14) (hk : key < 3) (q : Q (sp_o (sp_cnt (g 59) key (sp_t (g 59)))) g) : ∀ t, t ≤ sp_t (g 59) → sp_cnt (g 59) key t = sp_cnt (g 59) key (sp_t (g 59)) → wp_X7_counts_10 F Q (t + 1) (nI key) (nI t - 1) g := by
  intro t
  induction t with
  | zero =>
    intro _ e
    rw [wp_X7_counts_10]
    refine br_y (by decide) ?_
    rw [← e] at q; exact q
  | succ t ih =>
    intro h1 e
    rw [wp_X7_counts_10, nI_pred]
    refine br_n (pl_nn (by omega)) ?_
    rw [pl_lit 71, pl_lit 2, pk_mul, nI_add, pl_clamp (by omega)]
    refine ⟨pl_in (by omega) (by omega), ?_⟩
    obtain ⟨k, m, hk3, hm, he, -⟩ := hw t (by omega)
    have hkey := (sp_key_of he hk3 hm).1
    rw [he, pl_lit 1000, pk_div (by omega) (by omega) (by omega), show (1000 * k + m) / 1000 = k by omega]
    rw [sp_cnt, hkey] at e
    by_cases hc : k = key
    · rw [if_pos hc] at e
      rw [← e] at q
      exact br_y ((pl_eq (by omega) (by omega)).mpr hc) q
    · rw [if_neg hc] at e
      refine br_n (fun z => hc ((pl_eq (by omega) (by omega)).mp z)) ?_
      intro v2 e2
      rw [e2, pl_am1]
      exact ih (by omega) e
theorem r_cnt {F : sv_Fr} {g : sv_Mg} {key : Nat} {w : Int32} {Q : Int32 → sv_Mg → Prop} (hwk : w = nI key) (h10 : g 59 10 = nI (sp_t (g 59))) (hw : sp_wt (g 59)) (ht : sp_t (g 59) ≤ 14) (hk : key < 3) (q : Q (sp_o (sp_cnt (g 59) key (sp_t (g 59)))) g) : wp_X7_counts F w g Q := by
  subst hwk
  intro v2 e2
  rw [e2, h10]
  exact ⟨_, r_cnt_l hw ht hk q (sp_t (g 59)) (Nat.le_refl _) rfl⟩
/-- two on the stack become one -/
def sp_two (s a b : Int32) : Int32 := if s = -8 then a * b else if s = -7 then a - b else if s = -6 then a + b else if s = -5 then (if a ≤ b then 0 else 1) else if s = -4 then (if a = b then 1 else 0) else if s = -3 then (if b ≤ a then 0 else 1) else if s = -2 then (if a = 0 then 0 else if b = 0 then 0 else 1) else if s = -1 then (if a = 0 then (if b = 0 then 0 else 1) else 1) else (if b = 0 then 0 else a / b)
theorem br_ite {P : Int32 → Prop} {c : Prop} [Decidable c] {x y : Int32} (h : P (if c then x else y)) : (c → P x) ∧ (¬ c → P y) := ⟨fun q => by rw [if_pos q] at h; exact h, fun q => by rw [if_neg q] at h; exact h⟩
theorem r_two {F : sv_Fr} {g : sv_Mg} {s a b : Int32} {Q : Int32 → sv_Mg → Prop} (q : Q (sp_two s a b) g) : wp_X7_two F s a b g Q := by
  unfold sp_two at q
  have q := br_ite (P := fun x => Q x g) q
  refine ⟨q.1, fun c => ?_⟩
  have q := br_ite (P := fun x => Q x g) (q.2 c)
  refine ⟨q.1, fun c => ?_⟩
  have q := br_ite (P := fun x => Q x g) (q.2 c)
  refine ⟨q.1, fun c => ?_⟩
  have q := br_ite (P := fun x => Q x g) (q.2 c)
  refine ⟨fun c => br_ite (P := fun x => Q x g) (q.1 c), fun c => ?_⟩
  have q := br_ite (P := fun x => Q x g) (q.2 c)
  refine ⟨fun c => br_ite (P := fun x => Q x g) (q.1 c), fun c => ?_⟩
  have q := br_ite (P := fun x => Q x g) (q.2 c)
  refine ⟨fun c => br_ite (P := fun x => Q x g) (q.1 c), fun c => ?_⟩
  have q := br_ite (P := fun x => Q x g) (q.2 c)
  refine ⟨fun c => ?_, fun c => ?_⟩
  · have q := br_ite (P := fun x => Q x g) (q.1 c)
    exact ⟨q.1, fun c => br_ite (P := fun x => Q x g) (q.2 c)⟩
  have q := br_ite (P := fun x => Q x g) (q.2 c)
  refine ⟨fun c => ?_, fun c => ?_⟩
  · have q := br_ite (P := fun x => Q x g) (q.1 c)
    exact ⟨fun c => br_ite (P := fun x => Q x g) (q.1 c), q.2⟩
  have q := br_ite (P := fun x => Q x g) (q.2 c)
  exact ⟨q.1, fun c => ⟨c, q.2 c⟩⟩
/-- one code: the stack, its top first -/
def sp_step (x : Nat → Int32) (c : Int32) (s : List Int32) : List Int32 :=
  if c < 0 then (if c = -10 then (match s with
    | a :: r => (if a = 0 then 1 else 0) :: r
    | [] => []) else (match s with
    | b :: a :: r => sp_two c a b :: r
    | r => r))
  else (if 10000 ≤ c then x (c - 10000).toNatClampNeg else c) :: s
def sp_ev (x c : Nat → Int32) : Nat → List Int32
  | 0 => []
  | k + 1 => sp_step x (c k) (sp_ev x c k)
theorem sp_ev_len {nx : Nat} {x c : Nat → Int32} {m : Nat} (h : sp_okc nx c m) : ∀ k, k ≤ m → (sp_ev x c k).length = sp_dep c k
  | 0, _ => rfl
  | k + 1, hk => by
    have ih := sp_ev_len (x := x) h k (by omega)
    obtain ⟨h1, h2⟩ := h.2 k (by omega)
    rw [sp_ev, sp_dep]
    unfold sp_step
    by_cases hc : c k < 0
    · rw [if_pos hc, if_pos hc]
      rcases h1 hc with ⟨e, hd⟩ | ⟨s, s1, s2, e, hd⟩
      · rw [if_pos e, if_pos e]
        cases hs : sp_ev x c k with
        | nil => rw [hs] at ih; simp at ih; omega
        | cons a r => rw [hs] at ih; simpa using ih
      · have e10 : ¬ c k = -10 := by
          intro z
          rw [e] at z
          have : ∀ s, s < 10 → ¬ (-nI s : Int32) = -10 := by decide
          exact this s (by omega) z
        rw [if_neg e10, if_neg e10]
        cases hs : sp_ev x c k with
        | nil => rw [hs] at ih; simp at ih; omega
        | cons b r =>
          cases r with
          | nil => rw [hs] at ih; simp at ih; omega
          | cons a r => rw [hs] at ih; simp at ih ⊢; omega
    · rw [if_neg hc, if_neg hc]
      simp [ih]
theorem sp_ev_x {nx : Nat} (hnx : nx ≤ 3) {x y c : Nat → Int32} {m : Nat} (h : sp_okc nx c m) (hxy : ∀ i, i < nx → x i = y i) : ∀ k, k ≤ m → sp_ev x c k = sp_ev y c k
  | 0, _ => rfl
  | k + 1, hk => by
    have ih := sp_ev_x hnx h hxy k (by omega)
    obtain ⟨-, h2⟩ := h.2 k (by omega)
    rw [sp_ev, sp_ev, ih]
    unfold sp_step
    by_cases hc : c k < 0
    · rw [if_pos hc, if_pos hc]
    · rw [if_neg hc, if_neg hc]
      by_cases h10 : (10000 : Int32) ≤ c k
      · rw [if_pos h10, if_pos h10]
        obtain ⟨j, hj, ej⟩ := h2 hc
        rw [ej] at h10 ⊢
        rw [pl_lit 10000] at h10 ⊢
        have hj2 := (pl_le (by omega) (by omega)).mp h10
        rw [pk_sub hj2, pl_clamp (by omega), hxy _ (by omega)]
      · rw [if_neg h10, if_neg h10]
theorem sp_dep_le (c : Nat → Int32) : ∀ k, sp_dep c k ≤ k
  | 0 => Nat.le_refl 0
  | k + 1 => by
    have := sp_dep_le c k
    rw [sp_dep]
    split
    · split <;> omega
    · omega
/-- the value of a text t of f, names standing for x -/
def sp_val (f : Nat → Int32) (t : Nat) (x : Nat → Int32) : Int32 := (sp_ev x (fun k => f (99 + 96 * t + k)) (sp_len f t)).getD 0 0
/-- an array holds a stack: its place 0 is the lowest -/
def sp_stk (a : Nat → Int32) (s : List Int32) : Prop := ∀ i, i < s.length → a i = s.reverse.getD i 0
theorem sp_stk_push {a : Nat → Int32} {s : List Int32} (h : sp_stk a s) (v : Int32) : sp_stk (upd a s.length v) (v :: s) := by
  intro i hi
  rw [List.reverse_cons, List.getD_eq_getElem?_getD]
  by_cases e : i = s.length
  · subst e
    rw [pk_us, List.getElem?_append_right (by simp)]
    simp
  · have hi2 : i < s.length := by simp at hi; omega
    rw [pk_un e, h i hi2, List.getElem?_append_left (by simpa using hi2), List.getD_eq_getElem?_getD]
theorem sp_stk_pop {a : Nat → Int32} {s : List Int32} {v : Int32} (h : sp_stk a (v :: s)) : sp_stk a s ∧ a s.length = v := by
  refine ⟨fun i hi => ?_, ?_⟩
  · rw [h i (by simp; omega), List.reverse_cons, List.getD_eq_getElem?_getD, List.getElem?_append_left (by simpa using hi), List.getD_eq_getElem?_getD]
  · rw [h s.length (by simp), List.reverse_cons, List.getD_eq_getElem?_getD, List.getElem?_append_right (by simp)]
    simp
theorem sp_stk_one {a : Nat → Int32} {s : List Int32} (h : sp_stk a s) (hs : s.length = 1) : a 0 = s.getD 0 0 := by
  cases s with
  | nil => simp at hs
  | cons v r =>
    cases r with
    | nil => exact (sp_stk_pop h).2
    | cons w r => simp at hs
