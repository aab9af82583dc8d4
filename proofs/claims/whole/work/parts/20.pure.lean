/-! PURE FACTS: numbers, memory, spec functions over the reference's row f -/
theorem pl_lit (n : Nat) : (OfNat.ofNat n : Int32) = nI n := rfl
theorem pl_clamp {n : Nat} (h : n < 100000) : (nI n).toNatClampNeg = n := nI_clamp (by omega)
theorem pl_in {i n : Nat} (h : i < n) (hn : n < 100000) : vp_in (nI i) n := vp_in_nI h (by omega)
theorem pl_le {a b : Nat} (ha : a < 100000) (hb : b < 100000) : nI a ≤ nI b ↔ a ≤ b := nI_leI (by omega) (by omega)
theorem pl_lt {a b : Nat} (ha : a < 100000) (hb : b < 100000) : nI a < nI b ↔ a < b := nI_ltI (by omega) (by omega)
theorem pl_eq {a b : Nat} (ha : a < 100000) (hb : b < 100000) : nI a = nI b ↔ a = b := nI_eq (by omega) (by omega)
theorem pl_nn {a : Nat} (ha : a < 100000) : ¬ nI a < 0 := nI_pos (by omega)
theorem pl_nn' {a : Nat} (ha : a < 100000) : 0 ≤ nI a := nI_pos' (by omega)
theorem pl_m1 {a : Nat} (ha : a < 100000) : nI a ≠ -1 := by
  intro h
  exact pl_nn ha (by rw [h]; decide)
theorem pl_m1' : ¬ (0 : Int32) ≤ -1 := by decide
theorem pl_pred {a : Nat} (h : 0 < a) : nI a - 1 = nI (a - 1) := by
  obtain ⟨k, rfl⟩ : ∃ k, a = k + 1 := ⟨a - 1, by omega⟩
  rw [nI_pred]; rfl
/-- any int is below 0, or a number below n, or n at least -/
theorem pl_ix (x : Int32) {n : Nat} (hn : n < 100000) : (∃ j : Nat, j < n ∧ x = nI j) ∨ (x < 0 ∨ nI n ≤ x) := by
  rcases pk_ix x (n := n) (by omega) with h | h | h
  · exact Or.inr (Or.inl h)
  · exact Or.inr (Or.inr h)
  · exact Or.inl h
/-- an int between two numbers -/
theorem pl_rng {x : Int32} {n : Nat} (hn : n < 90000) (h1 : ¬ x < 0) (h2 : ¬ nI n < x) : ∃ j : Nat, j ≤ n ∧ x = nI j := by
  rcases pl_ix x (n := n + 1) (by omega) with ⟨j, hj, e⟩ | h | h
  · exact ⟨j, by omega, e⟩
  · exact absurd h h1
  · exfalso
    apply h2
    have h3 : nI n < nI (n + 1) := nI_lt (by omega) (by omega)
    exact Int32.lt_of_lt_of_le h3 h
theorem pl_rng2 {x : Int32} {l n : Nat} (hn : n < 90000) (hl : l ≤ n) (h1 : ¬ x < nI l) (h2 : ¬ nI n < x) : ∃ j : Nat, l ≤ j ∧ j ≤ n ∧ x = nI j := by
  have h0 : ¬ x < 0 := fun h => h1 (Int32.lt_of_lt_of_le h (pl_nn' (by omega)))
  obtain ⟨j, hj, rfl⟩ := pl_rng hn h0 h2
  refine ⟨j, ?_, hj, rfl⟩
  rcases Nat.lt_or_ge j l with q | q
  · exact absurd (nI_lt q (by omega)) h1
  · exact q
/-! memory -/
theorem st_at {g : sv_Mg} {a k : Nat} {v : Int32} : sv_st g a k v a k = v := by rw [sv_st_eq]; exact pk_us
theorem st_ne {g : sv_Mg} {a k a' : Nat} {v : Int32} (h : a' ≠ a) : sv_st g a k v a' = g a' := sv_st_ne h
theorem st_nk {g : sv_Mg} {a k k' : Nat} {v : Int32} (h : k' ≠ k) : sv_st g a k v a k' = g a k' := by rw [sv_st_eq]; exact pk_un h
theorem sa_at {g : sv_Mg} {a : Nat} {f : Nat → Int32} : sv_sa g a f a = f := sv_sa_eq g a f
theorem sa_ne {g : sv_Mg} {a a' : Nat} {f : Nat → Int32} (h : a' ≠ a) : sv_sa g a f a' = g a' := sv_sa_ne h
/-- the cells but those of T are the same -/
def sv_sm (T : Nat → Prop) (g g' : sv_Mg) : Prop := ∀ k, ¬ T k → g' k = g k
theorem sv_sm.rf {T : Nat → Prop} {g : sv_Mg} : sv_sm T g g := fun _ _ => rfl
theorem sv_sm.tr {T : Nat → Prop} {g g' g'' : sv_Mg} (h : sv_sm T g g') (h' : sv_sm T g' g'') : sv_sm T g g'' := fun k hk => (h' k hk).trans (h k hk)
theorem sv_sm.mono {T T' : Nat → Prop} {g g' : sv_Mg} (h : sv_sm T g g') (hT : ∀ k, T k → T' k) : sv_sm T' g g' := fun k hk => h k (fun q => hk (hT k q))
theorem sv_sm.st {T : Nat → Prop} {g g' : sv_Mg} {a k : Nat} {v : Int32} (h : sv_sm T g g') (ha : T a) : sv_sm T g (sv_st g' a k v) := fun j hj => (sv_st_ne (a' := j) (fun e => hj (by rw [e]; exact ha))).trans (h j hj)
theorem sv_sm.sa {T : Nat → Prop} {g g' : sv_Mg} {a : Nat} {f : Nat → Int32} (h : sv_sm T g g') (ha : T a) : sv_sm T g (sv_sa g' a f) := fun j hj => (sv_sa_ne (a' := j) (fun e => hj (by rw [e]; exact ha))).trans (h j hj)
/-! spec: voters, weights, votes -/
def sp_n (f : Nat → Int32) : Nat := (f 1).toNatClampNeg
def sp_t (f : Nat → Int32) : Nat := (f 10).toNatClampNeg
def sp_w (f : Nat → Int32) (k : Nat) : Nat := if f (11 + 6 * k) = 5 then 2 else 1
/-- what the first k votes for v come to -/
def sp_has (f : Nat → Int32) (v : Int32) : Nat → Nat
  | 0 => 0
  | k + 1 => sp_has f v k + (if f (16 + 6 * k) = v then sp_w f k else 0)
theorem sp_w_le (f : Nat → Int32) (k : Nat) : 1 ≤ sp_w f k ∧ sp_w f k ≤ 2 := by
  unfold sp_w; split <;> omega
theorem sp_has_le (f : Nat → Int32) (v : Int32) : ∀ k, sp_has f v k ≤ 2 * k
  | 0 => Nat.le_refl 0
  | k + 1 => by
    have h := sp_has_le f v k
    have h2 := sp_w_le f k
    rw [sp_has]; split <;> omega
def sp_hv (f : Nat → Int32) (v : Int32) : Nat := sp_has f v (sp_n f)
/-- all weights -/
def sp_all (f : Nat → Int32) : Nat → Nat
  | 0 => 0
  | k + 1 => sp_all f k + sp_w f k
theorem sp_all_le (f : Nat → Int32) : ∀ k, sp_all f k ≤ 2 * k
  | 0 => Nat.le_refl 0
  | k + 1 => by
    have h := sp_all_le f k
    have h2 := sp_w_le f k
    rw [sp_all]; omega
def sp_want (f : Nat → Int32) : Nat := (2 * sp_all f (sp_n f) + 2) / 3
def sp_bit (set : Int32) (k : Nat) : Bool := decide (((set >>> (nI k &&& 31)) &&& 1) = 1)
def sp_o (o : Option Nat) : Int32 := match o with
  | none => -1
  | some k => nI k
/-- of a set, among the first k, the one with the most -/
def sp_most (f : Nat → Int32) (set : Int32) : Nat → Option Nat
  | 0 => none
  | k + 1 => match sp_most f set k with
    | none => if sp_bit set k = true then some k else none
    | some b => if sp_bit set k = true ∧ sp_hv f (nI b) < sp_hv f (nI k) then some k else some b
def sp_mo (f : Nat → Int32) (set : Int32) : Option Nat := sp_most f set (sp_n f)
theorem sp_most_lt {f : Nat → Int32} {set : Int32} : ∀ {k b : Nat}, sp_most f set k = some b → b < k
  | 0, b, h => by cases h
  | k + 1, b, h => by
    rw [sp_most] at h
    cases e : sp_most f set k with
    | none =>
      rw [e] at h
      dsimp only at h
      split at h
      · cases h; omega
      · cases h
    | some c =>
      rw [e] at h
      have h1 := sp_most_lt e
      dsimp only at h
      split at h <;> cases h <;> omega
/-- the row f is as the reference keeps it: how many voters, what they can be, the rules; rounds and day up to B -/
def sp_lim (j : Nat) : Nat := match j with
  | 0 => 6
  | 1 => 10
  | 2 => 4
  | 3 => 100
  | _ => 10
def sp_wf (B : Nat) (f : Nat → Int32) : Prop :=
  (f 1 = nI (sp_n f) ∧ sp_n f ≤ 10) ∧
  (∀ v j, v < sp_n f → j < 5 → ∃ k, k < sp_lim j ∧ f (11 + 6 * v + j) = nI k) ∧
  (∀ v, v < sp_n f → f (16 + 6 * v) = -1 ∨ ∃ k, k < sp_n f ∧ f (16 + 6 * v) = nI k) ∧
  ((∃ k, k < 100 ∧ f 4 = nI k) ∧ (∃ k, k < 100 ∧ f 5 = nI k) ∧ ∃ k, 1 ≤ k ∧ k < 100 ∧ f 6 = nI k) ∧
  (f 7 = -1 ∨ ∃ k, k < sp_n f ∧ f 7 = nI k) ∧
  ((∃ k, k < 4 ∧ f 8 = nI k) ∧ ∃ k, k < 4 ∧ f 9 = nI k) ∧
  (∃ r d, f 3 = nI r ∧ f 2 = nI d ∧ r ≤ d ∧ d ≤ B) ∧
  (f 10 = nI (sp_t f) ∧ sp_t f ≤ 14)
