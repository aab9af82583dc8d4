/-! THE TWO PARSERS OVER A ROW OF SYMBOLS. A symbol: below 20000 a leaf; 20001 to 20009 a sign of two sides; 20010 not, 20011 open, 20012 close, 20013 the end, 20014 what can stand nowhere -/
def px_rk (y : Nat) : Nat := if y = 20001 then 1 else if y = 20002 then 2 else if y ≤ 20005 then 3 else if y ≤ 20007 then 4 else if y ≤ 20009 then 5 else 6
/-- whether a symbol is among the signs of string s -/
def px_in (s y : Nat) : Bool := decide ((s = 6 ∧ y = 20010) ∨ (s = 7 ∧ y = 20011) ∨ (s = 8 ∧ y = 20012) ∨ (s = 9 ∧ y = 20001) ∨ (s = 10 ∧ y = 20002) ∨ (s = 11 ∧ 20003 ≤ y ∧ y ≤ 20005) ∨ (s = 12 ∧ 20006 ≤ y ∧ y ≤ 20007) ∨ (s = 13 ∧ 20008 ≤ y ∧ y ≤ 20009))
theorem px_rk_sp {y : Nat} (h1 : 20001 ≤ y) (h2 : y ≤ 20009) : (y = 20001 ∧ px_rk y = 1) ∨ (y = 20002 ∧ px_rk y = 2) ∨ (20003 ≤ y ∧ y ≤ 20005 ∧ px_rk y = 3) ∨ (20006 ≤ y ∧ y ≤ 20007 ∧ px_rk y = 4) ∨ (20008 ≤ y ∧ px_rk y = 5) := by
  unfold px_rk
  by_cases c1 : y = 20001
  · rw [if_pos c1]; omega
  rw [if_neg c1]
  by_cases c2 : y = 20002
  · rw [if_pos c2]; omega
  rw [if_neg c2]
  by_cases c3 : y ≤ 20005
  · rw [if_pos c3]; omega
  rw [if_neg c3]
  by_cases c4 : y ≤ 20007
  · rw [if_pos c4]; omega
  rw [if_neg c4, if_pos h2]
  omega
theorem px_in_y {l y : Nat} (hl : l ≤ 4) (h : px_in (9 + l) y = true) : (20001 ≤ y ∧ y ≤ 20009) ∧ px_rk y = l + 1 := by
  have h := of_decide_eq_true h
  have k : 20001 ≤ y ∧ y ≤ 20009 := by omega
  have := px_rk_sp k.1 k.2
  omega
theorem px_in_n {l y : Nat} (hl : l ≤ 4) (h : px_in (9 + l) y = false) (h1 : 20001 ≤ y) (h2 : y ≤ 20009) : px_rk y ≠ l + 1 := by
  have h := of_decide_eq_false h
  have := px_rk_sp h1 h2
  omega
abbrev px_R : Type := Bool × Nat × List Nat
def px_loop (y : Nat → Nat) (rc : Nat → px_R) (s : Nat) : Nat → Nat → List Nat → px_R
  | 0, i, o => (true, i, o)
  | m + 1, i, o => if px_in s (y i) = true then (if (rc (i + 1)).1 = true then px_loop y rc s m (rc (i + 1)).2.1 (o ++ (rc (i + 1)).2.2 ++ [y i]) else (false, (rc (i + 1)).2.1, [])) else (true, i, o)
/-- the system's way: chains (true) of a level, with so many open brackets and nots; pieces (false) -/
def px (y : Nat → Nat) : Nat → Bool → Nat → Nat → Nat → Nat → px_R
  | 0, _, _, _, _, i => (false, i, [])
  | n + 1, c, u, v, w, i => if c = true then
      (if u ≤ 4 then (if (px y n true (u + 1) v w i).1 = true then px_loop y (px y n true (u + 1) v w) (9 + u) (if u = 2 then 1 else 96) (px y n true (u + 1) v w i).2.1 (px y n true (u + 1) v w i).2.2 else (false, (px y n true (u + 1) v w i).2.1, []))
       else px y n false v w 0 i)
    else if y i < 20000 then (true, i + 1, [y i])
    else if y i = 20010 ∧ v < 8 then (if (px y n false u (v + 1) 0 (i + 1)).1 = true then (true, (px y n false u (v + 1) 0 (i + 1)).2.1, (px y n false u (v + 1) 0 (i + 1)).2.2 ++ [20010]) else (false, (px y n false u (v + 1) 0 (i + 1)).2.1, []))
    else if y i = 20011 ∧ u < 8 then (if (px y n true 0 (u + 1) v (i + 1)).1 = true then (if y (px y n true 0 (u + 1) v (i + 1)).2.1 = 20012 then (true, (px y n true 0 (u + 1) v (i + 1)).2.1 + 1, (px y n true 0 (u + 1) v (i + 1)).2.2) else (false, (px y n true 0 (u + 1) v (i + 1)).2.1, [])) else (false, (px y n true 0 (u + 1) v (i + 1)).2.1, []))
    else (false, i, [])
theorem px_c4 {y : Nat → Nat} {n u v w i : Nat} (h : u ≤ 4) : px y (n + 1) true u v w i = (if (px y n true (u + 1) v w i).1 = true then px_loop y (px y n true (u + 1) v w) (9 + u) (if u = 2 then 1 else 96) (px y n true (u + 1) v w i).2.1 (px y n true (u + 1) v w i).2.2 else (false, (px y n true (u + 1) v w i).2.1, [])) := by
  rw [px, if_pos rfl, if_pos h]
theorem px_c5 {y : Nat → Nat} {n u v w i : Nat} (h : ¬ u ≤ 4) : px y (n + 1) true u v w i = px y n false v w 0 i := by
  rw [px, if_pos rfl, if_neg h]
theorem px_pl {y : Nat → Nat} {n u v w i : Nat} (h : y i < 20000) : px y (n + 1) false u v w i = (true, i + 1, [y i]) := by
  rw [px, if_neg (by decide), if_pos h]
theorem px_pn {y : Nat → Nat} {n u v w i : Nat} (h : y i = 20010 ∧ v < 8) : px y (n + 1) false u v w i = (if (px y n false u (v + 1) 0 (i + 1)).1 = true then (true, (px y n false u (v + 1) 0 (i + 1)).2.1, (px y n false u (v + 1) 0 (i + 1)).2.2 ++ [20010]) else (false, (px y n false u (v + 1) 0 (i + 1)).2.1, [])) := by
  rw [px, if_neg (by decide), if_neg (by omega), if_pos h]
theorem px_po {y : Nat → Nat} {n u v w i : Nat} (h : y i = 20011 ∧ u < 8) : px y (n + 1) false u v w i = (if (px y n true 0 (u + 1) v (i + 1)).1 = true then (if y (px y n true 0 (u + 1) v (i + 1)).2.1 = 20012 then (true, (px y n true 0 (u + 1) v (i + 1)).2.1 + 1, (px y n true 0 (u + 1) v (i + 1)).2.2) else (false, (px y n true 0 (u + 1) v (i + 1)).2.1, [])) else (false, (px y n true 0 (u + 1) v (i + 1)).2.1, [])) := by
  rw [px, if_neg (by decide), if_neg (by omega), if_neg (by omega), if_pos h]
theorem px_pf {y : Nat → Nat} {n u v w i : Nat} (h1 : ¬ y i < 20000) (h2 : ¬ (y i = 20010 ∧ v < 8)) (h3 : ¬ (y i = 20011 ∧ u < 8)) : px y (n + 1) false u v w i = (false, i, []) := by
  rw [px, if_neg (by decide), if_neg h1, if_neg h2, if_neg h3]
/-- a row of codes that takes depth d to depth e -/
def px_vd : List Nat → Nat → Nat → Prop
  | [], d, e => d = e
  | z :: l, d, e => if z < 20000 then px_vd l (d + 1) e else if z = 20010 then 1 ≤ d ∧ px_vd l d e else 2 ≤ d ∧ px_vd l (d - 1) e
theorem px_vd_app : ∀ {a c : List Nat} {d e f : Nat}, px_vd a d e → px_vd c e f → px_vd (a ++ c) d f
  | [], c, d, e, f, h1, h2 => by have h1 : d = e := h1; rw [h1]; exact h2
  | z :: l, c, d, e, f, h1, h2 => by
    rw [List.cons_append]
    unfold px_vd at h1 ⊢
    by_cases c1 : z < 20000
    · rw [if_pos c1] at h1 ⊢; exact px_vd_app h1 h2
    · rw [if_neg c1] at h1 ⊢
      by_cases c2 : z = 20010
      · rw [if_pos c2] at h1 ⊢; exact ⟨h1.1, px_vd_app h1.2 h2⟩
      · rw [if_neg c2] at h1 ⊢; exact ⟨h1.1, px_vd_app h1.2 h2⟩
def px_el (y : Nat → Nat) (o : List Nat) : Prop := ∀ z ∈ o, (z < 20000 ∧ ∃ k, z = y k) ∨ (20001 ≤ z ∧ z ≤ 20010)
def px_g (y : Nat → Nat) (i : Nat) (j : Nat) (o : List Nat) : Prop := (i + o.length ≤ j ∧ i < j) ∧ (∀ d, px_vd o d (d + 1)) ∧ px_el y o
def px_ok (y : Nat → Nat) (N i : Nat) (r : px_R) : Prop := (i ≤ r.2.1 ∧ (i ≤ N → r.2.1 ≤ N)) ∧ (r.1 = true → px_g y i r.2.1 r.2.2)
section PX
variable {y : Nat → Nat} {N : Nat}
theorem px_el_app {a c : List Nat} (h1 : px_el y a) (h2 : px_el y c) : px_el y (a ++ c) := fun z hz => (List.mem_append.mp hz).elim (h1 z) (h2 z)
theorem px_loop_ok {rc : Nat → px_R} {s i : Nat} (hs : 9 ≤ s ∧ s ≤ 13) (hN : ∀ k, y k ≠ 20013 → k < N) (hrc : ∀ j, px_ok y N j (rc j)) : ∀ m j o, (i ≤ N → j ≤ N) → px_g y i j o → px_ok y N i (px_loop y rc s m j o)
  | 0, j, o, h1, h2 => ⟨⟨by have := h2.1.2; exact Nat.le_of_lt this, h1⟩, fun _ => h2⟩
  | m + 1, j, o, h1, h2 => by
    rw [px_loop]
    by_cases c : px_in s (y j) = true
    · rw [if_pos c]
      obtain ⟨l, rfl⟩ : ∃ l, s = 9 + l := ⟨s - 9, by omega⟩
      obtain ⟨c1, c2⟩ := px_in_y (by omega) c
      obtain ⟨⟨r1, r2⟩, r3⟩ := hrc (j + 1)
      have hj := hN j (by omega)
      by_cases cr : (rc (j + 1)).1 = true
      · rw [if_pos cr]
        obtain ⟨⟨g1, g2⟩, g3, g4⟩ := r3 cr
        obtain ⟨⟨k1, k2⟩, k3, k4⟩ := h2
        refine px_loop_ok hs hN hrc m _ _ (fun z => r2 (by omega)) ⟨⟨?_, by omega⟩, fun d => ?_, ?_⟩
        · rw [List.length_append, List.length_append, List.length_singleton]; omega
        · refine px_vd_app (px_vd_app (k3 d) (g3 (d + 1))) ?_
          unfold px_vd
          rw [if_neg (by omega), if_neg (by omega)]
          exact ⟨by omega, rfl⟩
        · refine px_el_app (px_el_app k4 g4) (fun z hz => ?_)
          rw [List.mem_singleton.mp hz]
          exact Or.inr (by omega)
      · rw [if_neg cr]
        refine ⟨⟨?_, fun z => r2 (by omega)⟩, fun z => (Bool.false_ne_true z).elim⟩
        have := h2.1.2
        show i ≤ (rc (j + 1)).2.1
        omega
    · rw [if_neg c]
      exact ⟨⟨Nat.le_of_lt h2.1.2, h1⟩, fun _ => h2⟩
theorem px_all (hN : ∀ k, y k ≠ 20013 → k < N) : ∀ n c u v w i, px_ok y N i (px y n c u v w i) := by
  intro n
  induction n with
  | zero => intro c u v w i; exact ⟨⟨Nat.le_refl _, fun h => h⟩, fun z => (Bool.false_ne_true z).elim⟩
  | succ n ih =>
    intro c u v w i
    cases c
    · by_cases h1 : y i < 20000
      · rw [px_pl h1]
        have := hN i (by omega)
        refine ⟨⟨Nat.le_succ i, fun _ => by dsimp only; omega⟩, fun _ => ⟨⟨Nat.le_refl _, Nat.lt_succ_self i⟩, fun d => ?_, fun z hz => ?_⟩⟩
        · unfold px_vd; rw [if_pos h1]; rfl
        · rw [List.mem_singleton.mp hz]; exact Or.inl ⟨h1, i, rfl⟩
      · by_cases h2 : y i = 20010 ∧ v < 8
        · rw [px_pn h2]
          have hi := hN i (by omega)
          obtain ⟨⟨r1, r2⟩, r3⟩ := ih false u (v + 1) 0 (i + 1)
          by_cases cr : (px y n false u (v + 1) 0 (i + 1)).1 = true
          · rw [if_pos cr]
            obtain ⟨⟨g1, g2⟩, g3, g4⟩ := r3 cr
            refine ⟨⟨by dsimp only; omega, fun _ => r2 (by omega)⟩, fun _ => ⟨⟨?_, by dsimp only; omega⟩, fun d => ?_, ?_⟩⟩
            · dsimp only; rw [List.length_append, List.length_singleton]; omega
            · refine px_vd_app (g3 d) ?_
              unfold px_vd
              rw [if_neg (by omega), if_pos rfl]
              exact ⟨by omega, rfl⟩
            · refine px_el_app g4 (fun z hz => ?_)
              rw [List.mem_singleton.mp hz]
              exact Or.inr (by omega)
          · rw [if_neg cr]
            exact ⟨⟨by dsimp only; omega, fun _ => r2 (by omega)⟩, fun z => (Bool.false_ne_true z).elim⟩
        · by_cases h3 : y i = 20011 ∧ u < 8
          · rw [px_po h3]
            have hi := hN i (by omega)
            obtain ⟨⟨r1, r2⟩, r3⟩ := ih true 0 (u + 1) v (i + 1)
            by_cases cr : (px y n true 0 (u + 1) v (i + 1)).1 = true
            · rw [if_pos cr]
              by_cases c12 : y (px y n true 0 (u + 1) v (i + 1)).2.1 = 20012
              · rw [if_pos c12]
                have hj := hN _ (show y (px y n true 0 (u + 1) v (i + 1)).2.1 ≠ 20013 by omega)
                obtain ⟨⟨g1, g2⟩, g3, g4⟩ := r3 cr
                exact ⟨⟨by dsimp only; omega, fun _ => by dsimp only; omega⟩, fun _ => ⟨⟨by dsimp only; omega, by dsimp only; omega⟩, g3, g4⟩⟩
              · rw [if_neg c12]
                exact ⟨⟨by dsimp only; omega, fun _ => r2 (by omega)⟩, fun z => (Bool.false_ne_true z).elim⟩
            · rw [if_neg cr]
              exact ⟨⟨by dsimp only; omega, fun _ => r2 (by omega)⟩, fun z => (Bool.false_ne_true z).elim⟩
          · rw [px_pf h1 h2 h3]
            exact ⟨⟨Nat.le_refl _, fun h => h⟩, fun z => (Bool.false_ne_true z).elim⟩
    · by_cases h4 : u ≤ 4
      · rw [px_c4 h4]
        have r := ih true (u + 1) v w i
        by_cases cr : (px y n true (u + 1) v w i).1 = true
        · rw [if_pos cr]
          exact px_loop_ok (by omega) hN (fun j => ih true (u + 1) v w j) _ _ _ r.1.2 (r.2 cr)
        · rw [if_neg cr]
          exact ⟨r.1, fun z => (Bool.false_ne_true z).elim⟩
      · rw [px_c5 h4]
        exact ih false v w 0 i
end PX
