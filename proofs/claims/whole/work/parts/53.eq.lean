/-! THE REFERENCE'S PARSER FOLLOWS THE SYSTEM'S. X: what is wanted of the reference's loop at a state: symbol, open brackets, whether a part is wanted, what waits (the top first), the codes so far, which levels have been tested -/
def px_nt : List Nat → Nat
  | [] => 0
  | z :: l => (if z = 20010 then 1 else 0) + px_nt l
def px_bl (l : Nat) (H : List Nat) : Prop := match H with
  | [] => True
  | z :: _ => z = 20011 ∨ (20001 ≤ z ∧ z ≤ 20009 ∧ px_rk z ≤ l)
def px_up (T : Nat → Bool) (p : Nat) (t : Bool) : Nat → Bool := fun q => if q = p then t else T q
def px_opl (P : List Nat) (r : Nat) : Prop := ∀ z ∈ P, 20001 ≤ z ∧ z ≤ 20009 ∧ r ≤ px_rk z
def px_st (y : Nat → Nat) (X : Nat → Nat → Bool → List Nat → List Nat → (Nat → Bool) → Prop) (Fl : Nat → Prop) : Prop :=
  (∀ i p w H C T T', (∀ q, q ≤ p → T' q = T q) → X i p w H C T' → X i p w H C T) ∧
  (∀ i p H C T, y i = 20010 → px_nt H < 8 → X (i + 1) p true (20010 :: H) C T → X i p true H C T) ∧
  (∀ i p H C T, y i = 20011 → p < 8 → X (i + 1) (p + 1) true (20011 :: H) C (px_up T (p + 1) false) → X i p true H C T) ∧
  (∀ i p k H C T, y i < 20000 → px_bl 5 H → X (i + 1) p false H (C ++ [y i] ++ List.replicate k 20010) T → X i p true (List.replicate k 20010 ++ H) C T) ∧
  (∀ i p H C T, ¬ y i < 20000 → ¬ (y i = 20010 ∧ px_nt H < 8) → ¬ (y i = 20011 ∧ p < 8) → Fl i → X i p true H C T) ∧
  (∀ i p k P H C T, y i = 20012 → px_opl P 0 → px_bl 5 H → X (i + 1) p false H (C ++ P ++ List.replicate k 20010) T → X i (p + 1) false (P ++ 20011 :: (List.replicate k 20010 ++ H)) C T) ∧
  (∀ i p P H C T, 20001 ≤ y i → y i ≤ 20009 → ¬ (px_rk (y i) = 3 ∧ T p = true) → px_opl P (px_rk (y i)) → px_bl (px_rk (y i) - 1) H → X (i + 1) p true (y i :: H) (C ++ P) (px_up T p (decide (px_rk (y i) = 3) || (decide (3 < px_rk (y i)) && T p))) → X i p false (P ++ H) C T) ∧
  (∀ i p H C T, y i ≠ 20013 → ¬ (y i = 20012 ∧ 0 < p) → (20001 ≤ y i → y i ≤ 20009 → px_rk (y i) = 3 ∧ T p = true) → Fl i → X i p false H C T) ∧
  (∀ i p H C T, y i = 20013 → Fl i → X i (p + 1) false H C T)
section PE
variable {y : Nat → Nat} {N : Nat} {X : Nat → Nat → Bool → List Nat → List Nat → (Nat → Bool) → Prop} {Fl : Nat → Prop}
theorem px_nt_rep {H : List Nat} : ∀ k, px_nt (List.replicate k 20010 ++ H) = k + px_nt H
  | 0 => by rw [List.replicate_zero, List.nil_append, Nat.zero_add]
  | k + 1 => by rw [List.replicate_succ, List.cons_append, px_nt, if_pos rfl, px_nt_rep k]; omega
theorem px_bl_up {l l' : Nat} {H : List Nat} (h : px_bl l H) (hl : l ≤ l') : px_bl l' H := by
  cases H with
  | nil => exact True.intro
  | cons z H =>
    rcases h with h | ⟨h1, h2, h3⟩
    · exact Or.inl h
    · exact Or.inr ⟨h1, h2, Nat.le_trans h3 hl⟩
theorem px_up_up {T : Nat → Bool} {p : Nat} {s t : Bool} : px_up (px_up T p s) p t = px_up T p t := by
  funext q
  unfold px_up
  by_cases c : q = p
  · rw [if_pos c, if_pos c]
  · rw [if_neg c, if_neg c, if_neg c]
theorem px_up_at {T : Nat → Bool} {p : Nat} {t : Bool} : px_up T p t p = t := if_pos rfl
theorem px_up_id {T : Nat → Bool} {p : Nat} : px_up T p (T p) = T := by
  funext q
  unfold px_up
  by_cases c : q = p
  · rw [if_pos c, c]
  · rw [if_neg c]
/-- what stands behind a chain of level l that ended at symbol j -/
def px_ps (y : Nat → Nat) (l p j : Nat) (C o : List Nat) (T : Nat → Bool) (P D : List Nat) (t : Bool) : Prop := D ++ P = C ++ o ∧ px_opl P (l + 1) ∧ (20001 ≤ y j → y j ≤ 20009 → l + 1 ≤ px_rk (y j) → px_rk (y j) = 3 ∧ l ≤ 2 ∧ t = true) ∧ (3 ≤ l → t = T p)
theorem px_eq (hS : px_st y X Fl) (hN : ∀ k, y k ≠ 20013 → k < N) (hN2 : N ≤ 96) : ∀ n,
    (∀ l p i H C T, l ≤ 5 → px_bl l H → (l ≤ 2 → T p = false) → i ≤ N → p ≤ 8 → px_nt H ≤ 8 → (6 - l) + 1 + (8 - px_nt H) + 7 * (8 - p) ≤ n →
      ((px y n true l p (px_nt H) i).1 = false → Fl (px y n true l p (px_nt H) i).2.1 → X i p true H C T) ∧
      ((px y n true l p (px_nt H) i).1 = true → (∀ P D t, px_ps y l p (px y n true l p (px_nt H) i).2.1 C (px y n true l p (px_nt H) i).2.2 T P D t → X (px y n true l p (px_nt H) i).2.1 p false (P ++ H) D (px_up T p t)) → X i p true H C T)) ∧
    (∀ p k i H C T, px_bl 5 H → i ≤ N → p ≤ 8 → k + px_nt H ≤ 8 → 1 + (8 - (k + px_nt H)) + 7 * (8 - p) ≤ n →
      ((px y n false p (k + px_nt H) 0 i).1 = false → Fl (px y n false p (k + px_nt H) 0 i).2.1 → X i p true (List.replicate k 20010 ++ H) C T) ∧
      ((px y n false p (k + px_nt H) 0 i).1 = true → X (px y n false p (k + px_nt H) 0 i).2.1 p false H (C ++ (px y n false p (k + px_nt H) 0 i).2.2 ++ List.replicate k 20010) T → X i p true (List.replicate k 20010 ++ H) C T)) := by
  obtain ⟨s0, s1, s2, s3, s4, s5, s6, s7, s8⟩ := hS
  intro n
  induction n with
  | zero =>
    refine ⟨fun l p i H C T hl _ _ _ _ _ hf => absurd hf (by omega), fun p k i H C T _ _ _ _ hf => absurd hf (by omega)⟩
  | succ n ih =>
    obtain ⟨ihc, ihp⟩ := ih
    refine ⟨?_, ?_⟩
    · intro l p i H C T hl hb hT hi hp hnt hf
      by_cases c4 : l ≤ 4
      · rw [px_c4 c4]
        obtain ⟨i1, i2⟩ := ihc (l + 1) p i H C T (by omega) (px_bl_up hb (by omega)) (fun z => hT (by omega)) hi hp hnt (by omega)
        have ok := px_all hN n true (l + 1) p (px_nt H) i
        by_cases cr : (px y n true (l + 1) p (px_nt H) i).1 = true
        · rw [if_pos cr]
          -- the loop
          have lp : ∀ m j o P D t, (l = 2 → (m = 1 ∧ t = false) ∨ (m = 0 ∧ t = true)) → (l ≠ 2 → N < j + 2 * m) → j ≤ N → D ++ P = C ++ o → px_opl P (l + 1) → (20001 ≤ y j → y j ≤ 20009 → l + 2 ≤ px_rk (y j) → px_rk (y j) = 3 ∧ l + 1 ≤ 2 ∧ t = true) → (3 ≤ l → t = T p) →
              ((px_loop y (px y n true (l + 1) p (px_nt H)) (9 + l) m j o).1 = false → Fl (px_loop y (px y n true (l + 1) p (px_nt H)) (9 + l) m j o).2.1 → X j p false (P ++ H) D (px_up T p t)) ∧
              ((px_loop y (px y n true (l + 1) p (px_nt H)) (9 + l) m j o).1 = true → (∀ P D t, px_ps y l p (px_loop y (px y n true (l + 1) p (px_nt H)) (9 + l) m j o).2.1 C (px_loop y (px y n true (l + 1) p (px_nt H)) (9 + l) m j o).2.2 T P D t → X (px_loop y (px y n true (l + 1) p (px_nt H)) (9 + l) m j o).2.1 p false (P ++ H) D (px_up T p t)) → X j p false (P ++ H) D (px_up T p t)) := by
            intro m
            induction m with
            | zero =>
              intro j o P D t h2 h96 hj hD hP hst ht
              refine ⟨fun z => (Bool.false_ne_true z.symm).elim, fun _ q => q P D t ⟨hD, hP, fun a1 a2 a3 => ?_, ht⟩⟩
              have a3 : l + 1 ≤ px_rk (y j) := a3
              have hst' := hst a1 a2
              by_cases l2 : l = 2
              · rcases h2 l2 with z | z
                · omega
                · by_cases r3 : px_rk (y j) = 3
                  · exact ⟨r3, by omega, z.2⟩
                  · have := hst' (by omega); omega
              · have := h96 l2; omega
            | succ m ihm =>
              intro j o P D t h2 h96 hj hD hP hst ht
              rw [px_loop]
              by_cases c : px_in (9 + l) (y j) = true
              · rw [if_pos c]
                obtain ⟨⟨c1, c2⟩, c3⟩ := px_in_y c4 c
                have hjN := hN j (by omega)
                have nt' : px_nt (y j :: H) = px_nt H := by rw [px_nt, if_neg (by omega), Nat.zero_add]
                have okj := px_all hN n true (l + 1) p (px_nt H) (j + 1)
                -- the sign is read
                have step : X (j + 1) p true (y j :: H) (D ++ P) (px_up T p (decide (px_rk (y j) = 3) || (decide (3 < px_rk (y j)) && t))) → X j p false (P ++ H) D (px_up T p t) := by
                  intro q
                  refine s6 j p P H D _ c1 c2 (fun z => ?_) (by rw [c3]; exact hP) (by rw [c3]; exact hb) ?_
                  · have z2 : t = true := by have := z.2; rw [px_up_at] at this; exact this
                    rcases h2 (by omega) with w | w
                    · rw [w.2] at z2; exact Bool.false_ne_true z2
                    · omega
                  · rw [px_up_up, px_up_at]; exact q
                obtain ⟨t1, ht1⟩ : ∃ t1, t1 = (decide (px_rk (y j) = 3) || (decide (3 < px_rk (y j)) && t)) := ⟨_, rfl⟩
                rw [← ht1] at step
                have hT1 : l + 1 ≤ 2 → px_up T p t1 p = false := by
                  intro z
                  rw [px_up_at, ht1, decide_eq_false (by omega), decide_eq_false (by omega)]
                  rfl
                have J := ihc (l + 1) p (j + 1) (y j :: H) (D ++ P) (px_up T p t1) (by omega) (Or.inr ⟨c1, c2, by omega⟩) hT1 (by omega) hp (by rw [nt']; exact hnt) (by rw [nt']; omega)
                rw [nt'] at J
                obtain ⟨J1, J2⟩ := J
                by_cases cj : (px y n true (l + 1) p (px_nt H) (j + 1)).1 = true
                · rw [if_pos cj]
                  have K : ∀ P2 D2 t2, px_ps y (l + 1) p (px y n true (l + 1) p (px_nt H) (j + 1)).2.1 (D ++ P) (px y n true (l + 1) p (px_nt H) (j + 1)).2.2 (px_up T p t1) P2 D2 t2 → _ := fun P2 D2 t2 hps =>
                    ihm (px y n true (l + 1) p (px_nt H) (j + 1)).2.1 (o ++ (px y n true (l + 1) p (px_nt H) (j + 1)).2.2 ++ [y j]) (P2 ++ [y j]) D2 t2
                      (fun l2 => Or.inr ⟨by rcases h2 l2 with z | z <;> omega, by rw [hps.2.2.2 (by omega), px_up_at, ht1, decide_eq_true (by omega)]; rfl⟩)
                      (fun l2 => by have := h96 l2; have := (okj.2 cj).1.2; omega)
                      (okj.1.2 (by omega))
                      (by rw [← List.append_assoc, hps.1, hD]; simp only [List.append_assoc])
                      (fun z hz => by
                        rcases List.mem_append.mp hz with z1 | z1
                        · have := hps.2.1 z z1; omega
                        · rw [List.mem_singleton.mp z1]; omega)
                      (fun a1 a2 a3 => hps.2.2.1 a1 a2 a3)
                      (fun l3 => by rw [hps.2.2.2 (by omega), px_up_at, ht1, decide_eq_false (by omega), decide_eq_true (by omega)]; exact ht l3)
                  refine ⟨fun e fl => step (J2 cj (fun P2 D2 t2 hps => ?_)), fun e q => step (J2 cj (fun P2 D2 t2 hps => ?_))⟩
                  · have := (K P2 D2 t2 hps).1 e fl
                    rw [px_up_up]
                    rw [List.append_assoc] at this
                    exact this
                  · have := (K P2 D2 t2 hps).2 e q
                    rw [px_up_up]
                    rw [List.append_assoc] at this
                    exact this
                · rw [if_neg cj]
                  refine ⟨fun _ fl => step (J1 (Bool.eq_false_iff.mpr cj) fl), fun z => (Bool.false_ne_true z).elim⟩
              · rw [if_neg c]
                refine ⟨fun z => (Bool.false_ne_true z.symm).elim, fun _ q => q P D t ⟨hD, hP, fun a1 a2 a3 => ?_, ht⟩⟩
                have a3 : l + 1 ≤ px_rk (y j) := a3
                have nr := px_in_n c4 (Bool.eq_false_iff.mpr c) a1 a2
                have := hst a1 a2 (by omega)
                exact ⟨this.1, by omega, this.2.2⟩
          have K : ∀ P D t, px_ps y (l + 1) p (px y n true (l + 1) p (px_nt H) i).2.1 C (px y n true (l + 1) p (px_nt H) i).2.2 T P D t → _ := fun P D t hps =>
            lp (if l = 2 then 1 else 96) _ _ P D t
              (fun l2 => Or.inl ⟨if_pos l2, by rw [hps.2.2.2 (by omega)]; exact hT (by omega)⟩)
              (fun l2 => by rw [if_neg l2]; omega)
              (ok.1.2 hi) hps.1
              (fun z hz => by have := hps.2.1 z hz; omega)
              (fun a1 a2 a3 => hps.2.2.1 a1 a2 a3)
              (fun l3 => hps.2.2.2 (by omega))
          exact ⟨fun e fl => i2 cr (fun P D t hps => (K P D t hps).1 e fl), fun e q => i2 cr (fun P D t hps => (K P D t hps).2 e q)⟩
        · rw [if_neg cr]
          exact ⟨fun _ fl => i1 (Bool.eq_false_iff.mpr cr) fl, fun z => (Bool.false_ne_true z).elim⟩
      · rw [px_c5 c4]
        have l5 : l = 5 := by omega
        subst l5
        have J := ihp p 0 i H C T hb hi hp (by omega) (by omega)
        rw [Nat.zero_add, List.replicate_zero, List.nil_append, List.append_nil] at J
        refine ⟨J.1, fun e q => J.2 e ?_⟩
        have := q [] (C ++ (px y n false p (px_nt H) 0 i).2.2) (T p) ⟨List.append_nil _, fun z hz => absurd hz (List.not_mem_nil), fun a1 a2 a3 => ?_, fun _ => rfl⟩
        · rw [px_up_id, List.nil_append] at this; exact this
        · have := px_rk_sp a1 a2; omega
    · intro p k i H C T hb hi hp hnt hf
      by_cases h1 : y i < 20000
      · rw [px_pl h1]
        exact ⟨fun z => (Bool.false_ne_true z.symm).elim, fun _ q => s3 i p k H C T h1 hb q⟩
      by_cases h2 : y i = 20010 ∧ k + px_nt H < 8
      · rw [px_pn h2]
        have hiN := hN i (by omega)
        have J := ihp p (k + 1) (i + 1) H C T hb (by omega) hp (by omega) (by omega)
        rw [show k + 1 + px_nt H = k + px_nt H + 1 by omega] at J
        have step : X (i + 1) p true (List.replicate (k + 1) 20010 ++ H) C T → X i p true (List.replicate k 20010 ++ H) C T := by
          intro q
          rw [List.replicate_succ, List.cons_append] at q
          exact s1 i p _ C T h2.1 (by rw [px_nt_rep]; exact h2.2) q
        by_cases cr : (px y n false p (k + px_nt H + 1) 0 (i + 1)).1 = true
        · rw [if_pos cr]
          refine ⟨fun z => (Bool.false_ne_true z.symm).elim, fun _ q => step (J.2 cr ?_)⟩
          rw [List.replicate_succ]
          have e : C ++ (px y n false p (k + px_nt H + 1) 0 (i + 1)).2.2 ++ 20010 :: List.replicate k 20010 = C ++ ((px y n false p (k + px_nt H + 1) 0 (i + 1)).2.2 ++ [20010]) ++ List.replicate k 20010 := by
            simp only [List.append_assoc, List.singleton_append]
          rw [e]
          exact q
        · rw [if_neg cr]
          exact ⟨fun _ fl => step (J.1 (Bool.eq_false_iff.mpr cr) fl), fun z => (Bool.false_ne_true z).elim⟩
      by_cases h3 : y i = 20011 ∧ p < 8
      · rw [px_po h3]
        have hiN := hN i (by omega)
        have nt' : px_nt (20011 :: (List.replicate k 20010 ++ H)) = k + px_nt H := by rw [px_nt, if_neg (by omega), px_nt_rep, Nat.zero_add]
        have J := ihc 0 (p + 1) (i + 1) (20011 :: (List.replicate k 20010 ++ H)) C (px_up T (p + 1) false) (by omega) (Or.inl rfl) (fun _ => px_up_at) (by omega) (by omega) (by rw [nt']; exact hnt) (by rw [nt']; omega)
        rw [nt'] at J
        have step := s2 i p (List.replicate k 20010 ++ H) C T h3.1 h3.2
        by_cases cr : (px y n true 0 (p + 1) (k + px_nt H) (i + 1)).1 = true
        · rw [if_pos cr]
          by_cases c12 : y (px y n true 0 (p + 1) (k + px_nt H) (i + 1)).2.1 = 20012
          · rw [if_pos c12]
            refine ⟨fun z => (Bool.false_ne_true z.symm).elim, fun _ q => step (J.2 cr (fun P D t hps => ?_))⟩
            refine s5 _ p k P H D _ c12 (fun z hz => by have := hps.2.1 z hz; omega) hb ?_
            rw [hps.1]
            refine s0 _ p false H _ _ T (fun z hz => ?_) q
            rw [px_up_up]
            unfold px_up
            rw [if_neg (by omega)]
          · rw [if_neg c12]
            refine ⟨fun _ fl => step (J.2 cr (fun P D t hps => ?_)), fun z => (Bool.false_ne_true z).elim⟩
            by_cases c13 : y (px y n true 0 (p + 1) (k + px_nt H) (i + 1)).2.1 = 20013
            · exact s8 _ p _ D _ c13 fl
            · refine s7 _ (p + 1) _ D _ c13 (fun z => c12 z.1) (fun a1 a2 => ?_) fl
              have a3 := px_rk_sp a1 a2
              have := hps.2.2.1 a1 a2 (by omega)
              exact ⟨this.1, by rw [px_up_at]; exact this.2.2⟩
        · rw [if_neg cr]
          exact ⟨fun _ fl => step (J.1 (Bool.eq_false_iff.mpr cr) fl), fun z => (Bool.false_ne_true z).elim⟩
      · rw [px_pf h1 h2 h3]
        exact ⟨fun _ fl => s4 i p _ C T h1 (by rw [px_nt_rep]; exact h2) h3 fl, fun z => (Bool.false_ne_true z).elim⟩
end PE
