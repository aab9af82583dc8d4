/-! THE TAPE, WHAT WAITS, IMAGES: feed, trim, tell, keep, back, check (the rows bt .. b_sshr are kit/laws/BITS.to-paste) -/
def bt (x : Int32) (i : Nat) : Bool := x.toBitVec.getLsbD i
theorem b_ext {x y : Int32} (h : ∀ i, i < 32 → bt x i = bt y i) : x = y := Int32.toBitVec_inj.mp (BitVec.eq_of_getLsbD_eq (fun i hi => h i hi))
theorem b_or (x y : Int32) (i : Nat) : bt (x ||| y) i = (bt x i || bt y i) := by unfold bt; rw [Int32.toBitVec_or, BitVec.getLsbD_or]
theorem b_and (x y : Int32) (i : Nat) : bt (x &&& y) i = (bt x i && bt y i) := by unfold bt; rw [Int32.toBitVec_and, BitVec.getLsbD_and]
theorem b_xor (x y : Int32) (i : Nat) : bt (x ^^^ y) i = (bt x i ^^ bt y i) := by unfold bt; rw [Int32.toBitVec_xor, BitVec.getLsbD_xor]
theorem b_big {x : Int32} {i : Nat} (h : 32 ≤ i) : bt x i = false := BitVec.getLsbD_of_ge _ _ h
theorem b_255 (i : Nat) : bt 255 i = decide (i < 8) := by
  rcases Nat.lt_or_ge i 32 with h | h
  · exact (by decide +kernel : ∀ i, i < 32 → bt 255 i = decide (i < 8)) i h
  · rw [b_big h, decide_eq_false (by omega)]
theorem s_l : ∀ n, n < 32 → ((nI n &&& 31).toBitVec.smod 32).toNat = n := by decide +kernel
theorem s_u : ∀ n, n < 32 → (((nI n).toUInt32 &&& Int32.toUInt32 31).toBitVec % 32).toNat = n := by decide +kernel
theorem b_ushr (n : Nat) (hn : n < 32) (x : Int32) (i : Nat) : bt ((x.toUInt32 >>> ((nI n).toUInt32 &&& Int32.toUInt32 31)).toInt32) i = bt x (n + i) := by
  show (x.toUInt32 >>> ((nI n).toUInt32 &&& Int32.toUInt32 31)).toBitVec.getLsbD i = x.toUInt32.toBitVec.getLsbD (n + i)
  rw [UInt32.toBitVec_shiftRight]
  show (x.toUInt32.toBitVec >>> (((nI n).toUInt32 &&& Int32.toUInt32 31).toBitVec % 32).toNat).getLsbD i = _
  rw [s_u n hn, BitVec.getLsbD_ushiftRight]
theorem b_sshr (n : Nat) (hn : n < 32) (x : Int32) {i : Nat} (hi : i < 32) : bt (x >>> (nI n &&& 31)) i = if n + i < 32 then bt x (n + i) else bt x 31 := by
  unfold bt
  rw [Int32.toBitVec_shiftRight]
  show (x.toBitVec.sshiftRight ((nI n &&& 31).toBitVec.smod 32).toNat).getLsbD i = _
  rw [s_l n hn, BitVec.getLsbD_sshiftRight, BitVec.msb_eq_getLsbD_last]
  simp [hi]
/-- byte j of a word, the first first -/
def sp_by (x : Int32) (j : Nat) : Int32 := (x >>> (nI (24 - 8 * j) &&& 31)) &&& 255
theorem sp_by_u (x : Int32) (j : Nat) : ((x.toUInt32 >>> ((nI (24 - 8 * j)).toUInt32 &&& Int32.toUInt32 31)).toInt32 &&& 255) = sp_by x j := by
  refine b_ext (fun i hi => ?_)
  rw [sp_by, b_and, b_and, b_ushr _ (by omega), b_sshr _ (by omega) _ hi, b_255]
  by_cases c : i < 8
  · rw [if_pos (by omega)]
  · rw [decide_eq_false c, Bool.and_false, Bool.and_false]
theorem sp_by_lt (x : Int32) (j : Nat) : ∃ b, b < 256 ∧ sp_by x j = nI b := by
  unfold sp_by
  generalize (x >>> (nI (24 - 8 * j) &&& 31)) = y
  refine ⟨y.toBitVec.toNat % 256, Nat.mod_lt _ (by omega), ?_⟩
  apply Int32.toBitVec_inj.1
  show y.toBitVec &&& BitVec.ofNat 32 255 = BitVec.ofNat 32 (y.toBitVec.toNat % 256)
  apply BitVec.eq_of_toNat_eq
  rw [BitVec.toNat_and, BitVec.toNat_ofNat, BitVec.toNat_ofNat, show (255 % 2 ^ 32 : Nat) = 2 ^ 8 - 1 from rfl, Nat.and_two_pow_sub_one_eq_mod]
  have := Nat.mod_lt y.toBitVec.toNat (show 0 < 256 by omega)
  omega
section CN
variable {F : sv_Fr} {g g' : sv_Mg} {a B : Nat} {f : Nat → Int32}
theorem Inv.tp (h : Inv F g) (ht : iv_tape g') (e3 : g' 58 3 = g 58 3) (e34 : g' 58 34 = g 58 34) (hk : ∀ k, k ≠ 4 → k ≠ 5 → k ≠ 58 → k ≠ 65 → ¬ iv_tp k → g' k = g k) : Inv F g' := by
  obtain ⟨h1, h2, h3, h4, h5, h6, h7, h8⟩ := h
  have kk : ∀ k, (k = 0 ∨ (7 ≤ k ∧ k ≤ 22) ∨ (31 ≤ k ∧ k ≤ 56) ∨ k = 59 ∨ k = 60 ∨ k = 66 ∨ k = 67 ∨ (73 ≤ k ∧ k ≤ 79) ∨ 81 ≤ k) → g' k = g k := fun k z => hk k (by omega) (by omega) (by omega) (by omega) (by unfold iv_tp; omega)
  have e59 : g' 59 = g 59 := kk 59 (by omega)
  refine ⟨h1, ?_, h3.mv h1 (by rw [kk 0 (by omega)]) e3 (kk 60 (by omega)) (by rw [e59]; exact Nat.le_refl _) (fun k z => kk k (by omega)), ht, h5.mv (fun k z => kk k (by omega)), h6.mv (fun k z => kk k (by omega)), h7.mv (by rw [kk 0 (by omega)]) (kk 56 (by omega)) e34 (kk 81 (by omega)), h8.mv (kk 66 (by omega)) (kk 67 (by omega))⟩
  rw [e59]
  exact ⟨h2.1, h2.2.mv h1 (fun k z => kk k (by omega))⟩
theorem Inv.wt (h : Inv F g) (hw : iv_wait g') (e10 : g' 0 10 = g 0 10) (e3 : g' 58 3 = g 58 3) (e8 : g' 58 8 = g 58 8) (hk : ∀ k, k ≠ 0 → k ≠ 56 → k ≠ 58 → k ≠ 81 → ¬ iv_tp k → g' k = g k) : Inv F g' := by
  obtain ⟨h1, h2, h3, h4, h5, h6, h7, h8⟩ := h
  have kk : ∀ k, (k = 4 ∨ k = 5 ∨ (7 ≤ k ∧ k ≤ 22) ∨ (31 ≤ k ∧ k ≤ 55) ∨ k = 59 ∨ k = 60 ∨ k = 65 ∨ k = 66 ∨ k = 67 ∨ (73 ≤ k ∧ k ≤ 79) ∨ 82 ≤ k) → g' k = g k := fun k z => hk k (by omega) (by omega) (by omega) (by omega) (by unfold iv_tp; omega)
  have e59 : g' 59 = g 59 := kk 59 (by omega)
  refine ⟨h1, ?_, h3.mv h1 e10 e3 (kk 60 (by omega)) (by rw [e59]; exact Nat.le_refl _) (fun k z => kk k (by omega)), h4.mv (by rw [kk 4 (by omega)]) (kk 5 (by omega)) e8 (kk 65 (by omega)), h5.mv (fun k z => kk k (by omega)), h6.mv (fun k z => kk k (by omega)), hw, h8.mv (kk 66 (by omega)) (kk 67 (by omega))⟩
  rw [e59]
  exact ⟨h2.1, h2.2.mv h1 (fun k z => kk k (by omega))⟩
theorem l_trim (h : Inv F g) (v : Int32) : wp_X6_trim F v g (fun r g1 => wp_X7_trim F v g1 (fun r2 g2 => iv_E F r r2 g2)) := by
  obtain ⟨n, hn, e4, e58, ht⟩ := h.2.2.2.1
  rcases iv_rng v (n := n) (by omega) with hv | ⟨i, hi, rfl⟩
  · exact k_in_n (by rw [e4]; exact hv) (br_y rfl (r_in_n (by rw [e58]; exact hv) (br_y rfl ⟨rfl, h⟩)))
  · refine k_rng_y 0 n rfl rfl e4 (Nat.zero_le i) hi (by omega) (br_n ne10 ?_)
    intro g1 e1
    refine r_rng_y 0 n rfl rfl (by rw [e1, st_ne (by omega)]; exact e58) (Nat.zero_le i) hi (by omega) (br_n ne10 ?_)
    intro g2 e2
    refine ⟨rfl, h.tp ⟨i, by omega, ?_, ?_, fun k hk => ?_⟩ ?_ ?_ (fun k k1 k2 k3 k4 k5 => ?_)⟩
    · rw [e2, st_ne (by omega), e1, st_at]
    · rw [e2, st_at]
    · rw [e2, st_ne (by omega), st_ne (by omega), e1, st_ne (by omega), st_ne (by omega)]; exact ht k (by omega)
    · rw [e2, st_nk (by omega), e1, st_ne (by omega)]
    · rw [e2, st_nk (by omega), e1, st_ne (by omega)]
    · rw [e2, st_ne k3, e1, st_ne k1]
theorem k_four {n : Nat} {x : Int32} {Q : sv_Mg → Prop} (hn : n + 4 ≤ 96) (h4 : g 4 1 = nI n) (q : ∀ g', sv_sm (fun k => k = 4 ∨ k = 5) g g' → g' 4 1 = nI (n + 4) → (∀ j, j < 4 → g' 5 (n + j) = sp_by x j) → (∀ k, k < n → g' 5 k = g 5 k) → Q g') : wp_X3_addFour F x g Q := by
  have lp : ∀ m i (g1 : sv_Mg), m + i = 4 → sv_sm (fun k => k = 4 ∨ k = 5) g g1 → g1 4 1 = nI (n + i) → (∀ j, j < i → g1 5 (n + j) = sp_by x j) → (∀ k, k < n → g1 5 k = g 5 k) → ∀ w, (i < 4 → w = nI (24 - 8 * i)) → (i = 4 → w = -8) → wp_X3_addFour_3 F Q (m + 1) x w g1 := by
    intro m
    induction m with
    | zero =>
      intro i g1 hi S1 e1 e2 e3 w hw1 hw2
      have hi4 : i = 4 := by omega
      subst hi4
      exact br_y (by rw [hw2 rfl]; decide) (q g1 S1 e1 e2 e3)
    | succ m ih =>
      intro i g1 hi S1 e1 e2 e3 w hw1 hw2
      have ew := hw1 (by omega)
      subst ew
      refine br_n (pl_nn (by omega)) ?_
      rw [e1, pl_lit 96]
      refine br_n (fun z => absurd ((pl_le (by omega) (by omega)).mp z) (by omega)) ⟨pl_in (by omega) (by omega), ?_⟩
      rw [pl_clamp (by omega), sp_by_u]
      intro g2 e4 g3 e5 w2 ew2
      have f1 : g2 4 1 = nI (n + i) := by rw [e4, st_ne (by omega)]; exact e1
      have f5 : g3 5 = upd (g1 5) (n + i) (sp_by x i) := by rw [e5, st_ne (by omega), e4, upd_st]
      refine ih (i + 1) g3 (by omega) ?_ ?_ (fun j hj => ?_) (fun k hk => ?_) w2 (fun c => ?_) (fun c => ?_)
      · rw [e5, e4]; exact (S1.st (Or.inr rfl)).st (Or.inl rfl)
      · rw [e5, st_at, f1, nI_1, Nat.add_assoc]
      · rw [f5]
        by_cases c : j = i
        · subst c; rw [pk_us]
        · rw [pk_un (by omega)]; exact e2 j (by omega)
      · rw [f5, pk_un (by omega)]; exact e3 k hk
      · have h3 : i = 0 ∨ i = 1 ∨ i = 2 := by omega
        rw [ew2]
        rcases h3 with rfl | rfl | rfl <;> decide
      · have h3 : i = 3 := by omega
        rw [ew2]; subst h3; decide
  exact ⟨5, lp 4 0 g (by omega) sv_sm.rf h4 (fun j hj => absurd hj (by omega)) (fun k _ => rfl) 24 (fun _ => rfl) (fun c => absurd c (by omega))⟩
theorem fd_sh : ∀ i, i < 12 → ((24 - (8 * (nI i - nI i / 4 * 4))) &&& 31 : Int32) = (nI (24 - 8 * (i % 4)) &&& 31) := by decide +kernel
def sp_fd (x y z : Int32) (i : Nat) : Int32 := if i < 4 then x else if i < 8 then y else z
theorem r_feed {n : Nat} {x y z : Int32} {Q : Int32 → sv_Mg → Prop} (hn : n + 12 ≤ 96) (h8 : g 58 8 = nI n) (q : ∀ g', sv_sm (fun k => k = 58 ∨ k = 65) g g' → g' 58 = upd (g 58) 8 (nI (n + 12)) → (∀ i, i < 12 → g' 65 (n + i) = sp_by (sp_fd x y z i) (i % 4)) → (∀ k, k < n → g' 65 k = g 65 k) → Q (nI (n + 12)) g') : wp_X7_feed F x y z g Q := by
  have lp : ∀ m i (g1 : sv_Mg), m + i = 12 → sv_sm (fun k => k = 65) g g1 → (∀ j, j < i → g1 65 (n + j) = sp_by (sp_fd x y z j) (j % 4)) → (∀ k, k < n → g1 65 k = g 65 k) → wp_X7_feed_18 F Q (m + 1) x y z (nI i) g1 := by
    intro m
    induction m with
    | zero =>
      intro i g1 hi S1 e2 e3
      have h12 : i = 12 := by omega
      subst h12
      refine br_y (by decide) (fun g2 e => ?_)
      have f8 : g1 58 = g 58 := S1 58 (by omega)
      have fa : (g1 58 8 + 12 : Int32) = nI (n + 12) := by rw [f8, h8, pl_lit 12, nI_add]
      have f58 : g2 58 = upd (g 58) 8 (nI (n + 12)) := by rw [e, upd_st, fa, f8]
      have f65 : g2 65 = g1 65 := by rw [e, st_ne (by omega)]
      rw [f58, pk_us]
      refine q g2 ?_ f58 (fun i hi => by rw [f65]; exact e2 i hi) (fun k hk => by rw [f65]; exact e3 k hk)
      rw [e]; exact (S1.mono (fun k z => Or.inr z)).st (Or.inl rfl)
    | succ m ih =>
      intro i g1 hi S1 e2 e3
      have hi12 : i < 12 := by omega
      refine br_n (by rw [pl_lit 12]; exact fun z => absurd ((pl_le (by omega) (by omega)).mp z) (by omega)) ?_
      have f8 : g1 58 8 = nI n := by rw [S1 58 (by omega)]; exact h8
      have st : ∀ w, w = sp_fd x y z i → wp_X7_feed_47 F Q (wp_X7_feed_18 F Q (m + 1)) x y z (nI i) w g1 := by
        intro w hw
        subst hw
        unfold wp_X7_feed_47
        rw [f8, nI_add]
        refine ⟨pl_in (by omega) (by omega), ?_⟩
        rw [pl_clamp (by omega), fd_sh i hi12]
        intro g2 e4 v ev
        rw [nI_1] at ev
        subst ev
        have f5 : g2 65 = upd (g1 65) (n + i) (sp_by (sp_fd x y z i) (i % 4)) := by rw [e4, upd_st]; rfl
        refine ih (i + 1) g2 (by omega) ?_ (fun j hj => ?_) (fun k hk => ?_)
        · rw [e4]; exact S1.st rfl
        · rw [f5]
          by_cases c : j = i
          · subst c; rw [pk_us]
          · rw [pk_un (by omega)]; exact e2 j (by omega)
        · rw [f5, pk_un (by omega)]; exact e3 k hk
      have l4 : (4 : Int32) ≤ nI i ↔ 4 ≤ i := pl_le (a := 4) (by omega) (by omega)
      have l8 : (8 : Int32) ≤ nI i ↔ 8 ≤ i := pl_le (a := 8) (by omega) (by omega)
      refine ⟨fun c => ⟨fun c8 => st _ ?_, fun c8 => st _ ?_⟩, fun c => st _ ?_⟩
      · rw [l4] at c; rw [l8] at c8; rw [sp_fd, if_neg (by omega), if_neg (by omega)]
      · rw [l4] at c; rw [l8] at c8; rw [sp_fd, if_neg (by omega), if_pos (by omega)]
      · rw [l4] at c; rw [sp_fd, if_pos (by omega)]
  unfold wp_X7_feed
  rw [h8, pl_lit 12, nI_add, pl_lit 96]
  exact br_y ((pl_le (by omega) (by omega)).mpr hn) ⟨13, lp 12 0 g (by omega) sv_sm.rf (fun j hj => absurd hj (by omega)) (fun k _ => rfl)⟩
theorem l_feed (h : Inv F g) (x y z : Int32) : wp_X6_feed F x y z g (fun r g1 => wp_X7_feed F x y z g1 (fun r2 g2 => iv_E F r r2 g2)) := by
  obtain ⟨n, hn, e4, e58, ht⟩ := h.2.2.2.1
  unfold wp_X6_feed
  rw [e4, pl_lit 12, nI_add, pl_lit 96]
  by_cases c : n + 12 ≤ 96
  · refine br_y ((pl_le (by omega) (by omega)).mpr c) ?_
    refine k_four (n := n) (by omega) e4 (fun g1 S1 a1 b1 c1 => k_four (n := n + 4) (by omega) a1 (fun g2 S2 a2 b2 c2 => k_four (n := n + 4 + 4) (by omega) a2 (fun g3 S3 a3 b3 c3 => ?_)))
    have S : sv_sm (fun k => k = 4 ∨ k = 5) g g3 := (S1.tr S2).tr S3
    rw [a3]
    refine r_feed (n := n) c (by rw [S 58 (by omega)]; exact e58) (fun g4 S4 d1 d2 d3 => ⟨rfl, ?_⟩)
    refine h.tp ⟨n + 12, c, ?_, ?_, fun k hk => ?_⟩ ?_ ?_ (fun k k1 k2 k3 k4 k5 => ?_)
    · rw [S4 4 (by omega)]; exact a3
    · rw [d1, pk_us]
    · rw [S4 5 (by omega)]
      by_cases ck : k < n
      · rw [c3 k (by omega), c2 k (by omega), c1 k ck, d3 k ck, S 65 (by omega)]
        exact ht k ck
      · obtain ⟨i, rfl⟩ : ∃ i, k = n + i := ⟨k - n, by omega⟩
        have hi : i < 12 := by omega
        rw [d2 i hi]
        refine ⟨?_, sp_by_lt _ _⟩
        by_cases c4 : i < 4
        · rw [sp_fd, if_pos c4, c3 _ (by omega), c2 _ (by omega), b1 i c4, Nat.mod_eq_of_lt c4]
        · by_cases c8 : i < 8
          · rw [sp_fd, if_neg c4, if_pos c8, c3 _ (by omega), show n + i = n + 4 + (i - 4) by omega, b2 _ (by omega), show i % 4 = i - 4 by omega]
          · rw [sp_fd, if_neg c4, if_neg c8, show n + i = n + 4 + 4 + (i - 8) by omega, b3 _ (by omega), show i % 4 = i - 8 by omega]
    · rw [d1, pk_un (by omega), S 58 (by omega)]
    · rw [d1, pk_un (by omega), S 58 (by omega)]
    · rw [S4 k (by omega), S k (by omega)]
  · refine br_n (fun z => c ((pl_le (by omega) (by omega)).mp z)) ?_
    refine br_n (fun z => ?_) ⟨rfl, h⟩
    rw [e58, pl_lit 12, nI_add, pl_lit 96] at z
    exact c ((pl_le (by omega) (by omega)).mp z)
theorem l_tell (h : Inv F g) (v : Int32) : wp_X6_tell F v g (fun r g1 => wp_X7_tell F v g1 (fun r2 g2 => iv_E F r r2 g2)) := by
  obtain ⟨n, hn, e0, e58, ht⟩ := h.2.2.2.2.2.2.1
  have p60 : (60 : Int32) = nI 60 := rfl
  unfold wp_X6_tell
  rw [e0, p60]
  by_cases c : n < 60
  · refine br_y ((pl_lt (by omega) (by omega)).mpr c) ⟨pl_in (by omega) (by omega), ?_⟩
    rw [pl_clamp (by omega)]
    intro g1 e1 g2 e2
    have f0 : g1 0 = g 0 := by rw [e1, st_ne (by omega)]
    have f2 : g2 0 9 = nI (n + 1) := by rw [e2, st_at, f0, e0, nI_1]
    have f58 : g2 58 = g 58 := by rw [e2, st_ne (by omega), e1, st_ne (by omega)]
    have f56 : g2 56 = upd (g 56) n v := by rw [e2, st_ne (by omega), e1, upd_st]
    unfold wp_X7_tell
    rw [f58, e58]
    refine br_n (fun z => absurd ((pl_eq (b := 60) (by omega) (by omega)).mp z) (by omega)) ⟨pl_in (by omega) (by omega), ?_⟩
    rw [pl_clamp (by omega)]
    intro g3 e3 g4 e4
    have f34 : g4 58 34 = nI (n + 1) := by rw [e4, st_at, e3, st_ne (by omega), f58, e58, nI_1]
    have f81 : g4 81 = upd (g 81) n v := by rw [e4, st_ne (by omega), e3, upd_st, e2, st_ne (by omega), e1, st_ne (by omega)]
    have h0 : g4 0 = g2 0 := by rw [e4, st_ne (by omega), e3, st_ne (by omega)]
    refine ⟨by rw [f2, f34], h.wt ⟨n + 1, by omega, by rw [h0]; exact f2, f34, fun k hk => ?_⟩ ?_ ?_ ?_ (fun k k1 k2 k3 k4 k5 => ?_)⟩
    · rw [f81, e4, st_ne (by omega), e3, st_ne (by omega), f56]
      by_cases ck : k = n
      · subst ck; rw [pk_us, pk_us]
      · rw [pk_un ck, pk_un ck]; exact ht k (by omega)
    · rw [h0, e2, st_nk (by omega), f0]
    · rw [e4, st_nk (by omega), e3, st_ne (by omega), f58]
    · rw [e4, st_nk (by omega), e3, st_ne (by omega), f58]
    · rw [e4, st_ne k3, e3, st_ne k4, e2, st_ne k1, e1, st_ne k2]
  · refine br_n (fun z => c ((pl_lt (by omega) (by omega)).mp z)) ?_
    have h60 : n = 60 := by omega
    subst h60
    exact br_y e58 ⟨rfl, h⟩
/-- the invariant with another image -/
theorem Inv.im (h : Inv F g) (hi : iv_img F g') (e9 : g' 0 9 = g 0 9) (e8 : g' 58 8 = g 58 8) (e34 : g' 58 34 = g 58 34) (hk : ∀ k, k ≠ 0 → ¬ (15 ≤ k ∧ k ≤ 22) → k ≠ 58 → k ≠ 60 → ¬ iv_tp k → g' k = g k) : Inv F g' := by
  obtain ⟨h1, h2, h3, h4, h5, h6, h7, h8⟩ := h
  have kk : ∀ k, (k = 4 ∨ k = 5 ∨ (7 ≤ k ∧ k ≤ 14) ∨ (31 ≤ k ∧ k ≤ 56) ∨ k = 59 ∨ k = 65 ∨ k = 66 ∨ k = 67 ∨ (73 ≤ k ∧ k ≤ 79) ∨ 81 ≤ k) → g' k = g k := fun k z => hk k (by omega) (by omega) (by omega) (by omega) (by unfold iv_tp; omega)
  have e59 : g' 59 = g 59 := kk 59 (by omega)
  refine ⟨h1, ?_, hi, h4.mv (by rw [kk 4 (by omega)]) (kk 5 (by omega)) e8 (kk 65 (by omega)), h5.mv (fun k z => kk k (by omega)), h6.mv (fun k z => kk k (by omega)), h7.mv e9 (kk 56 (by omega)) e34 (kk 81 (by omega)), h8.mv (kk 66 (by omega)) (kk 67 (by omega))⟩
  rw [e59]
  exact ⟨h2.1, h2.2.mv h1 (fun k z => kk k (by omega))⟩
theorem sp_43.t {f f' : Nat → Int32} (h : sp_43 f f') : sp_t f' = sp_t f := sp_t_cg (h 10 (by omega))
theorem l_keep (h : Inv F g) : wp_X6_keep F g (fun r g1 => wp_X7_keep F g1 (fun r2 g2 => iv_E F r r2 g2)) := by
  refine k_become h.L sv_C15 sv_C7 (by omega) h.C h.W (fun g1 S1 C1 => ?_)
  intro g2 e2
  have S2 : sv_sm (fun k => k = 0 ∨ (15 ≤ k ∧ k ≤ 22)) g g2 := by
    rw [e2]; exact (S1.mono (fun k z => Or.inr (by unfold sp_fa at z; omega))).st (Or.inl rfl)
  have f10 : g2 0 10 = 1 := by rw [e2, st_at]
  have f9 : g2 0 9 = g 0 9 := by rw [e2, st_nk (by omega), S1 0 (by unfold sp_fa; omega)]
  have C2 : cr F g2 15 (g 59) := C1.mv h.L (fun k z => by rw [e2, st_ne (by omega)])
  refine r_copyAll (by omega) (fun g3 S3 c1 c2 => ?_)
  intro g4 e4
  have f59 : g4 59 = g 59 := by rw [e4, st_ne (by omega), S3 59 (by omega), S2 59 (by omega)]
  have h43 : sp_43 (g 59) (g4 60) := fun p hp => by rw [e4, st_ne (by omega), c1 p hp, S2 59 (by omega)]
  have q58 : g3 58 = g 58 := by rw [S3 58 (by omega), S2 58 (by omega)]
  refine ⟨?_, h.im (Or.inr ⟨?_, ?_, h.W.c43 h43, ?_, ?_⟩) ?_ ?_ ?_ (fun k k1 k2 k3 k4 k5 => ?_)⟩
  · rw [f59, S2 7 (by omega)]; exact h.C.1.1.1
  · rw [e4, st_ne (by omega), S3 0 (by omega)]; exact f10
  · rw [e4, st_at]
  · exact (C2.mv h.L (fun k z => by rw [e4, st_ne (by omega), S3 k (by omega)])).c43 h.W h43
  · rw [f59, h43.t]; exact Nat.le_refl _
  · rw [e4, st_ne (by omega), S3 0 (by omega)]; exact f9
  · rw [e4, st_nk (by omega), q58]
  · rw [e4, st_nk (by omega), q58]
  · rw [e4, st_ne k3, S3 k k4, S2 k (by omega)]
theorem l_back (h : Inv F g) : wp_X6_back F g (fun r g1 => wp_X7_back F g1 (fun r2 g2 => iv_E F r r2 g2)) := by
  rcases h.2.2.1 with ⟨i1, i2⟩ | ⟨i1, i2, i3, i4, i5⟩
  · exact br_y i1 (br_y i2 ⟨rfl, h⟩)
  · refine br_n (by rw [i1]; exact ne10) (k_become h.L sv_C7 sv_C15 (by omega) i4 i3 (fun g1 S1 C1 => ?_))
    refine br_n (by rw [S1 58 (by unfold sp_fa; omega), i2]; exact ne10) (r_copyAll (by omega) (fun g2 S2 c1 c2 => ?_))
    have e60 : g1 60 = g 60 := S1 60 (by unfold sp_fa; omega)
    have h43 : sp_43 (g 60) (g2 59) := fun p hp => by rw [c1 p hp, e60]
    have C2 : cr F g2 7 (g2 59) := (C1.mv h.L (fun k z => S2 k (by omega))).c43 i3 h43
    have fk : ∀ k, ¬ (7 ≤ k ∧ k ≤ 14) → k ≠ 59 → g2 k = g k := fun k a b => by rw [S2 k b, S1 k (by unfold sp_fa; omega)]
    refine ⟨?_, h.1, ⟨i3.c43 h43, C2⟩, Or.inr ⟨?_, ?_, ?_, ?_, ?_⟩, h.2.2.2.1.mv ?_ ?_ ?_ ?_, h.2.2.2.2.1.mv (fun k z => fk k (by omega) (by omega)), h.2.2.2.2.2.1.mv (fun k z => fk k (by omega) (by omega)), h.2.2.2.2.2.2.1.mv ?_ ?_ ?_ ?_, h.2.2.2.2.2.2.2.mv ?_ ?_⟩
    · rw [h43 1 (by omega)]; exact C1.1.1.1
    · rw [fk 0 (by omega) (by omega)]; exact i1
    · rw [fk 58 (by omega) (by omega)]; exact i2
    · rw [fk 60 (by omega) (by omega)]; exact i3
    · rw [fk 60 (by omega) (by omega)]; exact i4.mv h.L (fun k z => fk k (by omega) (by omega))
    · rw [fk 60 (by omega) (by omega), h43.t]; exact Nat.le_refl _
    · rw [fk 4 (by omega) (by omega)]
    · exact fk 5 (by omega) (by omega)
    · rw [fk 58 (by omega) (by omega)]
    · exact fk 65 (by omega) (by omega)
    · rw [fk 0 (by omega) (by omega)]
    · exact fk 56 (by omega) (by omega)
    · rw [fk 58 (by omega) (by omega)]
    · exact fk 81 (by omega) (by omega)
    · exact fk 66 (by omega) (by omega)
    · exact fk 67 (by omega) (by omega)
end CN
