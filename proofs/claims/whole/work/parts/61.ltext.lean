/-! text: both answers, and the invariant -/
section TY
variable {F : sv_Fr} {g : sv_Mg}
theorem tx_W {f : Nat → Int32} {t key : Nat} {o : List Nat} (hw : sp_W 9999 f) (et : t = sp_t f) (ht : t < 14) (hk : key < 3) (ho : o.length ≤ 95) (hok : sp_okc (sp_nx key) (fun k => tx_row f t key o (99 + 96 * t + k)) o.length) : sp_W 9999 (tx_row f t key o) ∧ sp_t (tx_row f t key o) = t + 1 ∧ sp_n (tx_row f t key o) = sp_n f := by
  have lt : ∀ p, p < 71 → p ≠ 10 → tx_row f t key o p = f p := fun p h1 h2 => tx_row_lt h1 h2
  have n' : sp_n (tx_row f t key o) = sp_n f := sp_n_cg (lt 1 (by omega) (by omega))
  have t' : sp_t (tx_row f t key o) = t + 1 := by unfold sp_t; rw [tx_row_10, pl_clamp (by omega)]
  have n2 := hw.n2
  refine ⟨⟨⟨?_, ?_, ?_, ?_, ?_, ?_, ?_, ?_⟩, ?_⟩, t', n'⟩
  · rw [n', lt 1 (by omega) (by omega)]; exact hw.1.1
  · intro v j hv hj
    rw [n'] at hv
    rw [lt _ (by omega) (by omega)]; exact hw.1.2.1 v j hv hj
  · intro v hv
    rw [n'] at hv ⊢
    rw [lt _ (by omega) (by omega)]; exact hw.1.2.2.1 v hv
  · rw [lt 4 (by omega) (by omega), lt 5 (by omega) (by omega), lt 6 (by omega) (by omega)]; exact hw.1.2.2.2.1
  · rw [n', lt 7 (by omega) (by omega)]; exact hw.1.2.2.2.2.1
  · rw [lt 8 (by omega) (by omega), lt 9 (by omega) (by omega)]; exact hw.1.2.2.2.2.2.1
  · rw [lt 3 (by omega) (by omega), lt 2 (by omega) (by omega)]; exact hw.1.2.2.2.2.2.2.1
  · rw [t', tx_row_10]; exact ⟨rfl, by omega⟩
  · intro u hu
    rw [t'] at hu
    by_cases c : u = t
    · subst c
      exact ⟨key, o.length, hk, by omega, (tx_row_h ht).1, hok⟩
    · obtain ⟨k, m, h1, h2, h3, h4⟩ := hw.2 u (by omega)
      obtain ⟨o1, o2, o3⟩ := tx_row_o (f := f) (key := key) ht (show u < 14 by omega) c (show o.length ≤ 96 by omega)
      exact ⟨k, m, h1, h2, by rw [o1]; exact h3, h4.cg (fun j hj => o3 j (by omega))⟩
theorem cr_t_ext {F' : sv_Fr} {g' : sv_Mg} {X : List sv_Sh} {f : Nat → Int32} {t : Nat} (h : cr_t F g f) (hL : sv_Lay F) (hX : F'.1 = F.1 ++ X) (h2 : ∀ i, i ≠ t → F'.2 2 i = F.2 2 i) (ht : sp_t f ≤ t) (hg : ∀ k, 82 ≤ k → k < F.1.length → g' k = g k) : cr_t F' g' f := by
  intro u hu
  obtain ⟨q, e1, e2, e3, e4, e5⟩ := h u hu
  have lw := hL.2.2 u q e1
  have ll := lw.lt
  have l82 := lw.1
  have eln : sv_ln F' (q + 1) = sv_ln F (q + 1) := by
    unfold sv_ln
    rw [List.getD_eq_getElem?_getD, List.getD_eq_getElem?_getD, hX, List.getElem?_append_left ll]
  refine ⟨q, by rw [h2 u (by omega)]; exact e1, by rw [hg q l82 (by omega)]; exact e2, by rw [hg q l82 (by omega)]; exact e3, by rw [eln]; exact e4, fun k hk => ?_⟩
  rw [hg (q + 1) (by omega) ll]; exact e5 k hk
theorem l_text (h : Inv F g) : wp_X6_text F g (fun r F1 g1 => sv_Lay F1 ∧ wp_X7_text F1 g1 (fun r2 g2 => iv_E F1 r r2 g2)) := by
  obtain ⟨n, hn, e4, e58, htp⟩ := h.2.2.2.1
  obtain ⟨b, hbd⟩ : ∃ b : Nat → Nat, b = fun k => (g 65 k).toNatClampNeg := ⟨_, rfl⟩
  have hb2 : ∀ k, k < n → b k < 256 ∧ g 65 k = nI (b k) := by
    intro k hk
    obtain ⟨-, x, hx, e⟩ := htp k hk
    have : b k = x := by rw [hbd]; show (g 65 k).toNatClampNeg = x; rw [e, pl_clamp (by omega)]
    rw [this]
    exact ⟨hx, e⟩
  have hb : ∀ k, k < n → b k < 256 := fun k hk => (hb2 k hk).1
  have hB : tk_kb b n g := ⟨e4, fun k hk => by rw [(htp k hk).1]; exact (hb2 k hk).2⟩
  have hR : tk_rb b n g := ⟨e58, fun k hk => (hb2 k hk).2⟩
  have hcn : px_cn g := h.2.2.2.2.2.2.2.cn
  have hl := h.L.len
  have k18 := h.k18
  have t14 := h.W.t2
  -- nothing is told: the invariant
  have done : ∀ (g2 g4 : sv_Mg), sv_sm (fun k => k = 4 ∨ k = 6) g g2 → g2 4 1 = 0 → px_fr g2 g4 → ∀ g5, g5 = sv_st g4 58 8 0 → Inv F g5 := by
    intro g2 g4 S2 z2 f4 g5 e5
    refine h.tp ⟨0, by omega, ?_, ?_, fun k hk => absurd hk (by omega)⟩ ?_ ?_ (fun k k1 k2 k3 k4 k5 => ?_)
    · rw [e5, st_ne (by omega), f4.1 4 (by omega), z2]; rfl
    · rw [e5, st_at]; rfl
    · rw [e5, st_nk (by omega), f4.2 3 (by omega), S2 58 (by omega)]
    · rw [e5, st_nk (by omega), f4.2 34 (by omega), S2 58 (by omega)]
    · unfold iv_tp at k5
      rw [e5, st_ne k3, f4.1 k (by omega), S2 k (by omega)]
  refine k_read hn hb hB (fun j hj g1 h1 => ?_) (fun key o hk ho g1 i h1 => ?_)
  · -- it is no text
    intro g2 e2
    have S2 : sv_sm (fun k => k = 4 ∨ k = 6) g g2 := by rw [e2]; exact h1.1.st (Or.inl rfl)
    have ok := tk_i_ok hb j
    have c65 : px_cn g2 := by unfold px_cn; rw [S2 67 (by omega), S2 66 (by omega)]; exact hcn
    have R2 : tk_rb b n g2 := ⟨by rw [S2 58 (by omega)]; exact hR.1, fun k hk => by rw [S2 65 (by omega)]; exact hR.2 k hk⟩
    refine br_n (pl_nn (by have := ok.2.1; have := ok.2.2.1; omega)) ⟨h.L, r_read hn hb R2 c65 (fun j' hj' g3 h3 => ?_) (fun key o hk ho => (tx_fs hj ho).elim)⟩
    have := tx_ff hj hj'
    subst this
    intro g4 e4'
    refine br_y rfl ⟨?_, done g2 g3 S2 (by rw [e2, st_at]) h3.1 g4 e4'⟩
    rw [e4', st_nk (by omega), h3.2]
  · -- it is a text
    intro g2 e2
    refine br_y (by decide) ?_
    have S2 : sv_sm (fun k => k = 4 ∨ k = 6) g g2 := by rw [e2]; exact h1.1.st (Or.inl rfl)
    have all := px_all (px_y_N (key := key) hb) 100 true 0 0 0 1
    have hn1 := px_key_n hb ho.1
    obtain ⟨o1, o2, o3, o4⟩ := id ho
    have hg := all.2 o2
    have ole : o.length ≤ 95 := by
      have a1 := hg.1.1
      have a2 := all.1.2 hn1
      rw [o4]
      show (px (px_y b n key) 100 true 0 0 0 1).2.2.length ≤ 95
      omega
    have x18 : g2 7 18 = nI (sp_t (g 59)) := by rw [S2 7 (by omega)]; exact k18
    have oel : ∀ z ∈ o, z < 10000 + sp_nx key ∨ (20001 ≤ z ∧ z ≤ 20010) := by
      intro z hz
      rw [o4] at hz
      rcases hg.2.2 z hz with ⟨z1, k, z2⟩ | z1
      · left
        have := px_sy_leaf (n := n) (key := key) (tk_i_ok hb k)
        rw [show px_sy key (tk_i b n k) = z from z2.symm] at this
        exact this z1
      · exact Or.inr z1
    have ovd : px_vd o 0 1 := by rw [o4]; exact hg.2.1 0
    by_cases c14 : sp_t (g 59) < 14
    · refine br_y (by rw [x18]; exact (pl_lt (b := 14) (by omega) (by omega)).mpr c14) ?_
      refine k_law (Q := fun r F1 g1 => sv_Lay F1 ∧ wp_X7_text F1 g1 (fun r2 g2 => iv_E F1 r r2 g2)) (t := sp_t (g 59)) (m := o.length) h.L x18 c14 (by rw [e2, st_nk (by omega)]; exact h1.2.2.2.2.2.1) ole (fun F' g' L' p' r' c' c7 q0 q1 qc => ?_)
      have gk : ∀ k, k < F.1.length → k ≠ 7 → k ≠ 4 → k ≠ 6 → g' k = g k := fun k a1 a2 a3 a4 => by rw [c' k a1 a2, S2 k (by omega)]
      have R' : tk_rb b n g' := ⟨by rw [gk 58 (by omega) (by omega) (by omega) (by omega)]; exact hR.1, fun k hk => by rw [gk 65 (by omega) (by omega) (by omega) (by omega)]; exact hR.2 k hk⟩
      have C' : px_cn g' := by unfold px_cn; rw [gk 67 (by omega) (by omega) (by omega) (by omega), gk 66 (by omega) (by omega) (by omega) (by omega)]; exact hcn
      refine ⟨L', r_read hn hb R' C' (fun j hj => (tx_fs hj ho).elim) (fun key' o' hk' ho' g3 i' a3 h3 => ?_)⟩
      obtain ⟨ek, eo⟩ := tx_ss ho ho'
      subst ek; subst eo
      have x59 : g3 59 = g 59 := by rw [h3.1.1 59 (by omega)]; exact gk 59 (by omega) (by omega) (by omega) (by omega)
      refine r_text1 (t := sp_t (g 59)) h3 hk ole (by rw [x59]; exact h.W.t) (by omega) (fun z => by omega) (fun _ g4 S4 j4 z8 e59 => ⟨rfl, ?_⟩)
      rw [x59] at e59
      -- the cells
      have G : ∀ k, k < F.1.length → k ≠ 4 → k ≠ 6 → k ≠ 7 → k ≠ 58 → k ≠ 59 → ¬ (68 ≤ k ∧ k ≤ 70) → g4 k = g k := fun k a1 a2 a3 a4 a5 a6 a7 => by rw [S4 k (by omega), h3.1.1 k (by omega)]; exact gk k a1 a4 a2 a3
      have G2 : ∀ k, F.1.length ≤ k → g4 k = g' k := fun k a1 => by rw [S4 k (by omega), h3.1.1 k (by omega)]
      have G7 : g4 7 = upd (g 7) 18 (nI (sp_t (g 59) + 1)) := by rw [S4 7 (by omega), h3.1.1 7 (by omega), c7, S2 7 (by omega)]
      have G4 : g4 4 1 = 0 := by rw [S4 4 (by omega), h3.1.1 4 (by omega), c' 4 (by omega) (by omega), e2, st_at]
      have G58 : ∀ j, j ≠ 8 → j < 9 ∨ 21 < j → g4 58 j = g 58 j := fun j a1 a2 => by rw [j4 j a1, h3.1.2 j a2]; exact congrFun (gk 58 (by omega) (by omega) (by omega) (by omega)) j
      have hok : sp_okc (sp_nx key) (fun k => tx_row (g 59) (sp_t (g 59)) key o (99 + 96 * sp_t (g 59) + k)) o.length := px_okc (sp_nx_le key) oel (fun k hk => tx_row_c c14 hk) ovd
      obtain ⟨W', t', n'⟩ := tx_W h.W rfl c14 hk ole hok
      have lt : ∀ p, p < 71 → p ≠ 10 → g4 59 p = g 59 p := fun p a1 a2 => by rw [e59]; exact tx_row_lt a1 a2
      have n2 := h.n2
      have r2 : ∀ i, i ≠ sp_t (g 59) → F'.2 2 i = F.2 2 i := fun i hi => by rw [r']; exact va_up_ne _ _ hi
      obtain ⟨⟨cs, cv, ch, ct⟩, cvo, cd⟩ := h.C
      have nn : sp_n (g4 59) = sp_n (g 59) := by rw [e59]; exact n'
      refine ⟨L', ⟨by rw [e59]; exact W', ⟨⟨?_, fun v j hv hj => ?_, fun u hu => ?_, fun u hu => ?_⟩, fun v hv => ?_, ?_⟩⟩, ?_, ⟨0, by omega, ?_, ?_, fun k hk => absurd hk (by omega)⟩, h.2.2.2.2.1.mv (fun k z => G k (by omega) (by omega) (by omega) (by omega) (by omega) (by omega) (by omega)), h.2.2.2.2.2.1.mv (fun k z => G k (by omega) (by omega) (by omega) (by omega) (by omega) (by omega) (by omega)), h.2.2.2.2.2.2.1.mv ?_ ?_ ?_ ?_, h.2.2.2.2.2.2.2.mv ?_ ?_⟩
      · obtain ⟨s1, s2, s3, s4, s5, s6, s7, s8, s9, s10⟩ := cs
        unfold cr_s
        rw [G7, lt 1 (by omega) (by omega), lt 4 (by omega) (by omega), lt 5 (by omega) (by omega), lt 6 (by omega) (by omega), lt 9 (by omega) (by omega), lt 7 (by omega) (by omega), lt 3 (by omega) (by omega), lt 0 (by omega) (by omega), lt 8 (by omega) (by omega), pk_us, e59, tx_row_10]
        rw [pk_un (by omega), pk_un (by omega), pk_un (by omega), pk_un (by omega), pk_un (by omega), pk_un (by omega), pk_un (by omega), pk_un (by omega), pk_un (by omega)]
        exact ⟨s1, s2, s3, s4, s5, s6, s7, s8, s9, rfl⟩
      · rw [nn] at hv
        rw [lt _ (by omega) (by omega), G (7 + 1 + j) (by omega) (by omega) (by omega) (by omega) (by omega) (by omega) (by omega)]
        exact cv v j hv hj
      · rw [G (7 + 7) (by omega) (by omega) (by omega) (by omega) (by omega) (by omega) (by omega), ch u hu]
        rw [sp_hv_cg (f := g 59) (f' := g4 59) (lt 1 (by omega) (by omega)) (fun k hk => ⟨lt _ (by omega) (by omega), lt _ (by omega) (by omega)⟩)]
      · -- the laws
        have eu : sp_t (g4 59) = sp_t (g 59) + 1 := by rw [e59]; exact t'
        rw [eu] at hu
        by_cases cu : u = sp_t (g 59)
        · subst cu
          obtain ⟨w1, w2⟩ := tx_row_h (f := g 59) (key := key) (o := o) c14
          obtain ⟨y1, y2⟩ := sp_key_of w1 hk (by omega)
          rw [e59, y1, y2]
          refine ⟨F.1.length, by rw [r']; exact va_up_self _ _ _, ?_, ?_, ?_, fun k hk2 => ?_⟩
          · rw [G2 _ (Nat.le_refl _), q0, e2, st_nk (by omega)]; exact h1.2.2.2.1
          · rw [G2 _ (Nat.le_refl _), q1, e2, st_nk (by omega), w2]; exact h1.2.2.2.2.1
          · unfold sv_ln
            rw [p', List.getD_eq_getElem?_getD, List.getElem?_append_right (by omega), show F.1.length + 1 - F.1.length = 1 by omega]
            rfl
          · rw [G2 _ (by omega), qc k hk2, e2, st_ne (by omega), tx_row_c c14 hk2]
            exact h1.2.2.2.2.2.2 k hk2
        · obtain ⟨q, z1, z2, z3, z4, z5⟩ := cr_t_ext (F' := F') (g' := g4) ct h.L p' r2 (Nat.le_refl _) (fun k k1 k2 => G k k2 (by omega) (by omega) (by omega) (by omega) (by omega) (by omega)) u (by omega)
          obtain ⟨w1, w2, w3⟩ := tx_row_o (f := g 59) (key := key) c14 (show u < 14 by omega) cu (show o.length ≤ 96 by omega)
          have lu := h.W.len (show u < sp_t (g 59) by omega)
          have ek : sp_key (g4 59) u = sp_key (g 59) u := by unfold sp_key; rw [e59, w1]
          have el : sp_len (g4 59) u = sp_len (g 59) u := by unfold sp_len; rw [e59, w1]
          rw [ek, el]
          refine ⟨q, z1, z2, by rw [e59, w2]; exact z3, z4, fun k hk2 => ?_⟩
          rw [e59, w3 k (by omega)]; exact z5 k hk2
      · rw [nn] at hv
        rw [lt _ (by omega) (by omega), G (7 + 6) (by omega) (by omega) (by omega) (by omega) (by omega) (by omega) (by omega)]
        exact cvo v hv
      · rw [G7, pk_un (by omega), lt 2 (by omega) (by omega)]; exact cd
      · -- the image
        have E60 : g4 60 = g 60 := G 60 (by omega) (by omega) (by omega) (by omega) (by omega) (by omega) (by omega)
        have E0 : g4 0 = g 0 := G 0 (by omega) (by omega) (by omega) (by omega) (by omega) (by omega) (by omega)
        rcases h.2.2.1 with ⟨i1, i2⟩ | ⟨i1, i2, i3, ⟨⟨d1, d2, d3, d4⟩, d5, d6⟩, i5⟩
        · exact Or.inl ⟨by rw [E0]; exact i1, by rw [G58 3 (by omega) (by omega)]; exact i2⟩
        · have D : ∀ k, 15 ≤ k → k ≤ 22 → g4 k = g k := fun k a1 a2 => G k (by omega) (by omega) (by omega) (by omega) (by omega) (by omega) (by omega)
          refine Or.inr ⟨by rw [E0]; exact i1, by rw [G58 3 (by omega) (by omega)]; exact i2, by rw [E60]; exact i3, ?_, by rw [E60, e59, t']; omega⟩
          rw [E60]
          refine ⟨⟨?_, fun v j hv hj => ?_, fun u hu => ?_, ?_⟩, fun v hv => ?_, ?_⟩
          · unfold cr_s; rw [D 15 (by omega) (by omega)]; exact d1
          · rw [D _ (by omega) (by omega)]; exact d2 v j hv hj
          · rw [D _ (by omega) (by omega)]; exact d3 u hu
          · exact cr_t_ext d4 h.L p' r2 i5 (fun k k1 k2 => G k k2 (by omega) (by omega) (by omega) (by omega) (by omega) (by omega))
          · rw [D _ (by omega) (by omega)]; exact d5 v hv
          · rw [D 15 (by omega) (by omega)]; exact d6
      · rw [G4]; rfl
      · rw [z8]; rfl
      · rw [G 0 (by omega) (by omega) (by omega) (by omega) (by omega) (by omega) (by omega)]
      · exact G 56 (by omega) (by omega) (by omega) (by omega) (by omega) (by omega) (by omega)
      · exact G58 34 (by omega) (by omega)
      · exact G 81 (by omega) (by omega) (by omega) (by omega) (by omega) (by omega) (by omega)
      · exact G 66 (by omega) (by omega) (by omega) (by omega) (by omega) (by omega) (by omega)
      · exact G 67 (by omega) (by omega) (by omega) (by omega) (by omega) (by omega) (by omega)
    · refine br_n (by rw [x18]; exact fun z => c14 ((pl_lt (b := 14) (by omega) (by omega)).mp z)) ?_
      have e14 : sp_t (g 59) = 14 := by omega
      have c65 : px_cn g2 := by unfold px_cn; rw [S2 67 (by omega), S2 66 (by omega)]; exact hcn
      have R2 : tk_rb b n g2 := ⟨by rw [S2 58 (by omega)]; exact hR.1, fun k hk => by rw [S2 65 (by omega)]; exact hR.2 k hk⟩
      refine ⟨h.L, r_read hn hb R2 c65 (fun j hj => (tx_fs hj ho).elim) (fun key' o' hk' ho' g3 i' a3 h3 => ?_)⟩
      obtain ⟨ek, eo⟩ := tx_ss ho ho'
      subst ek; subst eo
      refine r_text1 (t := 14) h3 hk ole (by rw [h3.1.1 59 (by omega), S2 59 (by omega), h.W.t, e14]) (by omega) (fun _ g4 e4' => ⟨rfl, done g2 g3 S2 (by rw [e2, st_at]) h3.1 g4 e4'⟩) (fun z => by omega)
end TY
