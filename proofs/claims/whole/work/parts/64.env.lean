/-! WHAT STANDS AT THE LAW'S ENTRY -/
def lw_fl : List Cond := flatC (Jvm.Cond.and given_1 narrow_1)
def lw_ix : List Nat := [92, 94, 96, 98, 100, 102, 137, 139, 144, 104, 106, 108, 110, 112]
def lw_B : List Nat := [42, 50, 58, 68, 78, 88, 99, 110, 122, 135, 149, 164, 182, 200]
def lw_tm (i : Nat) : Term := .string RX3 (lw_ix.getD i 0)
set_option maxRecDepth 100000 in
theorem lw_f1 : ∀ i, i < 14 → lw_fl[lw_B.getD i 0]? = some (.exactly (lw_tm i) "java/lang/String") := by decide +kernel
set_option maxRecDepth 100000 in
theorem lw_f2 : ∀ i, i < 14 → lw_fl[lw_B.getD i 0 + 1]? = some (.eq (.field (lw_tm i) "java/lang/String" "coder" "B") (.int 0)) := by decide +kernel
set_option maxRecDepth 100000 in
theorem lw_f3 : ∀ i, i < 14 → lw_fl[lw_B.getD i 0 + 2]? = some (.arrayOf (.field (lw_tm i) "java/lang/String" "value" "[B") .byte) := by decide +kernel
set_option maxRecDepth 100000 in
theorem lw_f4 : ∀ i, i < 14 → lw_fl[lw_B.getD i 0 + 3]? = some (.eq (.length (.field (lw_tm i) "java/lang/String" "value" "[B")) (.int (Int32.ofNat (sv_len.getD i 0)))) := by decide +kernel
set_option maxRecDepth 100000 in
theorem lw_f5 : ∀ i, i < 14 → ∀ j, j < sv_len.getD i 0 → lw_fl[lw_B.getD i 0 + 4 + j]? = some (.eq (.elem (.field (lw_tm i) "java/lang/String" "value" "[B") (.int (Int32.ofNat j))) (.int ((sv_byt.getD i []).getD j 0))) := by decide +kernel
set_option maxRecDepth 100000 in
theorem lw_f6 : ∀ j, j < 14 → ∀ i, i < j → lw_fl[lw_B.getD j 0 + 4 + sv_len.getD j 0 + i]? = some (.not (.eq (lw_tm i) (lw_tm j))) := by decide +kernel
set_option maxRecDepth 100000 in
theorem lw_f7 : lw_fl[5]? = some (.arrayOf (.static RX6 "ABOVE" "[I") .int) ∧ lw_fl[6]? = some (.eq (.length (.static RX6 "ABOVE" "[I")) (.int (Int32.ofNat 6))) ∧ ∀ j, j < 6 → lw_fl[7 + j]? = some (.eq (.elem (.static RX6 "ABOVE" "[I") (.int (Int32.ofNat j))) (.int (sv_above j))) := by decide +kernel
set_option maxRecDepth 100000 in
theorem lw_f8 : lw_fl[13]? = some (.eq (.static "java/lang/String" "COMPACT_STRINGS" "Z") (.int 1)) ∧ lw_fl[14]? = some (.isRef (.static "jdk/internal/util/Preconditions" "SIOOBE_FORMATTER" "Ljava/util/function/BiFunction;")) := by decide +kernel
set_option maxRecDepth 100000 in
set_option maxHeartbeats 4000000 in
theorem lw_env {s : State} {args : Array Value} (hts : ∀ w ∈ lw_tbl, w.before args s = true) (hgv : (Jvm.Cond.and given_1 narrow_1).before args s = true) : ∃ (D : va_G) (AK : Nat → ClassId) (xt : sv_Xt), va_K D vwCl (sv_tys AK) s ∧ sv_E s.heap.size xt s := by
  have ht2 : ∀ w ∈ sv_tbl, w.before args s = true := fun w hw => hts w (List.mem_filter.mp hw).1
  have hg : ∀ (i : Nat) (c : Cond), lw_fl[i]? = some c → c.before args s = true := fun i c h => flat_of_before _ hgv c (List.mem_of_getElem? h)
  have hA : ∀ a : Nat, a < s.heap.size → ¬ sv_A s.heap.size a := fun a h => Nat.not_le.mpr h
  obtain ⟨c0, i0, k0⟩ := u_known (C := RX0) (T := TX0) (N := 19) (n := 19) ht2 in_X0 (hts (.instantiable RX0 19) (List.mem_of_getElem? (i := 133) (by decide +kernel)))
  obtain ⟨c1, i1, k1⟩ := u_known (C := RX1) (T := TX1) (N := 3) (n := 3) ht2 in_X1 (hts (.instantiable RX1 3) (List.mem_of_getElem? (i := 768) (by decide +kernel)))
  obtain ⟨c2, i2, k2⟩ := u_known (C := RX2) (T := TX2) (N := 2) (n := 2) ht2 in_X2 (hts (.instantiable RX2 2) (List.mem_of_getElem? (i := 78) (by decide +kernel)))
  obtain ⟨c3, i3, k3⟩ := u_known (C := RX3) (T := TX3) (N := 10) (n := 10) ht2 in_X3 (hts (.instantiable RX3 10) (List.mem_of_getElem? (i := 95) (by decide +kernel)))
  obtain ⟨c4, i4, k4⟩ := u_known (C := RX4) (T := TX4) (N := 3) (n := 3) ht2 in_X4 (hts (.instantiable RX4 3) (List.mem_of_getElem? (i := 216) (by decide +kernel)))
  obtain ⟨c5, i5, k5⟩ := u_known (C := RX5) (T := TX5) (N := 5) (n := 5) ht2 in_X5 (hts (.instantiable RX5 5) (List.mem_of_getElem? (i := 236) (by decide +kernel)))
  obtain ⟨c6, i6, k6⟩ := u_known (C := RX6) (T := TX6) (N := 11) (n := 11) ht2 in_X6 (hts (.instantiable RX6 11) (List.mem_of_getElem? (i := 70) (by decide +kernel)))
  obtain ⟨c7, i7, k7⟩ := u_known (C := RX7) (T := TX7) (N := 35) (n := 35) ht2 in_X7 (hts (.instantiable RX7 35) (List.mem_of_getElem? (i := 894) (by decide +kernel)))
  obtain ⟨aI, kI, mI, fI, xI, yI⟩ := Cond.arrayClass_spec (type := .int) (ht2 _ wd_aint)
  obtain ⟨aC, kC, mC, fC, xC, yC⟩ := Cond.arrayClass_spec (type := .char) (ht2 _ wd_achar)
  obtain ⟨aZ, kZ, mZ, fZ, xZ, yZ⟩ := Cond.arrayClass_spec (type := .boolean) (ht2 _ wd_aboolean)
  have oL := hts (.arrayOver (.object RX1)) (List.mem_of_getElem? (i := 84) (by decide +kernel))
  obtain ⟨mL, aL, kL, fL, -, xL, yL, zL⟩ := Cond.arrayOver_spec oL
  have oS := hts (.arrayOver (.object RX4)) (List.mem_of_getElem? (i := 215) (by decide +kernel))
  obtain ⟨mS, aS, kS, fS, -, xS, yS, zS⟩ := Cond.arrayOver_spec oS
  have oT := hts (.arrayOver (.object RX5)) (List.mem_of_getElem? (i := 235) (by decide +kernel))
  obtain ⟨mT, aT, kT, fT, -, xT, yT, zT⟩ := Cond.arrayOver_spec oT
  obtain ⟨dC, dI, hKc⟩ : ∃ (dC : Nat → ClassId) (dI : Nat → Nat → Nat), ∀ (k : Nat) (q : vw_C), vwCl[k]? = some q → u_Kn s q.1 q.2.1 q.2.2 (dC k) (dI k) := by
    refine ⟨fun k => [c0, c1, c2, c3, c4, c5, c6, c7].getD k c0, fun k => [i0, i1, i2, i3, i4, i5, i6, i7].getD k i0, ?_⟩
    intro k q hq
    match k, hq with
    | 0, hq => cases hq; exact k0
    | 1, hq => cases hq; exact k1
    | 2, hq => cases hq; exact k2
    | 3, hq => cases hq; exact k3
    | 4, hq => cases hq; exact k4
    | 5, hq => cases hq; exact k5
    | 6, hq => cases hq; exact k6
    | 7, hq => cases hq; exact k7
    | k + 8, hq => simp [vwCl] at hq
  obtain ⟨tA, eA, hTA⟩ := va_Tof (tm := .static RX6 "ABOVE" "[I") (ty := .int) (N := 6) (f := fun j => .int (sv_above j)) (A := sv_A s.heap.size) (by decide) (hg _ _ lw_f7.1) (va_eqt (hg _ _ lw_f7.2.1)) (fun j hj => va_eqt (hg _ _ (lw_f7.2.2 j hj))) hA
  obtain ⟨adK, adV, hSt, hEv⟩ := vk_Sof (args := args) (s := s) (N := 14) (tm := lw_tm) (len := sv_len) (byt := sv_byt) (A := sv_A s.heap.size) (by decide) (fun i hi => hg _ _ (lw_f1 i hi)) (fun i hi => hg _ _ (lw_f2 i hi)) (fun i hi => hg _ _ (lw_f3 i hi)) (fun i hi => hg _ _ (lw_f4 i hi)) (fun i hi j hj => hg _ _ (lw_f5 i hi j hj)) (fun i j hi hj hne => by
    rcases Nat.lt_or_gt_of_ne hne with h | h
    · exact Or.inl (hg _ _ (lw_f6 j hj i h))
    · exact Or.inr (hg _ _ (lw_f6 i hi j h))) hA
  refine ⟨(dC, dI), fun t => if t = 10 then aI else if t = 11 then aC else if t = 12 then aZ else if t = 20 then aL else if t = 21 then aS else aT, (adK, adV, tA), ⟨hKc, ?_⟩, ?_⟩
  · intro k q hq
    match k, hq with
    | 0, hq => cases hq; exact ⟨fun n z => ⟨(fun k h => by cases h), kI, xI, mI, yI⟩, fI⟩
    | 1, hq => cases hq; exact ⟨fun n z => ⟨(fun k h => by cases h), kC, xC, mC, yC⟩, fC⟩
    | 2, hq => cases hq; exact ⟨fun n z => ⟨(fun k h => by cases h), kZ, xZ, mZ, yZ⟩, fZ⟩
    | 3, hq => cases hq; exact ⟨fun n z => ⟨(fun k h => by cases h), kL, xL, mL, yL⟩, kL, mL, xL, yL, fL, zL⟩
    | 4, hq => cases hq; exact ⟨fun n z => ⟨(fun k h => by cases h), kS, xS, mS, yS⟩, kS, mS, xS, yS, fS, zS⟩
    | 5, hq => cases hq; exact ⟨fun n z => ⟨(fun k h => by cases h), kT, xT, mT, yT⟩, kT, mT, xT, yT, fT, zT⟩
    | k + 6, hq => simp [sv_tys] at hq
  · refine ⟨List.forall_mem_cons.mpr ⟨va_Nw.of rfl (hts (.methodLinkNest RX6 9 yX2_init RX6) (List.mem_of_getElem? (i := 79) (by decide +kernel))), List.forall_mem_cons.mpr ⟨va_Nw.of rfl (hts (.methodLinkNest RX6 18 yX3_init RX6) (List.mem_of_getElem? (i := 96) (by decide +kernel))), List.forall_mem_cons.mpr ⟨va_Nw.of rfl (hts (.methodLinkNest RX6 44 yX4_init RX6) (List.mem_of_getElem? (i := 217) (by decide +kernel))), List.forall_mem_cons.mpr ⟨va_Nw.of rfl (hts (.methodLinkNest RX6 51 yX5_init RX6) (List.mem_of_getElem? (i := 237) (by decide +kernel))), List.forall_mem_cons.mpr ⟨va_Nw.of rfl (hts (.methodLinkNest RX5 11 yX4_init RX6) (List.mem_of_getElem? (i := 242) (by decide +kernel))), List.forall_mem_cons.mpr ⟨va_Nw.of rfl (hts (.methodLinkNest RX2 31 yX6_isWithin RX6) (List.mem_of_getElem? (i := 359) (by decide +kernel))), List.forall_mem_cons.mpr ⟨va_Nw.of rfl (hts (.methodLinkNest RX0 150 yX6_held RX6) (List.mem_of_getElem? (i := 369) (by decide +kernel))), List.forall_mem_cons.mpr ⟨va_Nw.of rfl (hts (.methodLinkNest RX0 121 yX6_weight RX6) (List.mem_of_getElem? (i := 403) (by decide +kernel))), fun _ h => absurd h List.not_mem_nil⟩⟩⟩⟩⟩⟩⟩⟩, ⟨va_AO.of oL, va_AO.of oS, va_AO.of oT⟩, ⟨va_Zref (hts (.laysStatic RX6 "ABOVE" "[I") (List.mem_of_getElem? (i := 390) (by decide +kernel))) (hts (.initialized RX6) (List.mem_of_getElem? (i := 53) (by decide +kernel))) eA hA, hTA⟩, ⟨hSt, ?_⟩, va_Zof (hts (.laysStatic "java/lang/String" "COMPACT_STRINGS" "Z") (List.mem_of_getElem? (i := 628) (by decide +kernel))) (hts (.initialized "java/lang/String") (List.mem_of_getElem? (i := 63) (by decide +kernel))) (va_eqt (hg _ _ lw_f8.1)) hA, ?_⟩
    · exact List.forall_mem_cons.mpr ⟨vk_R.of (hts (.stringRef RX3 92 "sway") (List.mem_of_getElem? (i := 612) (by decide +kernel))) (hEv 0 (by decide)), List.forall_mem_cons.mpr ⟨vk_R.of (hts (.stringRef RX3 94 "fee") (List.mem_of_getElem? (i := 613) (by decide +kernel))) (hEv 1 (by decide)), List.forall_mem_cons.mpr ⟨vk_R.of (hts (.stringRef RX3 96 "fine") (List.mem_of_getElem? (i := 614) (by decide +kernel))) (hEv 2 (by decide)), List.forall_mem_cons.mpr ⟨vk_R.of (hts (.stringRef RX3 98 "frp") (List.mem_of_getElem? (i := 686) (by decide +kernel))) (hEv 3 (by decide)), List.forall_mem_cons.mpr ⟨vk_R.of (hts (.stringRef RX3 100 "rw") (List.mem_of_getElem? (i := 687) (by decide +kernel))) (hEv 4 (by decide)), List.forall_mem_cons.mpr ⟨vk_R.of (hts (.stringRef RX3 102 "fw") (List.mem_of_getElem? (i := 688) (by decide +kernel))) (hEv 5 (by decide)), List.forall_mem_cons.mpr ⟨vk_R.of (hts (.stringRef RX3 137 "!") (List.mem_of_getElem? (i := 744) (by decide +kernel))) (hEv 6 (by decide)), List.forall_mem_cons.mpr ⟨vk_R.of (hts (.stringRef RX3 139 "(") (List.mem_of_getElem? (i := 749) (by decide +kernel))) (hEv 7 (by decide)), List.forall_mem_cons.mpr ⟨vk_R.of (hts (.stringRef RX3 144 ")") (List.mem_of_getElem? (i := 754) (by decide +kernel))) (hEv 8 (by decide)), List.forall_mem_cons.mpr ⟨vk_R.of (hts (.stringRef RX3 104 "|") (List.mem_of_getElem? (i := 758) (by decide +kernel))) (hEv 9 (by decide)), List.forall_mem_cons.mpr ⟨vk_R.of (hts (.stringRef RX3 106 "&") (List.mem_of_getElem? (i := 759) (by decide +kernel))) (hEv 10 (by decide)), List.forall_mem_cons.mpr ⟨vk_R.of (hts (.stringRef RX3 108 "<=>") (List.mem_of_getElem? (i := 760) (by decide +kernel))) (hEv 11 (by decide)), List.forall_mem_cons.mpr ⟨vk_R.of (hts (.stringRef RX3 110 "+-") (List.mem_of_getElem? (i := 761) (by decide +kernel))) (hEv 12 (by decide)), List.forall_mem_cons.mpr ⟨vk_R.of (hts (.stringRef RX3 112 "*/") (List.mem_of_getElem? (i := 762) (by decide +kernel))) (hEv 13 (by decide)), fun _ h => absurd h List.not_mem_nil⟩⟩⟩⟩⟩⟩⟩⟩⟩⟩⟩⟩⟩⟩
    · rcases va_Zqof (hts (.laysStatic "jdk/internal/util/Preconditions" "SIOOBE_FORMATTER" "Ljava/util/function/BiFunction;") (List.mem_of_getElem? (i := 644) (by decide +kernel))) (hts (.initialized "jdk/internal/util/Preconditions") (List.mem_of_getElem? (i := 65) (by decide +kernel))) (hg _ _ lw_f8.2) hA with h | ⟨t, h⟩
      · exact ⟨none, h⟩
      · exact ⟨some t, h⟩
