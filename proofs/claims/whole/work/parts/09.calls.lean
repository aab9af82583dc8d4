/-! NEW CELLS, COPIES, CALLS, CONTRACTS -/
/-- a class by its pool entry -/
def sv_CW (own : String) (idx ci N : Nat) : Prop := ∃ (C : String) (T : u_T), vwCl[ci]? = some (C, T, N) ∧ ci < 10 ∧ (∀ w ∈ u_ws C T N, w ∈ sv_tbl) ∧ (∀ j, j < N → parseFieldDescriptor (T j).2.2.1 = some (sv_ty ci j)) ∧ Cond.classLink own idx C ∈ sv_tbl ∧ Cond.instantiable C N ∈ sv_tbl ∧ Cond.initialized C ∈ sv_tbl ∧ (∀ j, j < N → defaultValue (sv_ty ci j) = if sv_isR (sv_ty ci j) = true then .null else .int 0)
theorem sv_S_up {b : Nat} {H0 H H1 : Heap} {locs : List Loc} (hS : va_S (sv_A b) H0 H locs) (z : H1.size = H.size + 1) (o : ∀ q : Nat, q < H.size → H1[q]? = H[q]?) : va_S (sv_A b) H0 H1 locs :=
  ⟨Nat.le_trans hS.1 (by omega), fun q h1 h2 => (o q (Nat.lt_of_lt_of_le h1 hS.1)).trans (hS.2.1 q h1 h2), hS.2.2⟩
/-- a new cell of a shape, all 0 and null -/
def sv_nw (F : sv_Fr) (sh : sv_Sh) : sv_Fr := (F.1 ++ [sh], sv_sra F.2 F.1.length (fun _ => none))
def sv_nz (F : sv_Fr) (g : sv_Mg) : sv_Mg := sv_sa g F.1.length (fun _ => 0)
theorem sv_H_new {D : va_G} {AK : Nat → ClassId} {b : Nat} {F : sv_Fr} {g : sv_Mg} {H H' : Heap} (h : sv_H D AK b F g H) {sh : sv_Sh} (e : va_at D vwCl (b + F.1.length, sv_cell AK b sh (fun _ => 0) (fun _ => none)) H') (z : H'.size = H.size + 1) (oq : ∀ q : Nat, q < H.size → H'[q]? = H[q]?) : sv_H D AK b (sv_nw F sh) (sv_nz F g) H' := by
  refine h.push (sh := sh) ?_ z oq rfl (fun k hk => sv_sa_ne (Nat.ne_of_lt hk)) (fun k hk => sv_sra_ne (Nat.ne_of_lt hk))
  show va_at D vwCl (b + F.1.length, sv_cell AK b sh (sv_sa g F.1.length (fun _ => 0) F.1.length) (sv_sra F.2 F.1.length (fun _ => none) F.1.length)) H'
  rw [sv_sa_eq, sv_sra_eq]
  exact e
section SvNew
variable {x : sv_X} {Q : State → Prop} {F : sv_Fr} {g : sv_Mg} {cs sl pc b nL fr lo mc ms : Nat} {xt : sv_Xt} {lv : List (Nat × Value)} {st : List Value} {own : String} {cc : ByteArray}
theorem sv_new (G : sv_G x b xt own cc nL) (RR : sv_R x fr lo mc ms) {idx ci N : Nat} (cw : sv_CW own idx ci N) (hm : cs + 1 ≤ mc ∧ sl + N ≤ ms) (d : decode cc pc = .ok (.new idx, 3))
    (h : ∀ F' g' a, F' = sv_nw F (ci, N) → g' = sv_nz F g → a = F.1.length → sv_AW x Q F' g' (cs + 1) (sl + N) (pc + 3) lv (.ref (b + a) :: st)) : sv_AW x Q F g cs sl pc lv st := by
  have h := h _ _ _ rfl rfl rfl
  obtain ⟨p, l, e, R, s, m, args, below, meth, c, D, AK, xt', b'⟩ := x
  obtain ⟨hx, hb, hml, hown, hts, hK, hlk, hbs, hE, rfl, rfl⟩ := G
  obtain ⟨r1, r2, r3, r4⟩ := RR
  intro H locs ls hH hS hl
  obtain ⟨C, T, hc, hci, hin, hty, w1, w2, w3, hdf⟩ := cw
  have hKn := hK.1 ci _ hc
  refine W.newcK hx hb hown (hts _ w1) (hts _ w2) (hts _ w3) rfl d (Nat.le_trans hm.1 r3) (Nat.le_trans hm.2 r4) hKn.2.1 hH.2 fun H1 kC hkC e1 z1 o1 => ?_
  have o2 : ∀ q : Nat, q < H.size → H1[q]? = H[q]? := fun q hq => o1 q (by rw [hH.2] at hq; exact hq)
  have z2 : H1.size = H.size + 1 := by rw [z1, hH.2]
  refine h H1 locs ls (sv_H_new hH ?_ z2 o2) (sv_S_up hS z2 o2) hl
  obtain ⟨cell, q1, q2, q3, q4⟩ := u_born (sv_ty ci) hts hin hKn hkC e1 hty
  refine sv_obj_at hci hc q1 q2 q3 (fun k hk => ?_)
  rw [q4 k hk]
  show some (defaultValue (sv_ty ci k)) = _
  rw [hdf k hk, sv_fv]
  rfl
theorem sv_newa (G : sv_G x b xt own cc nL) (RR : sv_R x fr lo mc ms) {t : Nat} (t0 : Nat) {atype : ArrayType} (h1 : ¬ t < 10) (h2 : t < 20) (ht : ∀ AK, (sv_tys AK)[t0]? = some (AK t, newarray.typeOf atype)) (hra : ∀ U cA, va_RA U cA (newarray.typeOf atype) → U.vm.findClass ("[" ++ (newarray.typeOf atype).toString) = some cA) (hdv : defaultValue (newarray.typeOf atype) = .int 0) (hcb : componentBytes (newarray.typeOf atype) ≤ 4) (hw : Cond.arrayClass (newarray.typeOf atype) ∈ sv_tbl) {n : Int32} (N : Nat) (hn : n = nI N) (hN : N ≤ 100000) (hm : cs + 1 ≤ mc ∧ sl + N ≤ ms) (d : decode cc pc = .ok (.newarray atype, 2))
    (h : ∀ F' g' a, F' = sv_nw F (t, N) → g' = sv_nz F g → a = F.1.length → sv_AW x Q F' g' (cs + 1) (sl + N) (pc + 2) lv (.ref (b + a) :: st)) : sv_AW x Q F g cs sl pc lv (.int n :: st) := by
  have h := h _ _ _ rfl rfl rfl
  obtain ⟨p, l, e, R, s, m, args, below, meth, c, D, AK, xt', b'⟩ := x
  obtain ⟨hx, hb, hml, hown, hts, hK, hlk, hbs, hE, rfl, rfl⟩ := G
  obtain ⟨r1, r2, r3, r4⟩ := RR
  intro H locs ls hH hS hl
  subst hn
  have hbig : N < 2 ^ 31 := Nat.lt_of_le_of_lt hN (by decide)
  have hbt : N * componentBytes (newarray.typeOf atype) ≤ 536870912 := Nat.le_trans (Nat.mul_le_mul hN hcb) (by decide)
  refine va_newaK hx hb (hts _ hw) rfl d rfl (nI_pos hbig) (nI_clamp hbig) hbt (Nat.le_trans hm.1 r3) (Nat.le_trans hm.2 r4) hH.2 fun H1 cA e1 z1 o1 hAr hNm => ?_
  have hcA : cA = AK t := Option.some.inj (hNm.symm.trans (hra _ _ (hK.2 t0 _ (ht AK)).2))
  subst hcA
  have o2 : ∀ q : Nat, q < H.size → H1[q]? = H[q]? := fun q hq => o1 q (by rw [hH.2] at hq; exact hq)
  have z2 : H1.size = H.size + 1 := by rw [z1, hH.2]
  refine h H1 locs ls (sv_H_new hH ?_ z2 o2) (sv_S_up hS z2 o2) hl
  refine sv_arr_at ?_ h1 h2
  rw [e1, hdv]
theorem sv_anew (G : sv_G x b xt own cc nL) (RR : sv_R x fr lo mc ms) {idx t : Nat} {C : String} (t0 : Nat) (h2 : ¬ t < 20) (ht : ∀ AK, (sv_tys AK)[t0]? = some (AK t, .object C)) (hAO : ∀ U, sv_E b xt U → va_AO C U) (hw : Cond.classLink own idx C ∈ sv_tbl) {n : Int32} (N : Nat) (hn : n = nI N) (hN : N ≤ 100000) (hm : cs + 1 ≤ mc ∧ sl + N ≤ ms) (d : decode cc pc = .ok (.anewarray idx, 3))
    (h : ∀ F' g' a, F' = sv_nw F (t, N) → g' = sv_nz F g → a = F.1.length → sv_AW x Q F' g' (cs + 1) (sl + N) (pc + 3) lv (.ref (b + a) :: st)) : sv_AW x Q F g cs sl pc lv (.int n :: st) := by
  have h := h _ _ _ rfl rfl rfl
  obtain ⟨p, l, e, R, s, m, args, below, meth, c, D, AK, xt', b'⟩ := x
  obtain ⟨hx, hb, hml, hown, hts, hK, hlk, hbs, hE, rfl, rfl⟩ := G
  obtain ⟨r1, r2, r3, r4⟩ := RR
  intro H locs ls hH hS hl
  subst hn
  have hbig : N < 2 ^ 31 := Nat.lt_of_le_of_lt hN (by decide)
  have hcl : (nI N).toNatClampNeg = N := nI_clamp hbig
  have hbt : (nI N).toNatClampNeg * 4 ≤ 536870912 := by rw [hcl]; omega
  refine W.anew hx hb hown (hts _ hw) (va_AO.use (hAO _ hE)) rfl d rfl (nI_pos hbig) hbt (Nat.le_trans hm.1 r3) (by rw [hcl]; exact Nat.le_trans hm.2 r4) fun cA kA comp f1 f2 f3 f4 => ?_
  obtain ⟨kA', comp', k1, k2, k3, k4⟩ := (hK.2 t0 _ (ht AK)).2
  have hcA : cA = AK t := Option.some.inj (f1.symm.trans k4)
  subst hcA
  rw [hcl]
  generalize hH1 : H.push ({ cls := AK t, slots := Array.replicate N .null, vm := .none } : Cell) = H1
  have z2 : H1.size = H.size + 1 := by rw [← hH1, Array.size_push]
  have e1 : H1[H.size]? = some (arrV (AK t) N (fun _ => .null)) := by rw [← hH1, Array.getElem?_push_size, ← arrV_new]
  have o2 : ∀ q : Nat, q < H.size → H1[q]? = H[q]? := fun q hq => by rw [← hH1, Array.getElem?_push, if_neg (Nat.ne_of_lt hq)]
  rw [hH.2]
  refine h H1 locs ls (sv_H_new hH ?_ z2 o2) (sv_S_up hS z2 o2) hl
  refine sv_arq_at ?_ h2
  rw [← hH.2, e1]
  rfl
theorem sv_nn {z : Int32} (hz : ¬ z < 0) : z.toInt = (z.toNatClampNeg : Int) := by
  have hz0 : (0 : Int) ≤ z.toInt := by
    have := Int32.not_lt.mp hz
    simpa using Int32.le_iff_toInt_le.mp this
  show z.toInt = ((z.toInt.toNat : Nat) : Int)
  omega
/-- System.arraycopy between two int arrays -/
theorem sv_copy (G : sv_G x b xt own cc nL) (RR : sv_R x fr lo mc ms) {idx a0 a1 n0 n1 : Nat} {sp dp n : Int32} (w1 : Cond.methodLink own idx arraycopyName ∈ sv_tbl) (w2 : Cond.native arraycopyName ∈ sv_tbl) (w3 : Cond.static arraycopyName ∈ sv_tbl) (w4 : Cond.initialized "java/lang/System" ∈ sv_tbl) (ha0 : F.1[a0]? = some (10, n0)) (ha1 : F.1[a1]? = some (10, n1)) (h1 : ¬ sp < 0) (h2 : ¬ dp < 0) (h3 : ¬ n < 0) (h4 : sp.toNatClampNeg + n.toNatClampNeg ≤ n0) (h5 : dp.toNatClampNeg + n.toNatClampNeg ≤ n1) (hfr : 1 ≤ fr) (hlo : (st.map fun v => v.category).sum + (nativeFrameWords "java/lang/System" "arraycopy" 5 + 11) ≤ lo) (d : decode cc pc = .ok (.invokestatic idx, 3))
    (h : ∀ g', g' = sv_sa g a1 (va_cpy (g a0) (g a1) sp.toNatClampNeg dp.toNatClampNeg n.toNatClampNeg) → sv_AW x Q F g' cs sl (pc + 3) lv st) : sv_AW x Q F g cs sl pc lv (.int n :: .int dp :: .ref (b + a1) :: .int sp :: .ref (b + a0) :: st) := by
  have h := h _ rfl
  obtain ⟨p, l, e, R, s, m, args, below, meth, c, D, AK, xt', b'⟩ := x
  obtain ⟨hx, hb, hml, hown, hts, hK, hlk, hbs, hE, rfl, rfl⟩ := G
  obtain ⟨r1, r2, r3, r4⟩ := RR
  intro H locs ls hH hS hl
  have hc0 := sv_arr hH ha0 (by decide) (by decide)
  have hc1 := sv_arr hH ha1 (by decide) (by decide)
  obtain ⟨-, k0, hk0, cm0, hkk0⟩ := (hK.2 0 _ rfl).1 n0 (fun j => .int (g a0 j))
  obtain ⟨-, k1, hk1, cm1, hkk1⟩ := (hK.2 0 _ rfl).1 n1 (fun j => .int (g a1 j))
  intro T hT X
  obtain ⟨vm', X', step⟩ := X.arraycopy hx hown (hts _ w1) (hts _ w2) (hts _ w3) (hts _ w4) (src := b' + a0) (dst := b' + a1) (cs := arrV (AK 10) n0 (fun j => .int (g a0 j))) (cd := arrV (AK 10) n1 (fun j => .int (g a1 j))) (srcPos := sp) (destPos := dp) (n := n) (by rw [hT]; exact hc0) (by rw [hT]; exact hc1)
    (fun _ h => by cases h) (fun _ h => by cases h) (fun h => by cases h) (fun h => by cases h) hk0 hk1 hkk0 hkk1 (by simp [refKind]) h1 h2 h3
    (by rw [sv_nn h1, sv_nn h3, arrV_size]; omega) (by rw [sv_nn h2, sv_nn h3, arrV_size]; omega)
    (fun vm₁ _ i hi => by
      have e : (arrV (AK 10) n0 (fun j => Value.int (g a0 j))).slots.getD (sp.toNatClampNeg + i) .null = .int (g a0 (sp.toNatClampNeg + i)) := by
        rw [Array.getD_eq_getD_getElem?, arrV_read _ _ (by omega)]
        rfl
      rw [e]
      exact ⟨rfl, trivial⟩)
    (g := F0 m pc ls (.int n :: .int dp :: .ref (b' + a1) :: .int sp :: .ref (b' + a0) :: st)) rfl hl.1 (rest := st) rfl (by rw [hb]; exact d) (Nat.le_trans hfr r1) (by show 2 * 0 + _ + _ ≤ _; omega)
  have e1 : copied (arrV (AK 10) n0 (fun j => .int (g a0 j))) (arrV (AK 10) n1 (fun j => .int (g a1 j))) sp dp n = arrV (AK 10) n1 (fun j => .int (va_cpy (g a0) (g a1) sp.toNatClampNeg dp.toNatClampNeg n.toNatClampNeg j)) := va_copied (fun z => .int z) (AK 10) (AK 10) (g a0) (g a1) h4
  rw [e1] at X' step
  have hlt : b' + a1 < H.size := (Array.getElem?_eq_some_iff.mp hc1).1
  generalize hcell : arrV (AK 10) n1 (fun j => Value.int (va_cpy (g a0) (g a1) sp.toNatClampNeg dp.toNatClampNeg n.toNatClampNeg j)) = cellN at X' step
  have hheap : ((T.setVm vm').setCell (b' + a1) cellN).heap = H.setIfInBounds (b' + a1) cellN := by rw [← hT]; rfl
  have oq : ∀ q : Nat, q ≠ b' + a1 → (H.setIfInBounds (b' + a1) cellN)[q]? = H[q]? := fun q hq => by simp [Array.getElem?_setIfInBounds, Ne.symm hq]
  obtain ⟨t, q1, q2⟩ := h (H.setIfInBounds (b' + a1) cellN) _ ls (hH.set ha1 (sv_arr_at (by rw [← hcell, sv_sa_eq]; simp [Array.getElem?_setIfInBounds, hlt]) (by decide) (by decide)) (by simp) oq rfl (fun j hj => sv_sa_ne hj) (fun j hj => rfl))
    ⟨by simp; exact hS.1, fun q g1 g2 => by
      rw [oq q (fun e => g2 (by rw [e]; exact Nat.le_add_right b' a1))]
      exact hS.2.1 q g1 g2, fun q hq => by
      rcases List.mem_append.mp hq with h | h
      · exact hS.2.2 q h
      · obtain ⟨z, -, hz⟩ := List.mem_map.mp h
        rw [← hz]
        exact Nat.le_add_right b' a1⟩ hl _ hheap X'
  exact ⟨t, step t q1, q2⟩
end SvNew
/-- a method's contract at given arguments, cells and contents -/
def sv_Pre (D : va_G) (AK : Nat → ClassId) (b : Nat) (xt : sv_Xt) (F : sv_Fr) (g : sv_Mg) (U : State) : Prop := va_K D vwCl (sv_tys AK) U ∧ sv_E b xt U ∧ sv_H D AK b F g U.heap
def sv_QC (D : va_G) (AK : Nat → ClassId) (b : Nat) (QQ : Option Value → sv_Fr → sv_Mg → Prop) : Array Value → State → Outcome → State → Prop := fun _ st oc t => (∃ (r : Option Value) (F' : sv_Fr) (g' : sv_Mg), oc = .returned r ∧ QQ r F' g' ∧ sv_H D AK b F' g' t.heap) ∧ va_F (sv_A b) st t
def sv_rm (fr lo mc ms : Nat) : Room := { frames := fr, cells := mc, slots := ms, locals := lo }
def sv_Cal (y : MethodName) (cc : ByteArray) (nL : Nat) (rt : Option FieldType) (fr lo mc ms b : Nat) (xt : sv_Xt) (avs : List Value) (F : sv_Fr) (g : sv_Mg) (QQ : Option Value → sv_Fr → sv_Mg → Prop) : Prop :=
  ∀ (l : Launch) (D : va_G) (AK : Nat → ClassId), Met l y (.code y cc nL rt :: sv_tbl) (sv_rm fr lo mc ms) (va_Pc avs (sv_Pre D AK b xt F g)) (sv_QC D AK b QQ) mc ms (sv_A b)
/-- a method by its name: code, how many parameters -/
def sv_MW (y : MethodName) (cc : ByteArray) (nL : Nat) (rt : Option FieldType) (n : Nat) : Prop := Cond.code y cc nL rt ∈ sv_tbl ∧ Cond.initialized y.cls ∈ sv_tbl ∧ (y.cls ≠ "java/lang/invoke/MethodHandle" ∧ y.cls ≠ "java/lang/invoke/VarHandle" ∧ (parseMethodDescriptor y.desc).map (fun d => d.parameters.length) = some n) ∧ plainName y.cls = true
def sv_LV (own : String) (idx : Nat) (y : MethodName) : Prop := Cond.methodLink own idx y ∈ sv_tbl ∧ Cond.instanceMethod y ∈ sv_tbl ∧ Cond.selects y.cls y y ∈ sv_tbl
def sv_LS (own : String) (idx : Nat) (y : MethodName) : Prop := Cond.methodLink own idx y ∈ sv_tbl ∧ Cond.static y ∈ sv_tbl
def sv_LI (own : String) (idx : Nat) (y : MethodName) : Prop := Cond.methodLink own idx y ∈ sv_tbl ∧ Cond.instanceMethod y ∈ sv_tbl ∧ y.name = "<init>"
def sv_LSN (own : String) (idx : Nat) (y : MethodName) (host : String) : Prop := (own, idx, y, host) ∈ sv_nests ∧ Cond.static y ∈ sv_tbl
def sv_LIN (own : String) (idx : Nat) (y : MethodName) (host : String) : Prop := (own, idx, y, host) ∈ sv_nests ∧ Cond.instanceMethod y ∈ sv_tbl ∧ y.name = "<init>"
theorem sv_blind {D : va_G} {AK : Nat → ClassId} {b : Nat} {xt : sv_Xt} {F : sv_Fr} {g : sv_Mg} {avs : List Value} : FrameBlind (va_Pc avs (sv_Pre D AK b xt F g)) := by
  intro a U gf mk q
  obtain ⟨q0, qK, qE, qH⟩ := q
  exact ⟨q0, va_K.moved (u := U) (U := U.calling gf mk a) (Vm.Alike.refl U.vm) qK, qE.same rfl rfl, qH⟩
section SvCall
variable {x : sv_X} {Q : State → Prop} {F : sv_Fr} {g : sv_Mg} {cs sl pc b nL fr lo mc ms : Nat} {xt : sv_Xt} {lv : List (Nat × Value)} {st st0 : List Value} {own : String} {cc : ByteArray}
theorem sv_back {p : Program} {l : Launch} {e : Env} {R : Room} {s : State} {m : MethodId} {args : Array Value} {below : List Frame} {meth : Method} {c : Code} {H : Heap} {locs : List Loc} {ls : Array Slot} {D : va_G} {AK : Nat → ClassId} {mc' ms' : Nat} {QQ : Option Value → sv_Fr → sv_Mg → Prop} {a : Array Value}
    (hr : va_Run p l e R s m args below meth c H locs cs sl mc' ms' (F0 m pc ls st0) st (sv_QC D AK b QQ a) (sv_A b)) (hS : va_S (sv_A b) s.heap H locs) (hl : lv_has ls c.maxLocals lv)
    (h : ∀ r F' g', QQ r F' g' → sv_AW (p, l, e, R, s, m, args, below, meth, c, D, AK, xt, b) Q F' g' (cs + mc') (sl + ms') (pc + 3) lv (r.toList ++ st)) : W p l e R s m args below meth c H locs cs sl Q (F0 m pc ls st0) := by
  intro T hT X
  obtain ⟨v, st₀, t, T', L, h0, X', hL, e1, e2, ⟨⟨r, F', g', hv, hq, hH'⟩, hz, hk⟩, go⟩ := hr T hT X
  cases hv
  rw [h0] at hz hk
  obtain ⟨t2, a1, b1⟩ := h v F' g' hq T'.heap (locs ++ L) ls (by rw [e1]; exact hH')
    ⟨Nat.le_trans hS.1 (by rw [e1]; exact hz), fun q h1 h2 => by rw [e1, hk q (Nat.lt_of_lt_of_le h1 hS.1) h2]; exact hS.2.1 q h1 h2, fun q hq => by
      rcases List.mem_append.mp hq with h | h
      · exact hS.2.2 q h
      · exact hL q h⟩ hl T' rfl X'
  exact ⟨t2, go t2 a1, b1⟩
theorem sv_callV (G : sv_G x b xt own cc nL) (RR : sv_R x fr lo mc ms) {y : MethodName} {cc' : ByteArray} {nL' fr' lo' mc' ms' idx n a ci N : Nat} {rt : Option FieldType} {As : List Value} {QQ : Option Value → sv_Fr → sv_Mg → Prop} {T : u_T} (hC : sv_Cal y cc' nL' rt fr' lo' mc' ms' b xt (.ref (b + a) :: As) F g QQ) (mw : sv_MW y cc' nL' rt n) (lw : sv_LV own idx y) (ha : F.1[a]? = some (ci, N)) (hci : ci < 10) (hc : vwCl[ci]? = some (y.cls, T, N)) (hn : As.length = n) (hr : fr' + 1 ≤ fr ∧ 8 + (nL' + 11) + lo' ≤ lo) (hm : cs + mc' ≤ mc ∧ sl + ms' ≤ ms) (hst : (st.map fun v => v.category).sum ≤ 8) (hs : st0 = As.reverse ++ .ref (b + a) :: st) (d : decode cc pc = .ok (.invokevirtual idx, 3))
    (h : ∀ r F' g', QQ r F' g' → sv_AW x Q F' g' (cs + mc') (sl + ms') (pc + 3) lv (r.toList ++ st)) : sv_AW x Q F g cs sl pc lv st0 := by
  obtain ⟨p, l, e, R, s, m, args, below, meth, c, D, AK, xt', b'⟩ := x
  obtain ⟨hx, hb, hml, hown, hts, hK, hlk, hbs, hE, rfl, rfl⟩ := G
  obtain ⟨r1, r2, r3, r4⟩ := RR
  obtain ⟨m1, m2, m3, m4⟩ := mw
  intro H locs ls hH hS hl
  obtain ⟨cell, q1, q2, q3, -⟩ := sv_obj hH ha hci hc
  refine sv_back (va_runV (As := As) (rest := st) (C := y.cls) ⟨hx, hb, hml, hown, hts⟩ (hC l D AK) ⟨callB_of n hts (sv_goodIn m1) rfl rfl rfl (hts _ m2) (hts _ lw.1) m3 ⟨Nat.le_trans hr.1 r1, Nat.le_trans hr.2 r2⟩, hts _ lw.2.1, hts _ lw.2.2⟩ ⟨sv_blind, ⟨cell, q1, by rw [q3]; rfl, by rw [q2]; exact (hK.1 ci _ hc).2.1⟩, fun U hU hW => ⟨rfl, va_K.moved hW.alike hK, hE.go hW (fun q h1 h2 => by rw [hU]; exact hS.2.1 q h1 h2), by rw [hU]; exact hH⟩⟩ rfl hn (hl.1.trans hml) hs (lv_room hst) d ⟨Nat.le_trans hm.1 r3, Nat.le_trans hm.2 r4⟩) hS hl h
theorem sv_callVS (G : sv_G x b xt own cc nL) (RR : sv_R x fr lo mc ms) {y : MethodName} {cc' : ByteArray} {nL' fr' lo' mc' ms' idx n q : Nat} {rt : Option FieldType} {As : List Value} {QQ : Option Value → sv_Fr → sv_Mg → Prop} (hC : sv_Cal y cc' nL' rt fr' lo' mc' ms' b xt (.ref (xt.1 q) :: As) F g QQ) (mw : sv_MW y cc' nL' rt n) (lw : sv_LV own idx y) (hq : q < 14) (hyc : y.cls = "java/lang/String") (hn : As.length = n) (hr : fr' + 1 ≤ fr ∧ 8 + (nL' + 11) + lo' ≤ lo) (hm : cs + mc' ≤ mc ∧ sl + ms' ≤ ms) (hst : (st.map fun v => v.category).sum ≤ 8) (hs : st0 = As.reverse ++ .ref (xt.1 q) :: st) (d : decode cc pc = .ok (.invokevirtual idx, 3))
    (h : ∀ r F' g', QQ r F' g' → sv_AW x Q F' g' (cs + mc') (sl + ms') (pc + 3) lv (r.toList ++ st)) : sv_AW x Q F g cs sl pc lv st0 := by
  obtain ⟨p, l, e, R, s, m, args, below, meth, c, D, AK, xt', b'⟩ := x
  obtain ⟨hx, hb, hml, hown, hts, hK, hlk, hbs, hE, rfl, rfl⟩ := G
  obtain ⟨r1, r2, r3, r4⟩ := RR
  obtain ⟨m1, m2, m3, m4⟩ := mw
  intro H locs ls hH hS hl
  refine sv_back (va_runV (As := As) (rest := st) (C := y.cls) ⟨hx, hb, hml, hown, hts⟩ (hC l D AK) ⟨callB_of n hts (sv_goodIn m1) rfl rfl rfl (hts _ m2) (hts _ lw.1) m3 ⟨Nat.le_trans hr.1 r1, Nat.le_trans hr.2 r2⟩, hts _ lw.2.1, hts _ lw.2.2⟩ ⟨sv_blind, by rw [hyc]; exact vk_recv hE.2.2.2.1.1 hq hS, fun U hU hW => ⟨rfl, va_K.moved hW.alike hK, hE.go hW (fun q h1 h2 => by rw [hU]; exact hS.2.1 q h1 h2), by rw [hU]; exact hH⟩⟩ rfl hn (hl.1.trans hml) hs (lv_room hst) d ⟨Nat.le_trans hm.1 r3, Nat.le_trans hm.2 r4⟩) hS hl h
theorem sv_callS (G : sv_G x b xt own cc nL) (RR : sv_R x fr lo mc ms) {y : MethodName} {cc' : ByteArray} {nL' fr' lo' mc' ms' idx n : Nat} {rt : Option FieldType} {As : List Value} {QQ : Option Value → sv_Fr → sv_Mg → Prop} (hC : sv_Cal y cc' nL' rt fr' lo' mc' ms' b xt As F g QQ) (mw : sv_MW y cc' nL' rt n) (lw : sv_LS own idx y) (hn : As.length = n) (hr : fr' + 1 ≤ fr ∧ 8 + (nL' + 11) + lo' ≤ lo) (hm : cs + mc' ≤ mc ∧ sl + ms' ≤ ms) (hst : (st.map fun v => v.category).sum ≤ 8) (hs : st0 = As.reverse ++ st) (d : decode cc pc = .ok (.invokestatic idx, 3))
    (h : ∀ r F' g', QQ r F' g' → sv_AW x Q F' g' (cs + mc') (sl + ms') (pc + 3) lv (r.toList ++ st)) : sv_AW x Q F g cs sl pc lv st0 := by
  obtain ⟨p, l, e, R, s, m, args, below, meth, c, D, AK, xt', b'⟩ := x
  obtain ⟨hx, hb, hml, hown, hts, hK, hlk, hbs, hE, rfl, rfl⟩ := G
  obtain ⟨r1, r2, r3, r4⟩ := RR
  obtain ⟨m1, m2, m3, m4⟩ := mw
  intro H locs ls hH hS hl
  refine sv_back (va_runS (As := As) (rest := st) ⟨hx, hb, hml, hown, hts⟩ (hC l D AK) ⟨callB_of n hts (sv_goodIn m1) rfl rfl rfl (hts _ m2) (hts _ lw.1) m3 ⟨Nat.le_trans hr.1 r1, Nat.le_trans hr.2 r2⟩, hts _ lw.2⟩ ⟨sv_blind, fun U hU hW => ⟨rfl, va_K.moved hW.alike hK, hE.go hW (fun q h1 h2 => by rw [hU]; exact hS.2.1 q h1 h2), by rw [hU]; exact hH⟩⟩ rfl hn (hl.1.trans hml) hs (lv_room hst) d ⟨Nat.le_trans hm.1 r3, Nat.le_trans hm.2 r4⟩) hS hl h
theorem sv_callI (G : sv_G x b xt own cc nL) (RR : sv_R x fr lo mc ms) {y : MethodName} {cc' : ByteArray} {nL' fr' lo' mc' ms' idx n a : Nat} {As : List Value} {QQ : Option Value → sv_Fr → sv_Mg → Prop} (hC : sv_Cal y cc' nL' none fr' lo' mc' ms' b xt (.ref (b + a) :: As) F g QQ) (mw : sv_MW y cc' nL' none n) (lw : sv_LI own idx y) (hn : As.length = n) (hr : fr' + 1 ≤ fr ∧ 8 + (nL' + 11) + lo' ≤ lo) (hm : cs + mc' ≤ mc ∧ sl + ms' ≤ ms) (hst : (st.map fun v => v.category).sum ≤ 8) (hs : st0 = As.reverse ++ .ref (b + a) :: st) (d : decode cc pc = .ok (.invokespecial idx, 3))
    (h : ∀ r F' g', QQ r F' g' → sv_AW x Q F' g' (cs + mc') (sl + ms') (pc + 3) lv (r.toList ++ st)) : sv_AW x Q F g cs sl pc lv st0 := by
  obtain ⟨p, l, e, R, s, m, args, below, meth, c, D, AK, xt', b'⟩ := x
  obtain ⟨hx, hb, hml, hown, hts, hK, hlk, hbs, hE, rfl, rfl⟩ := G
  obtain ⟨r1, r2, r3, r4⟩ := RR
  obtain ⟨m1, m2, m3, m4⟩ := mw
  intro H locs ls hH hS hl
  refine sv_back (va_runI (As := As) (rest := st) ⟨hx, hb, hml, hown, hts⟩ (hC l D AK) ⟨callB_of n hts (sv_goodIn m1) rfl rfl rfl (hts _ m2) (hts _ lw.1) m3 ⟨Nat.le_trans hr.1 r1, Nat.le_trans hr.2 r2⟩, lw.2.2, hts _ lw.2.1⟩ ⟨sv_blind, fun U hU hW => ⟨rfl, va_K.moved hW.alike hK, hE.go hW (fun q h1 h2 => by rw [hU]; exact hS.2.1 q h1 h2), by rw [hU]; exact hH⟩⟩ rfl hn (hl.1.trans hml) hs (lv_room hst) d ⟨Nat.le_trans hm.1 r3, Nat.le_trans hm.2 r4⟩) hS hl h
theorem sv_callSN (G : sv_G x b xt own cc nL) (RR : sv_R x fr lo mc ms) {y : MethodName} {cc' : ByteArray} {nL' fr' lo' mc' ms' idx n : Nat} {rt : Option FieldType} {host : String} {As : List Value} {QQ : Option Value → sv_Fr → sv_Mg → Prop} (hC : sv_Cal y cc' nL' rt fr' lo' mc' ms' b xt As F g QQ) (mw : sv_MW y cc' nL' rt n) (lw : sv_LSN own idx y host) (hn : As.length = n) (hr : fr' + 1 ≤ fr ∧ 8 + (nL' + 11) + lo' ≤ lo) (hm : cs + mc' ≤ mc ∧ sl + ms' ≤ ms) (hst : (st.map fun v => v.category).sum ≤ 8) (hs : st0 = As.reverse ++ st) (d : decode cc pc = .ok (.invokestatic idx, 3))
    (h : ∀ r F' g', QQ r F' g' → sv_AW x Q F' g' (cs + mc') (sl + ms') (pc + 3) lv (r.toList ++ st)) : sv_AW x Q F g cs sl pc lv st0 := by
  obtain ⟨p, l, e, R, s, m, args, below, meth, c, D, AK, xt', b'⟩ := x
  obtain ⟨hx, hb, hml, hown, hts, hK, hlk, hbs, hE, rfl, rfl⟩ := G
  obtain ⟨r1, r2, r3, r4⟩ := RR
  obtain ⟨m1, m2, m3, m4⟩ := mw
  intro H locs ls hH hS hl
  refine sv_back (va_runSN (As := As) (rest := st) (host := host) ⟨hx, hb, hml, hown, hts⟩ (hC l D AK) ⟨va_cnB n hts (sv_goodIn m1) rfl rfl rfl (hE.1 _ lw.1) (hts _ m2) m3 ⟨Nat.le_trans hr.1 r1, Nat.le_trans hr.2 r2⟩, hts _ lw.2, trivial⟩ ⟨sv_blind, fun U hU hW => ⟨rfl, va_K.moved hW.alike hK, hE.go hW (fun q h1 h2 => by rw [hU]; exact hS.2.1 q h1 h2), by rw [hU]; exact hH⟩⟩ rfl hn (hl.1.trans hml) hs (lv_room hst) d ⟨Nat.le_trans hm.1 r3, Nat.le_trans hm.2 r4⟩) hS hl h
theorem sv_callIN (G : sv_G x b xt own cc nL) (RR : sv_R x fr lo mc ms) {y : MethodName} {cc' : ByteArray} {nL' fr' lo' mc' ms' idx n a : Nat} {host : String} {As : List Value} {QQ : Option Value → sv_Fr → sv_Mg → Prop} (hC : sv_Cal y cc' nL' none fr' lo' mc' ms' b xt (.ref (b + a) :: As) F g QQ) (mw : sv_MW y cc' nL' none n) (lw : sv_LIN own idx y host) (hn : As.length = n) (hr : fr' + 1 ≤ fr ∧ 8 + (nL' + 11) + lo' ≤ lo) (hm : cs + mc' ≤ mc ∧ sl + ms' ≤ ms) (hst : (st.map fun v => v.category).sum ≤ 8) (hs : st0 = As.reverse ++ .ref (b + a) :: st) (d : decode cc pc = .ok (.invokespecial idx, 3))
    (h : ∀ r F' g', QQ r F' g' → sv_AW x Q F' g' (cs + mc') (sl + ms') (pc + 3) lv (r.toList ++ st)) : sv_AW x Q F g cs sl pc lv st0 := by
  obtain ⟨p, l, e, R, s, m, args, below, meth, c, D, AK, xt', b'⟩ := x
  obtain ⟨hx, hb, hml, hown, hts, hK, hlk, hbs, hE, rfl, rfl⟩ := G
  obtain ⟨r1, r2, r3, r4⟩ := RR
  obtain ⟨m1, m2, m3, m4⟩ := mw
  intro H locs ls hH hS hl
  refine sv_back (va_runIN (As := As) (rest := st) (host := host) ⟨hx, hb, hml, hown, hts⟩ (hC l D AK) ⟨va_cnB n hts (sv_goodIn m1) rfl rfl rfl (hE.1 _ lw.1) (hts _ m2) m3 ⟨Nat.le_trans hr.1 r1, Nat.le_trans hr.2 r2⟩, lw.2.2, hts _ lw.2.1⟩ ⟨sv_blind, fun U hU hW => ⟨rfl, va_K.moved hW.alike hK, hE.go hW (fun q h1 h2 => by rw [hU]; exact hS.2.1 q h1 h2), by rw [hU]; exact hH⟩⟩ rfl hn (hl.1.trans hml) hs (lv_room hst) d ⟨Nat.le_trans hm.1 r3, Nat.le_trans hm.2 r4⟩) hS hl h
theorem sv_objInit (G : sv_G x b xt own cc nL) (RR : sv_R x fr lo mc ms) {idx a : Nat} (w1 : Cond.methodLink own idx Lib.objectInit ∈ sv_tbl) (w2 : Cond.instanceMethod Lib.objectInit ∈ sv_tbl) (w3 : Cond.code Lib.objectInit ⟨#[0xb1]⟩ 1 none ∈ sv_tbl) (hfr : 1 ≤ fr) (hlo : 20 ≤ lo) (hst : (st.map fun v => v.category).sum ≤ 8) (d : decode cc pc = .ok (.invokespecial idx, 3))
    (h : sv_AW x Q F g cs sl (pc + 3) lv st) : sv_AW x Q F g cs sl pc lv (.ref a :: st) := by
  obtain ⟨p, l, e, R, s, m, args, below, meth, c, D, AK, xt', b'⟩ := x
  obtain ⟨hx, hb, hml, hown, hts, hK, hlk, hbs, hE, rfl, rfl⟩ := G
  obtain ⟨r1, r2, r3, r4⟩ := RR
  intro H locs ls hH hS hl
  exact W.objInit hx hb hown (hts _ w1) (hts _ w2) (hts _ w3) rfl hl.1 rfl d (Nat.le_trans hfr r1) (by show 2 * 0 + _ + 12 ≤ _; omega) (h H locs ls hH hS hl)
theorem sv_min (G : sv_G x b xt own cc nL) (RR : sv_R x fr lo mc ms) {idx : Nat} {y z : Int32} (w1 : Cond.methodLink own idx Lib.Math.min.name ∈ sv_tbl) (w2 : Cond.static Lib.Math.min.name ∈ sv_tbl) (w3 : Cond.initialized "java/lang/Math" ∈ sv_tbl) (w4 : Cond.code Lib.Math.min.name Lib.Math.min.code 2 (some .int) ∈ sv_tbl) (hfr : 1 ≤ fr) (hlo : 21 ≤ lo) (hst : (st.map fun v => v.category).sum ≤ 8) (hm : cs ≤ mc ∧ sl ≤ ms) (d : decode cc pc = .ok (.invokestatic idx, 3))
    (h : sv_AW x Q F g cs sl (pc + 3) lv (.int (if z < y then z else y) :: st)) : sv_AW x Q F g cs sl pc lv (.int z :: .int y :: st) := by
  obtain ⟨p, l, e, R, s, m, args, below, meth, c, D, AK, xt', b'⟩ := x
  obtain ⟨hx, hb, hml, hown, hts, hK, hlk, hbs, hE, rfl, rfl⟩ := G
  obtain ⟨r1, r2, r3, r4⟩ := RR
  intro H locs ls hH hS hl
  exact va_mmin hx hb hl.1.symm hown (hts _ w1) (hts _ w2) (hts _ w3) (hts _ w4) (Nat.le_trans hfr r1) (by omega) (Nat.le_trans hm.1 r3) (Nat.le_trans hm.2 r4) d (h H locs ls hH hS hl)
theorem sv_max (G : sv_G x b xt own cc nL) (RR : sv_R x fr lo mc ms) {idx : Nat} {y z : Int32} (w1 : Cond.methodLink own idx Lib.Math.max.name ∈ sv_tbl) (w2 : Cond.static Lib.Math.max.name ∈ sv_tbl) (w3 : Cond.initialized "java/lang/Math" ∈ sv_tbl) (w4 : Cond.code Lib.Math.max.name Lib.Math.max.code 2 (some .int) ∈ sv_tbl) (hfr : 1 ≤ fr) (hlo : 21 ≤ lo) (hst : (st.map fun v => v.category).sum ≤ 8) (hm : cs ≤ mc ∧ sl ≤ ms) (d : decode cc pc = .ok (.invokestatic idx, 3))
    (h : sv_AW x Q F g cs sl (pc + 3) lv (.int (if y < z then z else y) :: st)) : sv_AW x Q F g cs sl pc lv (.int z :: .int y :: st) := by
  obtain ⟨p, l, e, R, s, m, args, below, meth, c, D, AK, xt', b'⟩ := x
  obtain ⟨hx, hb, hml, hown, hts, hK, hlk, hbs, hE, rfl, rfl⟩ := G
  obtain ⟨r1, r2, r3, r4⟩ := RR
  intro H locs ls hH hS hl
  exact va_mmax hx hb hl.1.symm hown (hts _ w1) (hts _ w2) (hts _ w3) (hts _ w4) (Nat.le_trans hfr r1) (by omega) (Nat.le_trans hm.1 r3) (Nat.le_trans hm.2 r4) d (h H locs ls hH hS hl)
theorem sv_abs (G : sv_G x b xt own cc nL) (RR : sv_R x fr lo mc ms) {idx : Nat} {y : Int32} (w1 : Cond.methodLink own idx Lib.Math.abs.name ∈ sv_tbl) (w2 : Cond.static Lib.Math.abs.name ∈ sv_tbl) (w3 : Cond.initialized "java/lang/Math" ∈ sv_tbl) (w4 : Cond.code Lib.Math.abs.name Lib.Math.abs.code 1 (some .int) ∈ sv_tbl) (hfr : 1 ≤ fr) (hlo : 21 ≤ lo) (hst : (st.map fun v => v.category).sum ≤ 8) (hm : cs ≤ mc ∧ sl ≤ ms) (d : decode cc pc = .ok (.invokestatic idx, 3))
    (h : sv_AW x Q F g cs sl (pc + 3) lv (.int (if 0 ≤ y then y else 0 - y) :: st)) : sv_AW x Q F g cs sl pc lv (.int y :: st) := by
  obtain ⟨p, l, e, R, s, m, args, below, meth, c, D, AK, xt', b'⟩ := x
  obtain ⟨hx, hb, hml, hown, hts, hK, hlk, hbs, hE, rfl, rfl⟩ := G
  obtain ⟨r1, r2, r3, r4⟩ := RR
  intro H locs ls hH hS hl
  exact va_mabs hx hb hl.1.symm hown (hts _ w1) (hts _ w2) (hts _ w3) (hts _ w4) (Nat.le_trans hfr r1) (by omega) (Nat.le_trans hm.1 r3) (Nat.le_trans hm.2 r4) d (h H locs ls hH hS hl)
/-- where a method's walk must end -/
def sv_Q (x : sv_X) (QQ : Option Value → sv_Fr → sv_Mg → Prop) (mc ms : Nat) : State → Prop := match x with
  | (_, _, _, _, s, _, args, below, _, _, D, AK, _, b) => MQ below (sv_QC D AK b QQ) args s mc ms (sv_A b)
def sv_RT (x : sv_X) (rt : Option FieldType) : Prop := match x with
  | (_, _, _, _, _, _, _, _, meth, _, _, _, _, _) => meth.sig.returnType = rt
def sv_NM (x : sv_X) (nm : String) : Prop := match x with
  | (_, _, _, _, _, _, _, _, meth, _, _, _, _, _) => meth.name = nm
theorem sv_ireturn (G : sv_G x b xt own cc nL) {QQ : Option Value → sv_Fr → sv_Mg → Prop} {v : Int32} (T : sv_RT x (some .int)) (hm : cs ≤ mc ∧ sl ≤ ms) (d : decode cc pc = .ok (.ireturn, 1)) (h : QQ (some (.int v)) F g) : sv_AW x (sv_Q x QQ mc ms) F g cs sl pc lv [.int v] := by
  obtain ⟨p, l, e, R, s, m, args, below, meth, c, D, AK, xt', b'⟩ := x
  obtain ⟨hx, hb, hml, hown, hts, hK, hlk, hbs, hE, rfl, rfl⟩ := G
  intro H locs ls hH hS hl
  exact W.widen hm.1 hm.2 (W.iret (v := v) hx hb T (fun t ht hW => ⟨⟨_, F, g, rfl, h, by rw [ht]; exact hH⟩, hS.F ht⟩) hS.2.2 d hlk)
theorem sv_zreturn (G : sv_G x b xt own cc nL) {QQ : Option Value → sv_Fr → sv_Mg → Prop} {v : Int32} (T : sv_RT x (some .boolean)) (hv : v = 0 ∨ v = 1) (hm : cs ≤ mc ∧ sl ≤ ms) (d : decode cc pc = .ok (.ireturn, 1)) (h : QQ (some (.int v)) F g) : sv_AW x (sv_Q x QQ mc ms) F g cs sl pc lv [.int v] := by
  obtain ⟨p, l, e, R, s, m, args, below, meth, c, D, AK, xt', b'⟩ := x
  obtain ⟨hx, hb, hml, hown, hts, hK, hlk, hbs, hE, rfl, rfl⟩ := G
  intro H locs ls hH hS hl
  exact W.widen hm.1 hm.2 (W.zret (v := v) hx hb T (by rcases hv with rfl | rfl <;> decide) (fun t ht hW => ⟨⟨_, F, g, rfl, h, by rw [ht]; exact hH⟩, hS.F ht⟩) hS.2.2 d hlk)
theorem sv_creturn (G : sv_G x b xt own cc nL) {QQ : Option Value → sv_Fr → sv_Mg → Prop} {v : Int32} {ty : FieldType} (T : sv_RT x (some ty)) (hv : narrow ty (.int v) = .int v) (hm : cs ≤ mc ∧ sl ≤ ms) (d : decode cc pc = .ok (.ireturn, 1)) (h : QQ (some (.int v)) F g) : sv_AW x (sv_Q x QQ mc ms) F g cs sl pc lv [.int v] := by
  obtain ⟨p, l, e, R, s, m, args, below, meth, c, D, AK, xt', b'⟩ := x
  obtain ⟨hx, hb, hml, hown, hts, hK, hlk, hbs, hE, rfl, rfl⟩ := G
  intro H locs ls hH hS hl
  exact W.widen hm.1 hm.2 (W.zret (v := v) hx hb T hv (fun t ht hW => ⟨⟨_, F, g, rfl, h, by rw [ht]; exact hH⟩, hS.F ht⟩) hS.2.2 d hlk)
theorem sv_lreturn (G : sv_G x b xt own cc nL) {QQ : Option Value → sv_Fr → sv_Mg → Prop} {v : Int64} (T : sv_RT x (some .long)) (hm : cs ≤ mc ∧ sl ≤ ms) (d : decode cc pc = .ok (.lreturn, 1)) (h : QQ (some (.long v)) F g) : sv_AW x (sv_Q x QQ mc ms) F g cs sl pc lv [.long v] := by
  obtain ⟨p, l, e, R, s, m, args, below, meth, c, D, AK, xt', b'⟩ := x
  obtain ⟨hx, hb, hml, hown, hts, hK, hlk, hbs, hE, rfl, rfl⟩ := G
  intro H locs ls hH hS hl
  exact W.widen hm.1 hm.2 (W.lret (v := v) hx hb T (fun t ht hW => ⟨⟨_, F, g, rfl, h, by rw [ht]; exact hH⟩, hS.F ht⟩) hS.2.2 d hlk)
theorem sv_vreturn (G : sv_G x b xt own cc nL) {QQ : Option Value → sv_Fr → sv_Mg → Prop} (T : sv_RT x none) (hm : cs ≤ mc ∧ sl ≤ ms) (d : decode cc pc = .ok (.return_, 1)) (h : QQ none F g) : sv_AW x (sv_Q x QQ mc ms) F g cs sl pc lv [] := by
  obtain ⟨p, l, e, R, s, m, args, below, meth, c, D, AK, xt', b'⟩ := x
  obtain ⟨hx, hb, hml, hown, hts, hK, hlk, hbs, hE, rfl, rfl⟩ := G
  intro H locs ls hH hS hl
  exact W.widen hm.1 hm.2 (W.vret hx hb T (fun t ht hW => ⟨⟨_, F, g, rfl, h, by rw [ht]; exact hH⟩, hS.F ht⟩) hS.2.2 d hlk)
theorem sv_areturn (G : sv_G x b xt own cc nL) {QQ : Option Value → sv_Fr → sv_Mg → Prop} {a : Nat} {rt : FieldType} (T : sv_RT x (some rt)) (hrt : sv_isR rt = true) (hm : cs ≤ mc ∧ sl ≤ ms) (d : decode cc pc = .ok (.areturn, 1)) (h : QQ (some (.ref a)) F g) : sv_AW x (sv_Q x QQ mc ms) F g cs sl pc lv [.ref a] := by
  obtain ⟨p, l, e, R, s, m, args, below, meth, c, D, AK, xt', b'⟩ := x
  obtain ⟨hx, hb, hml, hown, hts, hK, hlk, hbs, hE, rfl, rfl⟩ := G
  intro H locs ls hH hS hl
  have hrt : (∃ n, rt = .object n) ∨ ∃ t, rt = .array t := by
    cases rt <;> first | exact Or.inl ⟨_, rfl⟩ | exact Or.inr ⟨_, rfl⟩ | cases hrt
  exact W.widen hm.1 hm.2 (W.aret (v := .ref a) hx hb T hrt (Or.inr ⟨a, rfl⟩) (fun t ht hW => ⟨⟨_, F, g, rfl, h, by rw [ht]; exact hH⟩, hS.F ht⟩) hS.2.2 d hlk)
/-- a contract out of a walk from the entry -/
theorem sv_intro {y : MethodName} {cc : ByteArray} {nL n : Nat} {rt : Option FieldType} (mw : sv_MW y cc nL rt n) {avs : List Value} {QQ : Option Value → sv_Fr → sv_Mg → Prop} (lv0 : List (Nat × Value)) (hlv : lv_args 0 avs = lv0) (hlen : (lg_sl avs).length ≤ nL)
    (body : ∀ x : sv_X, sv_G x b xt y.cls cc nL → sv_R x fr lo mc ms → sv_RT x rt → sv_NM x y.name → sv_AW x (sv_Q x QQ mc ms) F g 0 0 0 lv0 []) : sv_Cal y cc nL rt fr lo mc ms b xt avs F g QQ := by
  intro l D AK
  refine Met.ofW (cc := cc) (maxL := nL) (ret := rt) mw.2.2.2 rfl ?_
  intro p e s m args below meth c s₁ B hml hv
  obtain ⟨rfl, hK, hE, hH⟩ := hv
  have hts : ∀ w ∈ (.code y cc nL rt :: sv_tbl), w.before avs.toArray s = true := atoms_spec (ws := .code y cc nL rt :: sv_tbl) B.pre
  have h := body (p, l, e, sv_rm fr lo mc ms, s, m, avs.toArray, below, meth, c, D, AK, xt, b) ⟨B.exec, B.bytes, hml, findClass_of_methodNamed B.named, fun w hw => hts w (List.mem_cons_of_mem _ hw), hK, B.notSynchronized, by rw [hH.2]; exact Nat.le_add_right _ _, hE, rfl, rfl⟩ ⟨Nat.le_refl _, Nat.le_refl _, Nat.le_refl _, Nat.le_refl _⟩ B.returns (name_of_methodNamed B.named B.method).1
  rw [lg_entry_eq]
  exact h s.heap [] _ hH va_S.rf (by rw [hml, ← hlv]; exact lv_entry avs hlen)
end SvCall
/-- what a caller takes from a callee's end -/
def sv_qI (F : sv_Fr) (Q : Int32 → sv_Mg → Prop) : Option Value → sv_Fr → sv_Mg → Prop := fun r F' g' => ∃ v, r = some (.int v) ∧ F' = F ∧ Q v g'
def sv_qL (F : sv_Fr) (Q : Int64 → sv_Mg → Prop) : Option Value → sv_Fr → sv_Mg → Prop := fun r F' g' => ∃ v, r = some (.long v) ∧ F' = F ∧ Q v g'
def sv_qV (F : sv_Fr) (Q : sv_Mg → Prop) : Option Value → sv_Fr → sv_Mg → Prop := fun r F' g' => r = none ∧ F' = F ∧ Q g'
def sv_qN (Q : sv_Fr → sv_Mg → Prop) : Option Value → sv_Fr → sv_Mg → Prop := fun r F' g' => r = none ∧ Q F' g'
def sv_qA (b : Nat) (Q : Nat → sv_Fr → sv_Mg → Prop) : Option Value → sv_Fr → sv_Mg → Prop := fun r F' g' => ∃ a, r = some (.ref (b + a)) ∧ Q a F' g'
