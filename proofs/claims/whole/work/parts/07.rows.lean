def sv_tbl : List Cond := lw_tbl.filter goodWord
theorem sv_in {w : Cond} (i : Nat) (h : lw_tbl[i]? = some w) (hg : goodWord w = true) : w ∈ sv_tbl := List.mem_filter.mpr ⟨List.mem_of_getElem? h, hg⟩
theorem sv_goodIn {w : Cond} (hw : w ∈ sv_tbl) : GoodIn sv_tbl (w :: sv_tbl) := by
  intro v hv
  have h1 : v ∈ sv_tbl := (List.mem_cons.mp hv).elim (fun e => e ▸ hw) id
  exact ⟨h1, good_of_word (List.mem_filter.mp h1).2⟩
abbrev sv_Xt : Type := (Nat → Nat) × (Nat → Nat) × Nat
def sv_nests : List (String × Nat × MethodName × String) := [(RX6, 9, yX2_init, RX6), (RX6, 18, yX3_init, RX6), (RX6, 44, yX4_init, RX6), (RX6, 51, yX5_init, RX6), (RX5, 11, yX4_init, RX6), (RX2, 31, yX6_isWithin, RX6), (RX0, 150, yX6_held, RX6), (RX0, 121, yX6_weight, RX6)]
def sv_strs : List (Nat × String × Nat) := [(92, "sway", 0), (94, "fee", 1), (96, "fine", 2), (98, "frp", 3), (100, "rw", 4), (102, "fw", 5), (137, "!", 6), (139, "(", 7), (144, ")", 8), (104, "|", 9), (106, "&", 10), (108, "<=>", 11), (110, "+-", 12), (112, "*/", 13)]
def sv_len : List Nat := [4, 3, 4, 3, 2, 2, 1, 1, 1, 1, 1, 3, 2, 2]
def sv_byt : List (List Int32) := [[115, 119, 97, 121], [102, 101, 101], [102, 105, 110, 101], [102, 114, 112], [114, 119], [102, 119], [33], [40], [41], [124], [38], [60, 61, 62], [43, 45], [42, 47]]
/-- what stands outside the law's own cells, and never changes -/
def sv_E (b : Nat) (xt : sv_Xt) (U : State) : Prop :=
  (∀ q ∈ sv_nests, va_Nw (.methodLinkNest q.1 q.2.1 q.2.2.1 q.2.2.2) U) ∧ (va_AO RX1 U ∧ va_AO RX4 U ∧ va_AO RX5 U) ∧
  (va_Z RX6 "ABOVE" "[I" (.ref xt.2.2) (sv_A b) U U.heap ∧ va_T .int xt.2.2 6 (fun j => .int (sv_above j)) (sv_A b) U U.heap) ∧
  (vk_S 14 sv_len sv_byt xt.1 xt.2.1 (sv_A b) U U.heap ∧ ∀ q ∈ sv_strs, vk_R RX3 q.1 q.2.1 (xt.1 q.2.2) U) ∧
  va_Z "java/lang/String" "COMPACT_STRINGS" "Z" (.int 1) (sv_A b) U U.heap ∧
  ∃ o : Option Nat, va_Z "jdk/internal/util/Preconditions" "SIOOBE_FORMATTER" "Ljava/util/function/BiFunction;" (va_rf o) (sv_A b) U U.heap
theorem sv_E.go {b : Nat} {xt : sv_Xt} {s U : State} (h : sv_E b xt s) (hW : s.WarmedH U.vm) (hq : ∀ a : Nat, a < s.heap.size → ¬ sv_A b a → U.heap[a]? = s.heap[a]?) : sv_E b xt U := by
  obtain ⟨h1, ⟨h2, h3, h4⟩, ⟨h5, h6⟩, ⟨h7, h8⟩, h9, o, h10⟩ := h
  exact ⟨fun q m => va_Nw.warmM hW (h1 q m), ⟨h2.moved hW.alike, h3.moved hW.alike, h4.moved hW.alike⟩, ⟨(h5.moved hW.alike).kept hq, (h6.moved hW.alike).kept hq⟩, ⟨(h7.moved hW.alike).kept hq, fun q m => (h8 q m).warm hW⟩, (h9.moved hW.alike).kept hq, o, (h10.moved hW.alike).kept hq⟩
theorem sv_E.same {b : Nat} {xt : sv_Xt} {s U : State} (h : sv_E b xt s) (hv : U.vm = s.vm) (hh : U.heap = s.heap) : sv_E b xt U := by
  obtain ⟨h1, ⟨h2, h3, h4⟩, ⟨h5, h6⟩, ⟨h7, h8⟩, h9, o, h10⟩ := h
  have ha : s.vm.Alike U.vm := by rw [hv]; exact Vm.Alike.refl _
  rw [sv_E, hh]
  exact ⟨fun q m => va_Nw.same rfl hv.symm (h1 q m), ⟨h2.moved ha, h3.moved ha, h4.moved ha⟩, ⟨h5.moved ha, h6.moved ha⟩, ⟨h7.moved ha, fun q m => (h8 q m).same hv⟩, h9.moved ha, o, h10.moved ha⟩
/-- a method's walk: the machine, the method, where its cells lie -/
abbrev sv_X : Type := Program × Launch × Env × Room × State × MethodId × Array Value × List Frame × Method × Code × va_G × (Nat → ClassId) × sv_Xt × Nat
def sv_AW (x : sv_X) (Q : State → Prop) (F : sv_Fr) (g : sv_Mg) (cs sl pc : Nat) (lv : List (Nat × Value)) (st : List Value) : Prop := match x with
  | (p, l, e, R, s, m, args, below, meth, c, D, AK, _, b) => ∀ (H : Heap) (locs : List Loc) (ls : Array Slot), sv_H D AK b F g H → va_S (sv_A b) s.heap H locs → lv_has ls c.maxLocals lv → W p l e R s m args below meth c H locs cs sl Q (F0 m pc ls st)
/-- what a walk stands on -/
def sv_G (x : sv_X) (b : Nat) (xt : sv_Xt) (own : String) (cc : ByteArray) (nL : Nat) : Prop := match x with
  | (p, _, _, _, s, m, args, _, meth, c, D, AK, xt', b') => p.tables.exec = Jvm.exec ∧ c.code = cc ∧ c.maxLocals = nL ∧ s.vm.findClass own = some m.cls ∧ (∀ w ∈ sv_tbl, w.before args s = true) ∧ va_K D vwCl (sv_tys AK) s ∧ meth.locks = false ∧ b ≤ s.heap.size ∧ sv_E b xt s ∧ b' = b ∧ xt' = xt
/-- the room that is left -/
def sv_R (x : sv_X) (fr lo mc ms : Nat) : Prop := match x with
  | (_, _, _, R, _, _, _, _, _, _, _, _, _, _) => fr ≤ R.frames ∧ lo ≤ R.locals ∧ mc ≤ R.cells ∧ ms ≤ R.slots
section SvRows
variable {x : sv_X} {Q : State → Prop} {F : sv_Fr} {g : sv_Mg} {cs sl pc b nL : Nat} {xt : sv_Xt} {lv : List (Nat × Value)} {st : List Value} {own : String} {cc : ByteArray}
theorem sv_iconst (G : sv_G x b xt own cc nL) {n : Int} (d : decode cc pc = .ok (.iconst n, 1)) (v : Int32) (hv : Int32.ofInt n = v)
    (h : sv_AW x Q F g cs sl (pc + 1) lv (.int v :: st)) : sv_AW x Q F g cs sl pc lv (st) := by
  obtain ⟨p, l, e, R, s, m, args, below, meth, c, D, AK, xt', b'⟩ := x
  obtain ⟨hx, hb, hml, hown, hts, hK, hlk, hbs, hE, rfl, rfl⟩ := G
  intro H locs ls hH hS hl
  exact lv_iconst hx hb d hv (h H locs ls hH hS hl)
theorem sv_bipush (G : sv_G x b xt own cc nL) {n : Int} (d : decode cc pc = .ok (.bipush n, 2)) (v : Int32) (hv : (Int8.ofInt n).toInt32 = v)
    (h : sv_AW x Q F g cs sl (pc + 2) lv (.int v :: st)) : sv_AW x Q F g cs sl pc lv (st) := by
  obtain ⟨p, l, e, R, s, m, args, below, meth, c, D, AK, xt', b'⟩ := x
  obtain ⟨hx, hb, hml, hown, hts, hK, hlk, hbs, hE, rfl, rfl⟩ := G
  intro H locs ls hH hS hl
  exact lv_bipush hx hb d hv (h H locs ls hH hS hl)
theorem sv_sipush (G : sv_G x b xt own cc nL) {n : Int} (d : decode cc pc = .ok (.sipush n, 3)) (v : Int32) (hv : (Int16.ofInt n).toInt32 = v)
    (h : sv_AW x Q F g cs sl (pc + 3) lv (.int v :: st)) : sv_AW x Q F g cs sl pc lv (st) := by
  obtain ⟨p, l, e, R, s, m, args, below, meth, c, D, AK, xt', b'⟩ := x
  obtain ⟨hx, hb, hml, hown, hts, hK, hlk, hbs, hE, rfl, rfl⟩ := G
  intro H locs ls hH hS hl
  exact lv_sipush hx hb d hv (h H locs ls hH hS hl)
theorem sv_ldc (G : sv_G x b xt own cc nL) {i : Nat} {v : Int32} (d : decode cc pc = .ok (.ldc i, 2)) (hw : Jvm.Cond.constant own i v ∈ sv_tbl)
    (h : sv_AW x Q F g cs sl (pc + 2) lv (.int v :: st)) : sv_AW x Q F g cs sl pc lv (st) := by
  obtain ⟨p, l, e, R, s, m, args, below, meth, c, D, AK, xt', b'⟩ := x
  obtain ⟨hx, hb, hml, hown, hts, hK, hlk, hbs, hE, rfl, rfl⟩ := G
  intro H locs ls hH hS hl
  exact lv_ldc hx hb hown (hts _ hw) d (h H locs ls hH hS hl)
theorem sv_ldcw (G : sv_G x b xt own cc nL) {i : Nat} {v : Int32} (d : decode cc pc = .ok (.ldc_w i, 3)) (hw : Jvm.Cond.constant own i v ∈ sv_tbl)
    (h : sv_AW x Q F g cs sl (pc + 3) lv (.int v :: st)) : sv_AW x Q F g cs sl pc lv (st) := by
  obtain ⟨p, l, e, R, s, m, args, below, meth, c, D, AK, xt', b'⟩ := x
  obtain ⟨hx, hb, hml, hown, hts, hK, hlk, hbs, hE, rfl, rfl⟩ := G
  intro H locs ls hH hS hl
  exact lv_ldcw hx hb hown (hts _ hw) d (h H locs ls hH hS hl)
theorem sv_lconst (G : sv_G x b xt own cc nL) {n : Fin 2} (d : decode cc pc = .ok (.lconst n, 1)) (v : Int64) (hv : Int64.ofNat (n : Nat) = v)
    (h : sv_AW x Q F g cs sl (pc + 1) lv (.long v :: st)) : sv_AW x Q F g cs sl pc lv (st) := by
  obtain ⟨p, l, e, R, s, m, args, below, meth, c, D, AK, xt', b'⟩ := x
  obtain ⟨hx, hb, hml, hown, hts, hK, hlk, hbs, hE, rfl, rfl⟩ := G
  intro H locs ls hH hS hl
  exact lv_lconst hx hb d hv (h H locs ls hH hS hl)
theorem sv_iload_n (G : sv_G x b xt own cc nL) {k : Fin 4} {v : Int32} (d : decode cc pc = .ok (.iload_n k, 1)) (j : Nat) (hj : lv[j]? = some ((k : Nat), .int v))
    (h : sv_AW x Q F g cs sl (pc + 1) lv (.int v :: st)) : sv_AW x Q F g cs sl pc lv (st) := by
  obtain ⟨p, l, e, R, s, m, args, below, meth, c, D, AK, xt', b'⟩ := x
  obtain ⟨hx, hb, hml, hown, hts, hK, hlk, hbs, hE, rfl, rfl⟩ := G
  intro H locs ls hH hS hl
  exact lv_iload_n hx hb d rfl (lv_at hl j hj) (h H locs ls hH hS hl)
theorem sv_iload (G : sv_G x b xt own cc nL) {k : Nat} {v : Int32} (d : decode cc pc = .ok (.iload k, 2)) (j : Nat) (hj : lv[j]? = some (k, .int v))
    (h : sv_AW x Q F g cs sl (pc + 2) lv (.int v :: st)) : sv_AW x Q F g cs sl pc lv (st) := by
  obtain ⟨p, l, e, R, s, m, args, below, meth, c, D, AK, xt', b'⟩ := x
  obtain ⟨hx, hb, hml, hown, hts, hK, hlk, hbs, hE, rfl, rfl⟩ := G
  intro H locs ls hH hS hl
  exact lv_iload hx hb d (lv_at hl j hj) (h H locs ls hH hS hl)
theorem sv_lload_n (G : sv_G x b xt own cc nL) {k : Fin 4} {v : Int64} (d : decode cc pc = .ok (.lload_n k, 1)) (j : Nat) (hj : lv[j]? = some ((k : Nat), .long v))
    (h : sv_AW x Q F g cs sl (pc + 1) lv (.long v :: st)) : sv_AW x Q F g cs sl pc lv (st) := by
  obtain ⟨p, l, e, R, s, m, args, below, meth, c, D, AK, xt', b'⟩ := x
  obtain ⟨hx, hb, hml, hown, hts, hK, hlk, hbs, hE, rfl, rfl⟩ := G
  intro H locs ls hH hS hl
  exact lv_lload_n hx hb d rfl (lv_at hl j hj) (h H locs ls hH hS hl)
theorem sv_lload (G : sv_G x b xt own cc nL) {k : Nat} {v : Int64} (d : decode cc pc = .ok (.lload k, 2)) (j : Nat) (hj : lv[j]? = some (k, .long v))
    (h : sv_AW x Q F g cs sl (pc + 2) lv (.long v :: st)) : sv_AW x Q F g cs sl pc lv (st) := by
  obtain ⟨p, l, e, R, s, m, args, below, meth, c, D, AK, xt', b'⟩ := x
  obtain ⟨hx, hb, hml, hown, hts, hK, hlk, hbs, hE, rfl, rfl⟩ := G
  intro H locs ls hH hS hl
  exact lv_lload hx hb d (lv_at hl j hj) (h H locs ls hH hS hl)
theorem sv_aload_n (G : sv_G x b xt own cc nL) {k : Fin 4} {v : Nat} (d : decode cc pc = .ok (.aload_n k, 1)) (j : Nat) (hj : lv[j]? = some ((k : Nat), .ref v))
    (h : sv_AW x Q F g cs sl (pc + 1) lv (.ref v :: st)) : sv_AW x Q F g cs sl pc lv (st) := by
  obtain ⟨p, l, e, R, s, m, args, below, meth, c, D, AK, xt', b'⟩ := x
  obtain ⟨hx, hb, hml, hown, hts, hK, hlk, hbs, hE, rfl, rfl⟩ := G
  intro H locs ls hH hS hl
  exact lv_aload_n hx hb d rfl (lv_at hl j hj) (h H locs ls hH hS hl)
theorem sv_aload (G : sv_G x b xt own cc nL) {k : Nat} {v : Nat} (d : decode cc pc = .ok (.aload k, 2)) (j : Nat) (hj : lv[j]? = some (k, .ref v))
    (h : sv_AW x Q F g cs sl (pc + 2) lv (.ref v :: st)) : sv_AW x Q F g cs sl pc lv (st) := by
  obtain ⟨p, l, e, R, s, m, args, below, meth, c, D, AK, xt', b'⟩ := x
  obtain ⟨hx, hb, hml, hown, hts, hK, hlk, hbs, hE, rfl, rfl⟩ := G
  intro H locs ls hH hS hl
  exact lv_aload hx hb d (lv_at hl j hj) (h H locs ls hH hS hl)
theorem sv_istore_n (G : sv_G x b xt own cc nL) {k : Fin 4} {v : Int32} (d : decode cc pc = .ok (.istore_n k, 1)) (lv' : List (Nat × Value)) (hn : (k : Nat) < nL) (hlv : ((k : Nat), Value.int v) :: lv.filter (fun q => !(q.1 == (k : Nat)) && !(q.1 + 1 == (k : Nat) && q.2.category == 2)) = lv')
    (h : sv_AW x Q F g cs sl (pc + 1) lv' (st)) : sv_AW x Q F g cs sl pc lv (.int v :: st) := by
  obtain ⟨p, l, e, R, s, m, args, below, meth, c, D, AK, xt', b'⟩ := x
  obtain ⟨hx, hb, hml, hown, hts, hK, hlk, hbs, hE, rfl, rfl⟩ := G
  intro H locs ls hH hS hl
  exact lv_istore_n hx hb d rfl hl (by rw [hml]; exact hn) hlv (fun ls hl => (h H locs ls hH hS hl))
theorem sv_istore (G : sv_G x b xt own cc nL) {k : Nat} {v : Int32} (d : decode cc pc = .ok (.istore k, 2)) (lv' : List (Nat × Value)) (hn : k < nL) (hlv : (k, Value.int v) :: lv.filter (fun q => !(q.1 == k) && !(q.1 + 1 == k && q.2.category == 2)) = lv')
    (h : sv_AW x Q F g cs sl (pc + 2) lv' (st)) : sv_AW x Q F g cs sl pc lv (.int v :: st) := by
  obtain ⟨p, l, e, R, s, m, args, below, meth, c, D, AK, xt', b'⟩ := x
  obtain ⟨hx, hb, hml, hown, hts, hK, hlk, hbs, hE, rfl, rfl⟩ := G
  intro H locs ls hH hS hl
  exact lv_istore hx hb d hl (by rw [hml]; exact hn) hlv (fun ls hl => (h H locs ls hH hS hl))
theorem sv_lstore_n (G : sv_G x b xt own cc nL) {k : Fin 4} {v : Int64} (d : decode cc pc = .ok (.lstore_n k, 1)) (lv' : List (Nat × Value)) (hn : (k : Nat) + 1 < nL) (hlv : ((k : Nat), Value.long v) :: lv.filter (fun q => !(q.1 == (k : Nat)) && (!(q.1 == (k : Nat) + 1) && !(q.1 + 1 == (k : Nat) && q.2.category == 2))) = lv')
    (h : sv_AW x Q F g cs sl (pc + 1) lv' (st)) : sv_AW x Q F g cs sl pc lv (.long v :: st) := by
  obtain ⟨p, l, e, R, s, m, args, below, meth, c, D, AK, xt', b'⟩ := x
  obtain ⟨hx, hb, hml, hown, hts, hK, hlk, hbs, hE, rfl, rfl⟩ := G
  intro H locs ls hH hS hl
  exact lv_lstore_n hx hb d rfl hl (by rw [hml]; exact hn) hlv (fun ls hl => (h H locs ls hH hS hl))
theorem sv_lstore (G : sv_G x b xt own cc nL) {k : Nat} {v : Int64} (d : decode cc pc = .ok (.lstore k, 2)) (lv' : List (Nat × Value)) (hn : k + 1 < nL) (hlv : (k, Value.long v) :: lv.filter (fun q => !(q.1 == k) && (!(q.1 == k + 1) && !(q.1 + 1 == k && q.2.category == 2))) = lv')
    (h : sv_AW x Q F g cs sl (pc + 2) lv' (st)) : sv_AW x Q F g cs sl pc lv (.long v :: st) := by
  obtain ⟨p, l, e, R, s, m, args, below, meth, c, D, AK, xt', b'⟩ := x
  obtain ⟨hx, hb, hml, hown, hts, hK, hlk, hbs, hE, rfl, rfl⟩ := G
  intro H locs ls hH hS hl
  exact lv_lstore hx hb d hl (by rw [hml]; exact hn) hlv (fun ls hl => (h H locs ls hH hS hl))
theorem sv_astore_n (G : sv_G x b xt own cc nL) {k : Fin 4} {v : Nat} (d : decode cc pc = .ok (.astore_n k, 1)) (lv' : List (Nat × Value)) (hn : (k : Nat) < nL) (hlv : ((k : Nat), Value.ref v) :: lv.filter (fun q => !(q.1 == (k : Nat)) && !(q.1 + 1 == (k : Nat) && q.2.category == 2)) = lv')
    (h : sv_AW x Q F g cs sl (pc + 1) lv' (st)) : sv_AW x Q F g cs sl pc lv (.ref v :: st) := by
  obtain ⟨p, l, e, R, s, m, args, below, meth, c, D, AK, xt', b'⟩ := x
  obtain ⟨hx, hb, hml, hown, hts, hK, hlk, hbs, hE, rfl, rfl⟩ := G
  intro H locs ls hH hS hl
  exact lv_astore_n hx hb d rfl hl (by rw [hml]; exact hn) hlv (fun ls hl => (h H locs ls hH hS hl))
theorem sv_astore (G : sv_G x b xt own cc nL) {k : Nat} {v : Nat} (d : decode cc pc = .ok (.astore k, 2)) (lv' : List (Nat × Value)) (hn : k < nL) (hlv : (k, Value.ref v) :: lv.filter (fun q => !(q.1 == k) && !(q.1 + 1 == k && q.2.category == 2)) = lv')
    (h : sv_AW x Q F g cs sl (pc + 2) lv' (st)) : sv_AW x Q F g cs sl pc lv (.ref v :: st) := by
  obtain ⟨p, l, e, R, s, m, args, below, meth, c, D, AK, xt', b'⟩ := x
  obtain ⟨hx, hb, hml, hown, hts, hK, hlk, hbs, hE, rfl, rfl⟩ := G
  intro H locs ls hH hS hl
  exact lv_astore hx hb d hl (by rw [hml]; exact hn) hlv (fun ls hl => (h H locs ls hH hS hl))
theorem sv_iinc (G : sv_G x b xt own cc nL) {k : Nat} {n : Int} {y : Int32} (d : decode cc pc = .ok (.iinc k n, 3)) (j : Nat) (v : Int32) (lv' : List (Nat × Value)) (hv : v = y + Int32.ofInt n) (hj : lv[j]? = some (k, .int y)) (hn : k < nL) (hlv : (k, Value.int v) :: lv.filter (fun q => !(q.1 == k) && !(q.1 + 1 == k && q.2.category == 2)) = lv')
    (h : sv_AW x Q F g cs sl (pc + 3) lv' st) : sv_AW x Q F g cs sl pc lv st := by
  obtain ⟨p, l, e, R, s, m, args, below, meth, c, D, AK, xt', b'⟩ := x
  obtain ⟨hx, hb, hml, hown, hts, hK, hlk, hbs, hE, rfl, rfl⟩ := G
  intro H locs ls hH hS hl
  exact lv_iinc hx hb d hl hj hv.symm (by rw [hml]; exact hn) hlv (fun ls hl => (h H locs ls hH hS hl))
theorem sv_iadd (G : sv_G x b xt own cc nL) {y z : Int32} (d : decode cc pc = .ok (.iadd, 1)) 
    (h : sv_AW x Q F g cs sl (pc + 1) lv (.int (y + z) :: st)) : sv_AW x Q F g cs sl pc lv (.int z :: .int y :: st) := by
  obtain ⟨p, l, e, R, s, m, args, below, meth, c, D, AK, xt', b'⟩ := x
  obtain ⟨hx, hb, hml, hown, hts, hK, hlk, hbs, hE, rfl, rfl⟩ := G
  intro H locs ls hH hS hl
  exact lv_iadd hx hb d (h H locs ls hH hS hl)
theorem sv_isub (G : sv_G x b xt own cc nL) {y z : Int32} (d : decode cc pc = .ok (.isub, 1)) 
    (h : sv_AW x Q F g cs sl (pc + 1) lv (.int (y - z) :: st)) : sv_AW x Q F g cs sl pc lv (.int z :: .int y :: st) := by
  obtain ⟨p, l, e, R, s, m, args, below, meth, c, D, AK, xt', b'⟩ := x
  obtain ⟨hx, hb, hml, hown, hts, hK, hlk, hbs, hE, rfl, rfl⟩ := G
  intro H locs ls hH hS hl
  exact lv_isub hx hb d (h H locs ls hH hS hl)
theorem sv_imul (G : sv_G x b xt own cc nL) {y z : Int32} (d : decode cc pc = .ok (.imul, 1)) 
    (h : sv_AW x Q F g cs sl (pc + 1) lv (.int (y * z) :: st)) : sv_AW x Q F g cs sl pc lv (.int z :: .int y :: st) := by
  obtain ⟨p, l, e, R, s, m, args, below, meth, c, D, AK, xt', b'⟩ := x
  obtain ⟨hx, hb, hml, hown, hts, hK, hlk, hbs, hE, rfl, rfl⟩ := G
  intro H locs ls hH hS hl
  exact lv_imul hx hb d (h H locs ls hH hS hl)
theorem sv_iand (G : sv_G x b xt own cc nL) {y z : Int32} (d : decode cc pc = .ok (.iand, 1)) 
    (h : sv_AW x Q F g cs sl (pc + 1) lv (.int (y &&& z) :: st)) : sv_AW x Q F g cs sl pc lv (.int z :: .int y :: st) := by
  obtain ⟨p, l, e, R, s, m, args, below, meth, c, D, AK, xt', b'⟩ := x
  obtain ⟨hx, hb, hml, hown, hts, hK, hlk, hbs, hE, rfl, rfl⟩ := G
  intro H locs ls hH hS hl
  exact lv_iand hx hb d (h H locs ls hH hS hl)
theorem sv_ior (G : sv_G x b xt own cc nL) {y z : Int32} (d : decode cc pc = .ok (.ior, 1)) 
    (h : sv_AW x Q F g cs sl (pc + 1) lv (.int (y ||| z) :: st)) : sv_AW x Q F g cs sl pc lv (.int z :: .int y :: st) := by
  obtain ⟨p, l, e, R, s, m, args, below, meth, c, D, AK, xt', b'⟩ := x
  obtain ⟨hx, hb, hml, hown, hts, hK, hlk, hbs, hE, rfl, rfl⟩ := G
  intro H locs ls hH hS hl
  exact lv_ior hx hb d (h H locs ls hH hS hl)
theorem sv_ixor (G : sv_G x b xt own cc nL) {y z : Int32} (d : decode cc pc = .ok (.ixor, 1)) 
    (h : sv_AW x Q F g cs sl (pc + 1) lv (.int (y ^^^ z) :: st)) : sv_AW x Q F g cs sl pc lv (.int z :: .int y :: st) := by
  obtain ⟨p, l, e, R, s, m, args, below, meth, c, D, AK, xt', b'⟩ := x
  obtain ⟨hx, hb, hml, hown, hts, hK, hlk, hbs, hE, rfl, rfl⟩ := G
  intro H locs ls hH hS hl
  exact lv_ixor hx hb d (h H locs ls hH hS hl)
theorem sv_ishl (G : sv_G x b xt own cc nL) {y z : Int32} (d : decode cc pc = .ok (.ishl, 1)) 
    (h : sv_AW x Q F g cs sl (pc + 1) lv (.int (y <<< (z &&& 31)) :: st)) : sv_AW x Q F g cs sl pc lv (.int z :: .int y :: st) := by
  obtain ⟨p, l, e, R, s, m, args, below, meth, c, D, AK, xt', b'⟩ := x
  obtain ⟨hx, hb, hml, hown, hts, hK, hlk, hbs, hE, rfl, rfl⟩ := G
  intro H locs ls hH hS hl
  exact lv_ishl hx hb d (h H locs ls hH hS hl)
theorem sv_ishr (G : sv_G x b xt own cc nL) {y z : Int32} (d : decode cc pc = .ok (.ishr, 1)) 
    (h : sv_AW x Q F g cs sl (pc + 1) lv (.int (y >>> (z &&& 31)) :: st)) : sv_AW x Q F g cs sl pc lv (.int z :: .int y :: st) := by
  obtain ⟨p, l, e, R, s, m, args, below, meth, c, D, AK, xt', b'⟩ := x
  obtain ⟨hx, hb, hml, hown, hts, hK, hlk, hbs, hE, rfl, rfl⟩ := G
  intro H locs ls hH hS hl
  exact lv_ishr hx hb d (h H locs ls hH hS hl)
theorem sv_iushr (G : sv_G x b xt own cc nL) {y z : Int32} (d : decode cc pc = .ok (.iushr, 1)) 
    (h : sv_AW x Q F g cs sl (pc + 1) lv (.int (y.toUInt32 >>> (z.toUInt32 &&& Int32.toUInt32 31)).toInt32 :: st)) : sv_AW x Q F g cs sl pc lv (.int z :: .int y :: st) := by
  obtain ⟨p, l, e, R, s, m, args, below, meth, c, D, AK, xt', b'⟩ := x
  obtain ⟨hx, hb, hml, hown, hts, hK, hlk, hbs, hE, rfl, rfl⟩ := G
  intro H locs ls hH hS hl
  exact lv_iushr hx hb d rfl (h H locs ls hH hS hl)
theorem sv_idiv (G : sv_G x b xt own cc nL) {y z : Int32} (d : decode cc pc = .ok (.idiv, 1)) (hne : ¬ z = 0)
    (h : sv_AW x Q F g cs sl (pc + 1) lv (.int (y / z) :: st)) : sv_AW x Q F g cs sl pc lv (.int z :: .int y :: st) := by
  obtain ⟨p, l, e, R, s, m, args, below, meth, c, D, AK, xt', b'⟩ := x
  obtain ⟨hx, hb, hml, hown, hts, hK, hlk, hbs, hE, rfl, rfl⟩ := G
  intro H locs ls hH hS hl
  exact lv_idiv hx hb d hne (h H locs ls hH hS hl)
theorem sv_irem (G : sv_G x b xt own cc nL) {y z : Int32} (d : decode cc pc = .ok (.irem, 1)) (hne : ¬ z = 0)
    (h : sv_AW x Q F g cs sl (pc + 1) lv (.int (y - y / z * z) :: st)) : sv_AW x Q F g cs sl pc lv (.int z :: .int y :: st) := by
  obtain ⟨p, l, e, R, s, m, args, below, meth, c, D, AK, xt', b'⟩ := x
  obtain ⟨hx, hb, hml, hown, hts, hK, hlk, hbs, hE, rfl, rfl⟩ := G
  intro H locs ls hH hS hl
  exact lv_irem hx hb d hne (h H locs ls hH hS hl)
theorem sv_ladd (G : sv_G x b xt own cc nL) {y z : Int64} (d : decode cc pc = .ok (.ladd, 1)) 
    (h : sv_AW x Q F g cs sl (pc + 1) lv (.long (y + z) :: st)) : sv_AW x Q F g cs sl pc lv (.long z :: .long y :: st) := by
  obtain ⟨p, l, e, R, s, m, args, below, meth, c, D, AK, xt', b'⟩ := x
  obtain ⟨hx, hb, hml, hown, hts, hK, hlk, hbs, hE, rfl, rfl⟩ := G
  intro H locs ls hH hS hl
  exact lv_ladd hx hb d (h H locs ls hH hS hl)
theorem sv_lsub (G : sv_G x b xt own cc nL) {y z : Int64} (d : decode cc pc = .ok (.lsub, 1)) 
    (h : sv_AW x Q F g cs sl (pc + 1) lv (.long (y - z) :: st)) : sv_AW x Q F g cs sl pc lv (.long z :: .long y :: st) := by
  obtain ⟨p, l, e, R, s, m, args, below, meth, c, D, AK, xt', b'⟩ := x
  obtain ⟨hx, hb, hml, hown, hts, hK, hlk, hbs, hE, rfl, rfl⟩ := G
  intro H locs ls hH hS hl
  exact lv_lsub hx hb d (h H locs ls hH hS hl)
theorem sv_lneg (G : sv_G x b xt own cc nL) {y : Int64} (d : decode cc pc = .ok (.lneg, 1)) 
    (h : sv_AW x Q F g cs sl (pc + 1) lv (.long (0 - y) :: st)) : sv_AW x Q F g cs sl pc lv (.long y :: st) := by
  obtain ⟨p, l, e, R, s, m, args, below, meth, c, D, AK, xt', b'⟩ := x
  obtain ⟨hx, hb, hml, hown, hts, hK, hlk, hbs, hE, rfl, rfl⟩ := G
  intro H locs ls hH hS hl
  exact lv_lneg hx hb d (h H locs ls hH hS hl)
theorem sv_lcmp (G : sv_G x b xt own cc nL) {y z : Int64} (d : decode cc pc = .ok (.lcmp, 1)) 
    (h : sv_AW x Q F g cs sl (pc + 1) lv (.int (lg_cmp y z) :: st)) : sv_AW x Q F g cs sl pc lv (.long z :: .long y :: st) := by
  obtain ⟨p, l, e, R, s, m, args, below, meth, c, D, AK, xt', b'⟩ := x
  obtain ⟨hx, hb, hml, hown, hts, hK, hlk, hbs, hE, rfl, rfl⟩ := G
  intro H locs ls hH hS hl
  exact W.lcmp hx hb d (h H locs ls hH hS hl)
theorem sv_i2l (G : sv_G x b xt own cc nL) {y : Int32} (d : decode cc pc = .ok (.i2l, 1)) 
    (h : sv_AW x Q F g cs sl (pc + 1) lv (.long y.toInt64 :: st)) : sv_AW x Q F g cs sl pc lv (.int y :: st) := by
  obtain ⟨p, l, e, R, s, m, args, below, meth, c, D, AK, xt', b'⟩ := x
  obtain ⟨hx, hb, hml, hown, hts, hK, hlk, hbs, hE, rfl, rfl⟩ := G
  intro H locs ls hH hS hl
  exact lv_i2l hx hb d rfl (h H locs ls hH hS hl)
theorem sv_l2i (G : sv_G x b xt own cc nL) {y : Int64} (d : decode cc pc = .ok (.l2i, 1)) 
    (h : sv_AW x Q F g cs sl (pc + 1) lv (.int y.toInt32 :: st)) : sv_AW x Q F g cs sl pc lv (.long y :: st) := by
  obtain ⟨p, l, e, R, s, m, args, below, meth, c, D, AK, xt', b'⟩ := x
  obtain ⟨hx, hb, hml, hown, hts, hK, hlk, hbs, hE, rfl, rfl⟩ := G
  intro H locs ls hH hS hl
  exact lv_l2i hx hb d rfl (h H locs ls hH hS hl)
theorem sv_i2s (G : sv_G x b xt own cc nL) {y : Int32} (d : decode cc pc = .ok (.i2s, 1)) 
    (h : sv_AW x Q F g cs sl (pc + 1) lv (.int y.toInt16.toInt32 :: st)) : sv_AW x Q F g cs sl pc lv (.int y :: st) := by
  obtain ⟨p, l, e, R, s, m, args, below, meth, c, D, AK, xt', b'⟩ := x
  obtain ⟨hx, hb, hml, hown, hts, hK, hlk, hbs, hE, rfl, rfl⟩ := G
  intro H locs ls hH hS hl
  exact lv_i2s hx hb d rfl (h H locs ls hH hS hl)
theorem sv_i2c (G : sv_G x b xt own cc nL) {y : Int32} (d : decode cc pc = .ok (.i2c, 1)) 
    (h : sv_AW x Q F g cs sl (pc + 1) lv (.int (y.toUInt32 % 65536).toInt32 :: st)) : sv_AW x Q F g cs sl pc lv (.int y :: st) := by
  obtain ⟨p, l, e, R, s, m, args, below, meth, c, D, AK, xt', b'⟩ := x
  obtain ⟨hx, hb, hml, hown, hts, hK, hlk, hbs, hE, rfl, rfl⟩ := G
  intro H locs ls hH hS hl
  exact lv_i2c hx hb d rfl (h H locs ls hH hS hl)
theorem sv_i2b (G : sv_G x b xt own cc nL) {y : Int32} (d : decode cc pc = .ok (.i2b, 1)) 
    (h : sv_AW x Q F g cs sl (pc + 1) lv (.int y.toInt8.toInt32 :: st)) : sv_AW x Q F g cs sl pc lv (.int y :: st) := by
  obtain ⟨p, l, e, R, s, m, args, below, meth, c, D, AK, xt', b'⟩ := x
  obtain ⟨hx, hb, hml, hown, hts, hK, hlk, hbs, hE, rfl, rfl⟩ := G
  intro H locs ls hH hS hl
  exact lv_i2b hx hb d rfl (h H locs ls hH hS hl)
theorem sv_dup (G : sv_G x b xt own cc nL) {v : Value} (d : decode cc pc = .ok (.dup, 1)) (hc : v.category = 1)
    (h : sv_AW x Q F g cs sl (pc + 1) lv (v :: v :: st)) : sv_AW x Q F g cs sl pc lv (v :: st) := by
  obtain ⟨p, l, e, R, s, m, args, below, meth, c, D, AK, xt', b'⟩ := x
  obtain ⟨hx, hb, hml, hown, hts, hK, hlk, hbs, hE, rfl, rfl⟩ := G
  intro H locs ls hH hS hl
  exact lv_dup hx hb d hc (h H locs ls hH hS hl)
theorem sv_pop (G : sv_G x b xt own cc nL) {v : Value} (d : decode cc pc = .ok (.pop, 1)) (hc : v.category = 1)
    (h : sv_AW x Q F g cs sl (pc + 1) lv (st)) : sv_AW x Q F g cs sl pc lv (v :: st) := by
  obtain ⟨p, l, e, R, s, m, args, below, meth, c, D, AK, xt', b'⟩ := x
  obtain ⟨hx, hb, hml, hown, hts, hK, hlk, hbs, hE, rfl, rfl⟩ := G
  intro H locs ls hH hS hl
  exact lv_pop hx hb d hc (h H locs ls hH hS hl)
theorem sv_dup2 (G : sv_G x b xt own cc nL) {v u : Value} (d : decode cc pc = .ok (.dup2, 1)) (hc : v.category = 1) (hd : u.category = 1)
    (h : sv_AW x Q F g cs sl (pc + 1) lv (v :: u :: v :: u :: st)) : sv_AW x Q F g cs sl pc lv (v :: u :: st) := by
  obtain ⟨p, l, e, R, s, m, args, below, meth, c, D, AK, xt', b'⟩ := x
  obtain ⟨hx, hb, hml, hown, hts, hK, hlk, hbs, hE, rfl, rfl⟩ := G
  intro H locs ls hH hS hl
  exact lv_dup2_11 hx hb d hc hd (h H locs ls hH hS hl)
theorem sv_dup_x1 (G : sv_G x b xt own cc nL) {v u : Value} (d : decode cc pc = .ok (.dup_x1, 1)) (hc : v.category = 1) (hd : u.category = 1)
    (h : sv_AW x Q F g cs sl (pc + 1) lv (v :: u :: v :: st)) : sv_AW x Q F g cs sl pc lv (v :: u :: st) := by
  obtain ⟨p, l, e, R, s, m, args, below, meth, c, D, AK, xt', b'⟩ := x
  obtain ⟨hx, hb, hml, hown, hts, hK, hlk, hbs, hE, rfl, rfl⟩ := G
  intro H locs ls hH hS hl
  exact lv_dup_x1 hx hb d hc hd (h H locs ls hH hS hl)
theorem sv_goto (G : sv_G x b xt own cc nL) {off : Int} (d : decode cc pc = .ok (.goto off, 3)) (t : Nat) (ht : (pc : Int) + off = (t : Int))
    (h : sv_AW x Q F g cs sl t lv (st)) : sv_AW x Q F g cs sl pc lv (st) := by
  obtain ⟨p, l, e, R, s, m, args, below, meth, c, D, AK, xt', b'⟩ := x
  obtain ⟨hx, hb, hml, hown, hts, hK, hlk, hbs, hE, rfl, rfl⟩ := G
  intro H locs ls hH hS hl
  exact lv_goto hx hb d ht (h H locs ls hH hS hl)
theorem sv_if_eq (G : sv_G x b xt own cc nL) {y : Int32} {off : Int} (t : Nat) (ht : (pc : Int) + off = (t : Int)) (d : decode cc pc = .ok (.ifCond .eq off, 3))
    (h1 : y = 0 → sv_AW x Q F g cs sl t lv st) (h2 : ¬ (y = 0) → sv_AW x Q F g cs sl (pc + 3) lv st) : sv_AW x Q F g cs sl pc lv (.int y :: st) := by
  obtain ⟨p, l, e, R, s, m, args, below, meth, c, D, AK, xt', b'⟩ := x
  obtain ⟨hx, hb, hml, hown, hts, hK, hlk, hbs, hE, rfl, rfl⟩ := G
  intro H locs ls hH hS hl
  exact lv_if_eq hx hb d ht (fun q => h1 (by first | exact q | simpa using q) H locs ls hH hS hl) (fun q => h2 (by first | exact q | simpa using q) H locs ls hH hS hl)
theorem sv_ic_eq (G : sv_G x b xt own cc nL) {y z : Int32} {off : Int} (t : Nat) (ht : (pc : Int) + off = (t : Int)) (d : decode cc pc = .ok (.if_icmp .eq off, 3))
    (h1 : y = z → sv_AW x Q F g cs sl t lv st) (h2 : ¬ (y = z) → sv_AW x Q F g cs sl (pc + 3) lv st) : sv_AW x Q F g cs sl pc lv (.int z :: .int y :: st) := by
  obtain ⟨p, l, e, R, s, m, args, below, meth, c, D, AK, xt', b'⟩ := x
  obtain ⟨hx, hb, hml, hown, hts, hK, hlk, hbs, hE, rfl, rfl⟩ := G
  intro H locs ls hH hS hl
  exact lv_icmp_eq hx hb d ht (fun q => h1 (by first | exact q | simpa using q) H locs ls hH hS hl) (fun q => h2 (by first | exact q | simpa using q) H locs ls hH hS hl)
theorem sv_if_ne (G : sv_G x b xt own cc nL) {y : Int32} {off : Int} (t : Nat) (ht : (pc : Int) + off = (t : Int)) (d : decode cc pc = .ok (.ifCond .ne off, 3))
    (h1 : ¬ y = 0 → sv_AW x Q F g cs sl t lv st) (h2 : y = 0 → sv_AW x Q F g cs sl (pc + 3) lv st) : sv_AW x Q F g cs sl pc lv (.int y :: st) := by
  obtain ⟨p, l, e, R, s, m, args, below, meth, c, D, AK, xt', b'⟩ := x
  obtain ⟨hx, hb, hml, hown, hts, hK, hlk, hbs, hE, rfl, rfl⟩ := G
  intro H locs ls hH hS hl
  exact lv_if_ne hx hb d ht (fun q => h1 (by first | exact q | simpa using q) H locs ls hH hS hl) (fun q => h2 (by first | exact q | simpa using q) H locs ls hH hS hl)
theorem sv_ic_ne (G : sv_G x b xt own cc nL) {y z : Int32} {off : Int} (t : Nat) (ht : (pc : Int) + off = (t : Int)) (d : decode cc pc = .ok (.if_icmp .ne off, 3))
    (h1 : ¬ y = z → sv_AW x Q F g cs sl t lv st) (h2 : y = z → sv_AW x Q F g cs sl (pc + 3) lv st) : sv_AW x Q F g cs sl pc lv (.int z :: .int y :: st) := by
  obtain ⟨p, l, e, R, s, m, args, below, meth, c, D, AK, xt', b'⟩ := x
  obtain ⟨hx, hb, hml, hown, hts, hK, hlk, hbs, hE, rfl, rfl⟩ := G
  intro H locs ls hH hS hl
  exact lv_icmp_ne hx hb d ht (fun q => h1 (by first | exact q | simpa using q) H locs ls hH hS hl) (fun q => h2 (by first | exact q | simpa using q) H locs ls hH hS hl)
theorem sv_if_lt (G : sv_G x b xt own cc nL) {y : Int32} {off : Int} (t : Nat) (ht : (pc : Int) + off = (t : Int)) (d : decode cc pc = .ok (.ifCond .lt off, 3))
    (h1 : y < 0 → sv_AW x Q F g cs sl t lv st) (h2 : ¬ (y < 0) → sv_AW x Q F g cs sl (pc + 3) lv st) : sv_AW x Q F g cs sl pc lv (.int y :: st) := by
  obtain ⟨p, l, e, R, s, m, args, below, meth, c, D, AK, xt', b'⟩ := x
  obtain ⟨hx, hb, hml, hown, hts, hK, hlk, hbs, hE, rfl, rfl⟩ := G
  intro H locs ls hH hS hl
  exact lv_if_lt hx hb d ht (fun q => h1 (by first | exact q | simpa using q) H locs ls hH hS hl) (fun q => h2 (by first | exact q | simpa using q) H locs ls hH hS hl)
theorem sv_ic_lt (G : sv_G x b xt own cc nL) {y z : Int32} {off : Int} (t : Nat) (ht : (pc : Int) + off = (t : Int)) (d : decode cc pc = .ok (.if_icmp .lt off, 3))
    (h1 : y < z → sv_AW x Q F g cs sl t lv st) (h2 : ¬ (y < z) → sv_AW x Q F g cs sl (pc + 3) lv st) : sv_AW x Q F g cs sl pc lv (.int z :: .int y :: st) := by
  obtain ⟨p, l, e, R, s, m, args, below, meth, c, D, AK, xt', b'⟩ := x
  obtain ⟨hx, hb, hml, hown, hts, hK, hlk, hbs, hE, rfl, rfl⟩ := G
  intro H locs ls hH hS hl
  exact lv_icmp_lt hx hb d ht (fun q => h1 (by first | exact q | simpa using q) H locs ls hH hS hl) (fun q => h2 (by first | exact q | simpa using q) H locs ls hH hS hl)
theorem sv_if_ge (G : sv_G x b xt own cc nL) {y : Int32} {off : Int} (t : Nat) (ht : (pc : Int) + off = (t : Int)) (d : decode cc pc = .ok (.ifCond .ge off, 3))
    (h1 : 0 ≤ y → sv_AW x Q F g cs sl t lv st) (h2 : ¬ (0 ≤ y) → sv_AW x Q F g cs sl (pc + 3) lv st) : sv_AW x Q F g cs sl pc lv (.int y :: st) := by
  obtain ⟨p, l, e, R, s, m, args, below, meth, c, D, AK, xt', b'⟩ := x
  obtain ⟨hx, hb, hml, hown, hts, hK, hlk, hbs, hE, rfl, rfl⟩ := G
  intro H locs ls hH hS hl
  exact lv_if_ge hx hb d ht (fun q => h1 (by first | exact q | simpa using q) H locs ls hH hS hl) (fun q => h2 (by first | exact q | simpa using q) H locs ls hH hS hl)
theorem sv_ic_ge (G : sv_G x b xt own cc nL) {y z : Int32} {off : Int} (t : Nat) (ht : (pc : Int) + off = (t : Int)) (d : decode cc pc = .ok (.if_icmp .ge off, 3))
    (h1 : z ≤ y → sv_AW x Q F g cs sl t lv st) (h2 : ¬ (z ≤ y) → sv_AW x Q F g cs sl (pc + 3) lv st) : sv_AW x Q F g cs sl pc lv (.int z :: .int y :: st) := by
  obtain ⟨p, l, e, R, s, m, args, below, meth, c, D, AK, xt', b'⟩ := x
  obtain ⟨hx, hb, hml, hown, hts, hK, hlk, hbs, hE, rfl, rfl⟩ := G
  intro H locs ls hH hS hl
  exact lv_icmp_ge hx hb d ht (fun q => h1 (by first | exact q | simpa using q) H locs ls hH hS hl) (fun q => h2 (by first | exact q | simpa using q) H locs ls hH hS hl)
theorem sv_if_gt (G : sv_G x b xt own cc nL) {y : Int32} {off : Int} (t : Nat) (ht : (pc : Int) + off = (t : Int)) (d : decode cc pc = .ok (.ifCond .gt off, 3))
    (h1 : 0 < y → sv_AW x Q F g cs sl t lv st) (h2 : ¬ (0 < y) → sv_AW x Q F g cs sl (pc + 3) lv st) : sv_AW x Q F g cs sl pc lv (.int y :: st) := by
  obtain ⟨p, l, e, R, s, m, args, below, meth, c, D, AK, xt', b'⟩ := x
  obtain ⟨hx, hb, hml, hown, hts, hK, hlk, hbs, hE, rfl, rfl⟩ := G
  intro H locs ls hH hS hl
  exact lv_if_gt hx hb d ht (fun q => h1 (by first | exact q | simpa using q) H locs ls hH hS hl) (fun q => h2 (by first | exact q | simpa using q) H locs ls hH hS hl)
theorem sv_ic_gt (G : sv_G x b xt own cc nL) {y z : Int32} {off : Int} (t : Nat) (ht : (pc : Int) + off = (t : Int)) (d : decode cc pc = .ok (.if_icmp .gt off, 3))
    (h1 : z < y → sv_AW x Q F g cs sl t lv st) (h2 : ¬ (z < y) → sv_AW x Q F g cs sl (pc + 3) lv st) : sv_AW x Q F g cs sl pc lv (.int z :: .int y :: st) := by
  obtain ⟨p, l, e, R, s, m, args, below, meth, c, D, AK, xt', b'⟩ := x
  obtain ⟨hx, hb, hml, hown, hts, hK, hlk, hbs, hE, rfl, rfl⟩ := G
  intro H locs ls hH hS hl
  exact lv_icmp_gt hx hb d ht (fun q => h1 (by first | exact q | simpa using q) H locs ls hH hS hl) (fun q => h2 (by first | exact q | simpa using q) H locs ls hH hS hl)
theorem sv_if_le (G : sv_G x b xt own cc nL) {y : Int32} {off : Int} (t : Nat) (ht : (pc : Int) + off = (t : Int)) (d : decode cc pc = .ok (.ifCond .le off, 3))
    (h1 : y ≤ 0 → sv_AW x Q F g cs sl t lv st) (h2 : ¬ (y ≤ 0) → sv_AW x Q F g cs sl (pc + 3) lv st) : sv_AW x Q F g cs sl pc lv (.int y :: st) := by
  obtain ⟨p, l, e, R, s, m, args, below, meth, c, D, AK, xt', b'⟩ := x
  obtain ⟨hx, hb, hml, hown, hts, hK, hlk, hbs, hE, rfl, rfl⟩ := G
  intro H locs ls hH hS hl
  exact lv_if_le hx hb d ht (fun q => h1 (by first | exact q | simpa using q) H locs ls hH hS hl) (fun q => h2 (by first | exact q | simpa using q) H locs ls hH hS hl)
theorem sv_ic_le (G : sv_G x b xt own cc nL) {y z : Int32} {off : Int} (t : Nat) (ht : (pc : Int) + off = (t : Int)) (d : decode cc pc = .ok (.if_icmp .le off, 3))
    (h1 : y ≤ z → sv_AW x Q F g cs sl t lv st) (h2 : ¬ (y ≤ z) → sv_AW x Q F g cs sl (pc + 3) lv st) : sv_AW x Q F g cs sl pc lv (.int z :: .int y :: st) := by
  obtain ⟨p, l, e, R, s, m, args, below, meth, c, D, AK, xt', b'⟩ := x
  obtain ⟨hx, hb, hml, hown, hts, hK, hlk, hbs, hE, rfl, rfl⟩ := G
  intro H locs ls hH hS hl
  exact lv_icmp_le hx hb d ht (fun q => h1 (by first | exact q | simpa using q) H locs ls hH hS hl) (fun q => h2 (by first | exact q | simpa using q) H locs ls hH hS hl)
theorem sv_ifnn (G : sv_G x b xt own cc nL) {k : Nat} {off : Int} (d : decode cc pc = .ok (.ifnonnull off, 3)) (t : Nat) (ht : (pc : Int) + off = (t : Int))
    (h : sv_AW x Q F g cs sl t lv (st)) : sv_AW x Q F g cs sl pc lv (.ref k :: st) := by
  obtain ⟨p, l, e, R, s, m, args, below, meth, c, D, AK, xt', b'⟩ := x
  obtain ⟨hx, hb, hml, hown, hts, hK, hlk, hbs, hE, rfl, rfl⟩ := G
  intro H locs ls hH hS hl
  exact lv_ifnonnull hx hb d ht (h H locs ls hH hS hl)
theorem sv_ifnnN (G : sv_G x b xt own cc nL) {off : Int} (d : decode cc pc = .ok (.ifnonnull off, 3)) 
    (h : sv_AW x Q F g cs sl (pc + 3) lv (st)) : sv_AW x Q F g cs sl pc lv (.null :: st) := by
  obtain ⟨p, l, e, R, s, m, args, below, meth, c, D, AK, xt', b'⟩ := x
  obtain ⟨hx, hb, hml, hown, hts, hK, hlk, hbs, hE, rfl, rfl⟩ := G
  intro H locs ls hH hS hl
  exact lv_ifnonnullN hx hb d (h H locs ls hH hS hl)
theorem sv_ifnu (G : sv_G x b xt own cc nL) {k : Nat} {off : Int} (d : decode cc pc = .ok (.ifnull off, 3)) 
    (h : sv_AW x Q F g cs sl (pc + 3) lv (st)) : sv_AW x Q F g cs sl pc lv (.ref k :: st) := by
  obtain ⟨p, l, e, R, s, m, args, below, meth, c, D, AK, xt', b'⟩ := x
  obtain ⟨hx, hb, hml, hown, hts, hK, hlk, hbs, hE, rfl, rfl⟩ := G
  intro H locs ls hH hS hl
  exact lv_ifnull hx hb d (h H locs ls hH hS hl)
theorem sv_ifnuN (G : sv_G x b xt own cc nL) {off : Int} (d : decode cc pc = .ok (.ifnull off, 3)) (t : Nat) (ht : (pc : Int) + off = (t : Int))
    (h : sv_AW x Q F g cs sl t lv (st)) : sv_AW x Q F g cs sl pc lv (.null :: st) := by
  obtain ⟨p, l, e, R, s, m, args, below, meth, c, D, AK, xt', b'⟩ := x
  obtain ⟨hx, hb, hml, hown, hts, hK, hlk, hbs, hE, rfl, rfl⟩ := G
  intro H locs ls hH hS hl
  exact lv_ifnullN hx hb d ht (h H locs ls hH hS hl)
theorem sv_null (G : sv_G x b xt own cc nL)  (d : decode cc pc = .ok (.aconst_null, 1)) 
    (h : sv_AW x Q F g cs sl (pc + 1) lv (.null :: st)) : sv_AW x Q F g cs sl pc lv (st) := by
  obtain ⟨p, l, e, R, s, m, args, below, meth, c, D, AK, xt', b'⟩ := x
  obtain ⟨hx, hb, hml, hown, hts, hK, hlk, hbs, hE, rfl, rfl⟩ := G
  intro H locs ls hH hS hl
  exact lv_null hx hb d (h H locs ls hH hS hl)
theorem sv_aload_nN (G : sv_G x b xt own cc nL) {k : Fin 4} (d : decode cc pc = .ok (.aload_n k, 1)) (j : Nat) (hj : lv[j]? = some ((k : Nat), .null))
    (h : sv_AW x Q F g cs sl (pc + 1) lv (.null :: st)) : sv_AW x Q F g cs sl pc lv (st) := by
  obtain ⟨p, l, e, R, s, m, args, below, meth, c, D, AK, xt', b'⟩ := x
  obtain ⟨hx, hb, hml, hown, hts, hK, hlk, hbs, hE, rfl, rfl⟩ := G
  intro H locs ls hH hS hl
  exact lv_aload_nN hx hb d rfl (lv_at hl j hj) (h H locs ls hH hS hl)
theorem sv_aloadN (G : sv_G x b xt own cc nL) {k : Nat} (d : decode cc pc = .ok (.aload k, 2)) (j : Nat) (hj : lv[j]? = some (k, .null))
    (h : sv_AW x Q F g cs sl (pc + 2) lv (.null :: st)) : sv_AW x Q F g cs sl pc lv (st) := by
  obtain ⟨p, l, e, R, s, m, args, below, meth, c, D, AK, xt', b'⟩ := x
  obtain ⟨hx, hb, hml, hown, hts, hK, hlk, hbs, hE, rfl, rfl⟩ := G
  intro H locs ls hH hS hl
  exact lv_aloadN hx hb d (lv_at hl j hj) (h H locs ls hH hS hl)
theorem sv_astore_nN (G : sv_G x b xt own cc nL) {k : Fin 4} (d : decode cc pc = .ok (.astore_n k, 1)) (lv' : List (Nat × Value)) (hn : (k : Nat) < nL) (hlv : ((k : Nat), Value.null) :: lv.filter (fun q => !(q.1 == (k : Nat)) && !(q.1 + 1 == (k : Nat) && q.2.category == 2)) = lv')
    (h : sv_AW x Q F g cs sl (pc + 1) lv' (st)) : sv_AW x Q F g cs sl pc lv (.null :: st) := by
  obtain ⟨p, l, e, R, s, m, args, below, meth, c, D, AK, xt', b'⟩ := x
  obtain ⟨hx, hb, hml, hown, hts, hK, hlk, hbs, hE, rfl, rfl⟩ := G
  intro H locs ls hH hS hl
  exact lv_astore_nN hx hb d rfl hl (by rw [hml]; exact hn) hlv (fun ls hl => (h H locs ls hH hS hl))
theorem sv_astoreN (G : sv_G x b xt own cc nL) {k : Nat} (d : decode cc pc = .ok (.astore k, 2)) (lv' : List (Nat × Value)) (hn : k < nL) (hlv : (k, Value.null) :: lv.filter (fun q => !(q.1 == k) && !(q.1 + 1 == k && q.2.category == 2)) = lv')
    (h : sv_AW x Q F g cs sl (pc + 2) lv' (st)) : sv_AW x Q F g cs sl pc lv (.null :: st) := by
  obtain ⟨p, l, e, R, s, m, args, below, meth, c, D, AK, xt', b'⟩ := x
  obtain ⟨hx, hb, hml, hown, hts, hK, hlk, hbs, hE, rfl, rfl⟩ := G
  intro H locs ls hH hS hl
  exact lv_astoreN hx hb d hl (by rw [hml]; exact hn) hlv (fun ls hl => (h H locs ls hH hS hl))
theorem sv_ldcS (G : sv_G x b xt own cc nL) {i : Nat} {tx : String} {q : Nat} (d : decode cc pc = .ok (.ldc i, 2)) (hw : own = RX3 ∧ (i, tx, q) ∈ sv_strs)
    (h : sv_AW x Q F g cs sl (pc + 2) lv (.ref (xt.1 q) :: st)) : sv_AW x Q F g cs sl pc lv (st) := by
  obtain ⟨p, l, e, R, s, m, args, below, meth, c, D, AK, xt', b'⟩ := x
  obtain ⟨hx, hb, hml, hown, hts, hK, hlk, hbs, hE, rfl, rfl⟩ := G
  intro H locs ls hH hS hl
  exact va_ldcS hx hb hown (by rw [hw.1]; exact hE.2.2.2.1.2 _ hw.2) d (h H locs ls hH hS hl)
theorem sv_gets (G : sv_G x b xt own cc nL) {i : Nat} (d : decode cc pc = .ok (.getstatic i, 3)) (hw : Cond.fieldLink own i RX6 "ABOVE" "[I" ∈ sv_tbl)
    (h : sv_AW x Q F g cs sl (pc + 3) lv (.ref xt.2.2 :: st)) : sv_AW x Q F g cs sl pc lv (st) := by
  obtain ⟨p, l, e, R, s, m, args, below, meth, c, D, AK, xt', b'⟩ := x
  obtain ⟨hx, hb, hml, hown, hts, hK, hlk, hbs, hE, rfl, rfl⟩ := G
  intro H locs ls hH hS hl
  exact va_gets hx hb hE.2.2.1.1 hS hown (hts _ hw) (fun _ h => h) d (h H locs ls hH hS hl)
theorem sv_ialdX (G : sv_G x b xt own cc nL) {i : Int32} (d : decode cc pc = .ok (.iaload, 1)) (hi : vp_in i 6)
    (h : sv_AW x Q F g cs sl (pc + 1) lv (.int (sv_above i.toNatClampNeg) :: st)) : sv_AW x Q F g cs sl pc lv (.int i :: .ref xt.2.2 :: st) := by
  obtain ⟨p, l, e, R, s, m, args, below, meth, c, D, AK, xt', b'⟩ := x
  obtain ⟨hx, hb, hml, hown, hts, hK, hlk, hbs, hE, rfl, rfl⟩ := G
  intro H locs ls hH hS hl
  exact va_ti hx hb hE.2.2.1.2 hS hi rfl d (h H locs ls hH hS hl)
theorem sv_getsC (G : sv_G x b xt own cc nL) {i : Nat} (d : decode cc pc = .ok (.getstatic i, 3)) (hw : Cond.fieldLink own i "java/lang/String" "COMPACT_STRINGS" "Z" ∈ sv_tbl)
    (h : sv_AW x Q F g cs sl (pc + 3) lv (.int 1 :: st)) : sv_AW x Q F g cs sl pc lv (st) := by
  obtain ⟨p, l, e, R, s, m, args, below, meth, c, D, AK, xt', b'⟩ := x
  obtain ⟨hx, hb, hml, hown, hts, hK, hlk, hbs, hE, rfl, rfl⟩ := G
  intro H locs ls hH hS hl
  exact va_gets hx hb hE.2.2.2.2.1 hS hown (hts _ hw) (fun _ h => h) d (h H locs ls hH hS hl)
theorem sv_getsF (G : sv_G x b xt own cc nL) {i : Nat} (d : decode cc pc = .ok (.getstatic i, 3)) (hw : Cond.fieldLink own i "jdk/internal/util/Preconditions" "SIOOBE_FORMATTER" "Ljava/util/function/BiFunction;" ∈ sv_tbl) (h : ∀ o : Option Nat, sv_AW x Q F g cs sl (pc + 3) lv (va_rf o :: st)) : sv_AW x Q F g cs sl pc lv st := by
  obtain ⟨p, l, e, R, s, m, args, below, meth, c, D, AK, xt', b'⟩ := x
  obtain ⟨hx, hb, hml, hown, hts, hK, hlk, hbs, hE, rfl, rfl⟩ := G
  intro H locs ls hH hS hl
  obtain ⟨o, hZ⟩ := hE.2.2.2.2.2
  exact va_gets hx hb hZ hS hown (hts _ hw) (fun _ h => h) d (h o H locs ls hH hS hl)
theorem sv_sval (G : sv_G x b xt own cc nL) {i q : Nat} (d : decode cc pc = .ok (.getfield i, 3)) (hq : q < 14) (hw : Cond.fieldLink own i "java/lang/String" "value" "[B" ∈ sv_tbl)
    (h : sv_AW x Q F g cs sl (pc + 3) lv (.ref (xt.2.1 q) :: st)) : sv_AW x Q F g cs sl pc lv (.ref (xt.1 q) :: st) := by
  obtain ⟨p, l, e, R, s, m, args, below, meth, c, D, AK, xt', b'⟩ := x
  obtain ⟨hx, hb, hml, hown, hts, hK, hlk, hbs, hE, rfl, rfl⟩ := G
  intro H locs ls hH hS hl
  exact vk_getf hx hb (hE.2.2.2.1.1.1 q hq).2.2.1 hS hown (hts _ hw) (fun _ h => h) d (h H locs ls hH hS hl)
theorem sv_scod (G : sv_G x b xt own cc nL) {i q : Nat} (d : decode cc pc = .ok (.getfield i, 3)) (hq : q < 14) (hw : Cond.fieldLink own i "java/lang/String" "coder" "B" ∈ sv_tbl)
    (h : sv_AW x Q F g cs sl (pc + 3) lv (.int 0 :: st)) : sv_AW x Q F g cs sl pc lv (.ref (xt.1 q) :: st) := by
  obtain ⟨p, l, e, R, s, m, args, below, meth, c, D, AK, xt', b'⟩ := x
  obtain ⟨hx, hb, hml, hown, hts, hK, hlk, hbs, hE, rfl, rfl⟩ := G
  intro H locs ls hH hS hl
  exact vk_getf hx hb (hE.2.2.2.1.1.1 q hq).2.1 hS hown (hts _ hw) (fun _ h => h) d (h H locs ls hH hS hl)
theorem sv_sbal (G : sv_G x b xt own cc nL) {q : Nat} {i : Int32} (d : decode cc pc = .ok (.baload, 1)) (hq : q < 14) (hi : vp_in i (sv_len.getD q 0)) (k : Nat) (hk : i.toNatClampNeg = k)
    (h : sv_AW x Q F g cs sl (pc + 1) lv (.int ((sv_byt.getD q []).getD k 0) :: st)) : sv_AW x Q F g cs sl pc lv (.int i :: .ref (xt.2.1 q) :: st) := by
  obtain ⟨p, l, e, R, s, m, args, below, meth, c, D, AK, xt', b'⟩ := x
  obtain ⟨hx, hb, hml, hown, hts, hK, hlk, hbs, hE, rfl, rfl⟩ := G
  intro H locs ls hH hS hl
  exact va_tb hx hb (hE.2.2.2.1.1.1 q hq).2.2.2 hS hi (by rw [hk]) d (h H locs ls hH hS hl)
theorem sv_slen (G : sv_G x b xt own cc nL) {q : Nat} (d : decode cc pc = .ok (.arraylength, 1)) (hq : q < 14) (h : sv_AW x Q F g cs sl (pc + 1) lv (.int (nI (sv_len.getD q 0)) :: st)) : sv_AW x Q F g cs sl pc lv (.ref (xt.2.1 q) :: st) := by
  obtain ⟨p, l, e, R, s, m, args, below, meth, c, D, AK, xt', b'⟩ := x
  obtain ⟨hx, hb, hml, hown, hts, hK, hlk, hbs, hE, rfl, rfl⟩ := G
  intro H locs ls hH hS hl
  obtain ⟨cell, g1, g2, g3, g4, g5, g6, g7⟩ := ((hE.2.2.2.1.1.1 q hq).2.2.2).kept hS.2.1
  exact W.alen hx hb g1 g2 g5 rfl rfl d (h H locs ls hH hS hl)
theorem sv_tsw (G : sv_G x b xt own cc nL) {dflt lo hi : Int} {offs : Array Int} {len : Nat} {y : Int32} {off : Int} (d : decode cc pc = .ok (.tableswitch dflt lo hi offs, len)) (k : Int) (hk : y.toInt = k) (t : Nat) (h1 : ¬ k < lo) (h2 : ¬ hi < k) (ho : offs[(k - lo).toNat]? = some off) (ht : (pc : Int) + off = (t : Int))
    (h : sv_AW x Q F g cs sl t lv (st)) : sv_AW x Q F g cs sl pc lv (.int y :: st) := by
  obtain ⟨p, l, e, R, s, m, args, below, meth, c, D, AK, xt', b'⟩ := x
  obtain ⟨hx, hb, hml, hown, hts, hK, hlk, hbs, hE, rfl, rfl⟩ := G
  intro H locs ls hH hS hl
  exact lv_tableIn hx hb d (by rw [hk]; exact h1) (by rw [hk]; exact h2) (by rw [hk]; exact ho) ht (h H locs ls hH hS hl)
theorem sv_tswD (G : sv_G x b xt own cc nL) {dflt lo hi : Int} {offs : Array Int} {len : Nat} {y : Int32} (d : decode cc pc = .ok (.tableswitch dflt lo hi offs, len)) (hy : y.toInt < lo ∨ hi < y.toInt) (t : Nat) (ht : (pc : Int) + dflt = (t : Int))
    (h : sv_AW x Q F g cs sl t lv (st)) : sv_AW x Q F g cs sl pc lv (.int y :: st) := by
  obtain ⟨p, l, e, R, s, m, args, below, meth, c, D, AK, xt', b'⟩ := x
  obtain ⟨hx, hb, hml, hown, hts, hK, hlk, hbs, hE, rfl, rfl⟩ := G
  intro H locs ls hH hS hl
  exact lv_tableOut hx hb d hy ht (h H locs ls hH hS hl)
theorem sv_lsw (G : sv_G x b xt own cc nL) {dflt : Int} {ps : Array (Int × Int)} {len : Nat} {y : Int32} {off : Int} (d : decode cc pc = .ok (.lookupswitch dflt ps, len)) (t : Nat) (hp : (ps.toList.zip (ps.toList.drop 1)).all (fun (a, next) => a.1 < next.1) = true) (ho : Op.lookupswitch.offset ps.toList dflt y.toInt = off) (ht : (pc : Int) + off = (t : Int))
    (h : sv_AW x Q F g cs sl t lv (st)) : sv_AW x Q F g cs sl pc lv (.int y :: st) := by
  obtain ⟨p, l, e, R, s, m, args, below, meth, c, D, AK, xt', b'⟩ := x
  obtain ⟨hx, hb, hml, hown, hts, hK, hlk, hbs, hE, rfl, rfl⟩ := G
  intro H locs ls hH hS hl
  exact lv_lookup hx hb d hp ho ht (h H locs ls hH hS hl)
theorem sv_topi {y : Int32} (h : ∀ v : Int32, v = y → sv_AW x Q F g cs sl pc lv (.int v :: st)) : sv_AW x Q F g cs sl pc lv (.int y :: st) := h y rfl
theorem sv_topl {y : Int64} (h : ∀ v : Int64, v = y → sv_AW x Q F g cs sl pc lv (.long v :: st)) : sv_AW x Q F g cs sl pc lv (.long y :: st) := h y rfl
theorem sv_cast {pc' : Nat} {lv' : List (Nat × Value)} {st' : List Value} (h : sv_AW x Q F g cs sl pc' lv' st') (e1 : pc = pc') (e2 : lv = lv') (e3 : st = st') : sv_AW x Q F g cs sl pc lv st := by
  subst e1; subst e2; subst e3; exact h
theorem sv_locs (ks : List Nat) (lv' : List (Nat × Value)) (e : lv_pick lv ks = lv') (h : sv_AW x Q F g cs sl pc lv' st) : sv_AW x Q F g cs sl pc lv st := by
  obtain ⟨p, l, e, R, s, m, args, below, meth, c, D, AK, xt', b'⟩ := x
  intro H locs ls hH hS hl
  exact h H locs ls hH hS (lv_sub hl ks ‹_›)
theorem sv_kI {c' s' pc' : Nat} {QI : Int32 → sv_Mg → Prop} (h : ∀ v g', QI v g' → sv_AW x Q F g' c' s' pc' lv (.int v :: st)) : ∀ r F' g', (∃ v, r = some (.int v) ∧ F' = F ∧ QI v g') → sv_AW x Q F' g' c' s' pc' lv (r.toList ++ st) := by
  rintro r F' g' ⟨v, rfl, rfl, hq⟩; exact h v g' hq
theorem sv_kL {c' s' pc' : Nat} {QI : Int64 → sv_Mg → Prop} (h : ∀ v g', QI v g' → sv_AW x Q F g' c' s' pc' lv (.long v :: st)) : ∀ r F' g', (∃ v, r = some (.long v) ∧ F' = F ∧ QI v g') → sv_AW x Q F' g' c' s' pc' lv (r.toList ++ st) := by
  rintro r F' g' ⟨v, rfl, rfl, hq⟩; exact h v g' hq
theorem sv_kV {c' s' pc' : Nat} {QI : sv_Mg → Prop} (h : ∀ g', QI g' → sv_AW x Q F g' c' s' pc' lv st) : ∀ r F' g', (r = none ∧ F' = F ∧ QI g') → sv_AW x Q F' g' c' s' pc' lv (r.toList ++ st) := by
  rintro r F' g' ⟨rfl, rfl, hq⟩; exact h g' hq
end SvRows
