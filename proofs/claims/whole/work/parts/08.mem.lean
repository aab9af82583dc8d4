/-! MEMORY ROWS -/
theorem sv_V {N j : Nat} {f : Nat → Value} (hj : j < N) : vp_V ((List.range N).map f) j = f j := by
  simp [vp_V, hj]
/-- a field by its pool entry: the class's number, the field's, how many the class has, final -/
def sv_FW (own : String) (idx ci k N : Nat) (fin : Bool) : Prop := ∃ (C : String) (T : u_T), vwCl[ci]? = some (C, T, N) ∧ ci < 10 ∧ k < N ∧ (∀ w ∈ u_ws C T N, w ∈ sv_tbl) ∧ (∀ j, j < N → parseFieldDescriptor (T j).2.2.1 = some (sv_ty ci j)) ∧ (∀ a, a < N → ∀ b, b < N → a ≠ b → (T a).2.1 ≠ (T b).2.1) ∧ (T k).2.2.2 = fin ∧ (T k).1 = C ∧ Cond.fieldLink own idx (T k).1 (T k).2.1 (T k).2.2.1 ∈ sv_tbl
theorem sv_obj {D : va_G} {AK : Nat → ClassId} {b ci N a : Nat} {C : String} {T : u_T} {F : sv_Fr} {g : sv_Mg} {H : Heap} (hH : sv_H D AK b F g H) (ha : F.1[a]? = some (ci, N)) (hci : ci < 10) (hc : vwCl[ci]? = some (C, T, N)) : ∃ cell : Cell, H[b + a]? = some cell ∧ cell.cls = D.1 ci ∧ cell.vm = .none ∧ ∀ k, k < N → cell.slots[D.2 ci k]? = some (sv_fv b ci (g a) (F.2 a) k) := by
  have h := hH.at' ha
  rw [sv_cell, if_pos hci] at h
  obtain ⟨r, h1, cell, q1, q2, q3, q4⟩ := h
  have hr : r = (C, T, N) := Option.some.inj (h1.symm.trans hc)
  subst hr
  exact ⟨cell, q1, q2, q3, fun k hk => by rw [q4 k hk, sv_V hk]⟩
theorem sv_obj_at {D : va_G} {AK : Nat → ClassId} {b ci N a : Nat} {C : String} {T : u_T} {gi : Nat → Int32} {gr : Nat → Option Nat} {H : Heap} (hci : ci < 10) (hc : vwCl[ci]? = some (C, T, N)) {cell : Cell} (q1 : H[b + a]? = some cell) (q2 : cell.cls = D.1 ci) (q3 : cell.vm = .none) (q4 : ∀ k, k < N → cell.slots[D.2 ci k]? = some (sv_fv b ci gi gr k)) : va_at D vwCl (b + a, sv_cell AK b (ci, N) gi gr) H := by
  rw [sv_cell, if_pos hci]
  exact ⟨_, hc, cell, q1, q2, q3, fun k hk => by rw [q4 k hk, sv_V hk]⟩
theorem sv_arr {D : va_G} {AK : Nat → ClassId} {b t n a : Nat} {F : sv_Fr} {g : sv_Mg} {H : Heap} (hH : sv_H D AK b F g H) (ha : F.1[a]? = some (t, n)) (h1 : ¬ t < 10) (h2 : t < 20) : H[b + a]? = some (arrV (AK t) n (fun j => .int (g a j))) := by
  have h := hH.at' ha
  rw [sv_cell, if_neg h1, if_pos h2] at h
  exact h
theorem sv_arr_at {D : va_G} {AK : Nat → ClassId} {b t n a : Nat} {gi : Nat → Int32} {gr : Nat → Option Nat} {H : Heap} (h : H[b + a]? = some (arrV (AK t) n (fun j => .int (gi j)))) (h1 : ¬ t < 10) (h2 : t < 20) : va_at D vwCl (b + a, sv_cell AK b (t, n) gi gr) H := by
  rw [sv_cell, if_neg h1, if_pos h2]
  exact h
theorem sv_arq {D : va_G} {AK : Nat → ClassId} {b t n a : Nat} {F : sv_Fr} {g : sv_Mg} {H : Heap} (hH : sv_H D AK b F g H) (ha : F.1[a]? = some (t, n)) (h2 : ¬ t < 20) : H[b + a]? = some (arrV (AK t) n (fun j => sv_rv b (F.2 a j))) := by
  have h := hH.at' ha
  rw [sv_cell, if_neg (by omega), if_neg h2] at h
  exact h
theorem sv_arq_at {D : va_G} {AK : Nat → ClassId} {b t n a : Nat} {gi : Nat → Int32} {gr : Nat → Option Nat} {H : Heap} (h : H[b + a]? = some (arrV (AK t) n (fun j => sv_rv b (gr j)))) (h2 : ¬ t < 20) : va_at D vwCl (b + a, sv_cell AK b (t, n) gi gr) H := by
  rw [sv_cell, if_neg (by omega), if_neg h2]
  exact h
section SvMem
variable {x : sv_X} {Q : State → Prop} {F : sv_Fr} {g : sv_Mg} {cs sl pc b nL : Nat} {xt : sv_Xt} {lv : List (Nat × Value)} {st : List Value} {own : String} {cc : ByteArray}
theorem sv_getI (G : sv_G x b xt own cc nL) {idx ci k N a : Nat} {fin : Bool} (fw : sv_FW own idx ci k N fin) (ha : F.1[a]? = some (ci, N)) (hR : sv_isR (sv_ty ci k) = false) (d : decode cc pc = .ok (.getfield idx, 3))
    (h : sv_AW x Q F g cs sl (pc + 3) lv (.int (g a k) :: st)) : sv_AW x Q F g cs sl pc lv (.ref (b + a) :: st) := by
  obtain ⟨p, l, e, R, s, m, args, below, meth, c, D, AK, xt', b'⟩ := x
  obtain ⟨hx, hb, hml, hown, hts, hK, hlk, hbs, hE, rfl, rfl⟩ := G
  intro H locs ls hH hS hl
  obtain ⟨C, T, hc, hci, hk, hin, hty, hnm, hfin, hCT, hw⟩ := fw
  obtain ⟨cell, q1, q2, q3, q4⟩ := sv_obj hH ha hci hc
  obtain ⟨hSl, hfc, kC, hkC, hkind⟩ := hK.1 ci _ hc
  obtain ⟨cf, kf, fi, f, hi, hsl⟩ := hSl k hk
  refine W.getf hx hb hown (hts _ hw) hi (u_facts hfc hkC (u_lays hts hin hk) hi).1 q1 (by rw [q3]; exact fun h => by cases h) (v := .int (g a k)) ?_ rfl rfl d (h H locs ls hH hS hl)
  rw [hsl, q4 k hk, sv_fv, if_neg (by rw [hR]; decide)]
theorem sv_getR (G : sv_G x b xt own cc nL) {idx ci k N a q : Nat} {fin : Bool} (fw : sv_FW own idx ci k N fin) (ha : F.1[a]? = some (ci, N)) (hR : sv_isR (sv_ty ci k) = true) (hr : F.2 a k = some q) (d : decode cc pc = .ok (.getfield idx, 3))
    (h : sv_AW x Q F g cs sl (pc + 3) lv (.ref (b + q) :: st)) : sv_AW x Q F g cs sl pc lv (.ref (b + a) :: st) := by
  obtain ⟨p, l, e, R, s, m, args, below, meth, c, D, AK, xt', b'⟩ := x
  obtain ⟨hx, hb, hml, hown, hts, hK, hlk, hbs, hE, rfl, rfl⟩ := G
  intro H locs ls hH hS hl
  obtain ⟨C, T, hc, hci, hk, hin, hty, hnm, hfin, hCT, hw⟩ := fw
  obtain ⟨cell, q1, q2, q3, q4⟩ := sv_obj hH ha hci hc
  obtain ⟨hSl, hfc, kC, hkC, hkind⟩ := hK.1 ci _ hc
  obtain ⟨cf, kf, fi, f, hi, hsl⟩ := hSl k hk
  refine W.getf hx hb hown (hts _ hw) hi (u_facts hfc hkC (u_lays hts hin hk) hi).1 q1 (by rw [q3]; exact fun h => by cases h) (v := .ref (b' + q)) ?_ rfl rfl d (h H locs ls hH hS hl)
  rw [hsl, q4 k hk, sv_fv, if_pos hR, hr]
  rfl
/-- the fields of a cell once one of them has a new value -/
theorem sv_fv_set {b ci k : Nat} {gi gi' : Nat → Int32} {gr gr' : Nat → Option Nat} {v : Value} (hv : sv_fv b ci gi' gr' k = v) (ho : ∀ j, j ≠ k → gi' j = gi j ∧ gr' j = gr j) (j : Nat) : updV (fun j => sv_fv b ci gi gr j) k v j = sv_fv b ci gi' gr' j := by
  by_cases e : j = k
  · subst e
    rw [updV, if_pos rfl, hv]
  · rw [updV, if_neg e, sv_fv, sv_fv, (ho j e).1, (ho j e).2]
theorem sv_put (G : sv_G x b xt own cc nL) {idx ci k N a : Nat} (fw : sv_FW own idx ci k N false) (ha : F.1[a]? = some (ci, N)) {v : Value} (hn : narrow (sv_ty ci k) v = v) (hfit : fits (sv_ty ci k) v = true) (F' : sv_Fr) (g' : sv_Mg) (hF : F'.1 = F.1) (hg : ∀ j, j ≠ a → g' j = g j) (hr : ∀ j, j ≠ a → F'.2 j = F.2 j) (hv : sv_fv b ci (g' a) (F'.2 a) k = v) (ho : ∀ j, j ≠ k → g' a j = g a j ∧ F'.2 a j = F.2 a j) (d : decode cc pc = .ok (.putfield idx, 3))
    (h : sv_AW x Q F' g' cs sl (pc + 3) lv st) : sv_AW x Q F g cs sl pc lv (v :: .ref (b + a) :: st) := by
  obtain ⟨p, l, e, R, s, m, args, below, meth, c, D, AK, xt', b'⟩ := x
  obtain ⟨hx, hb, hml, hown, hts, hK, hlk, hbs, hE, rfl, rfl⟩ := G
  intro H locs ls hH hS hl
  obtain ⟨C, T, hc, hci, hk, hin, hty, hnm, hfin, hCT, hw⟩ := fw
  obtain ⟨cell, q1, q2, q3, q4⟩ := sv_obj hH ha hci hc
  have hap := va_apart (own := own) hts hin (sv_ty ci) hty hnm hK hc
  obtain ⟨hSl, hfc, kC, hkC, hkind⟩ := hK.1 ci _ hc
  obtain ⟨cf, kf, fi, f, hi, hsl⟩ := hSl k hk
  have hlay := hts _ (hin _ (u_in_lay hk))
  unfold u_lay at hlay
  rw [if_neg (by rw [hfin]; decide)] at hlay
  have hst := (u_facts hfc hkC (u_lays hts hin hk) hi).1
  have h6 := u_store hfc hkC hkind hlay hi (hty k hk) hn hfit
  refine W.putK hx hb (f := f) ⟨hown, hts _ hw, ⟨_, _, _, hi⟩, hst⟩ (by rw [q2]; exact h6) q1 q3 (by rw [hsl]; exact k2_hasslot (q4 k hk)) rfl rfl d fun H' e1 e2 e3 => ?_
  rw [hsl] at e1 ⊢
  refine h H' _ ls (hH.set ha ?_ e2 e3 hF hg hr) (hS.put e2 e3 (Nat.le_add_right b' a)) hl
  exact sv_obj_at hci hc e1 q2 q3 (fun j hj => by rw [t_set q4 hap hk v j hj]; exact congrArg some (sv_fv_set hv ho j))
theorem sv_putF (G : sv_G x b xt own cc nL) {idx ci k N a : Nat} (fw : sv_FW own idx ci k N true) (hin2 : match x with | (_, _, _, _, _, _, _, _, meth, _, _, _, _, _) => meth.name = "<init>") (hwn : ∀ C T, vwCl[ci]? = some (C, T, N) → C = own) (ha : F.1[a]? = some (ci, N)) {v : Value} (hn : narrow (sv_ty ci k) v = v) (hfit : fits (sv_ty ci k) v = true) (F' : sv_Fr) (g' : sv_Mg) (hF : F'.1 = F.1) (hg : ∀ j, j ≠ a → g' j = g j) (hr : ∀ j, j ≠ a → F'.2 j = F.2 j) (hv : sv_fv b ci (g' a) (F'.2 a) k = v) (ho : ∀ j, j ≠ k → g' a j = g a j ∧ F'.2 a j = F.2 a j) (d : decode cc pc = .ok (.putfield idx, 3))
    (h : sv_AW x Q F' g' cs sl (pc + 3) lv st) : sv_AW x Q F g cs sl pc lv (v :: .ref (b + a) :: st) := by
  obtain ⟨p, l, e, R, s, m, args, below, meth, c, D, AK, xt', b'⟩ := x
  obtain ⟨hx, hb, hml, hown, hts, hK, hlk, hbs, hE, rfl, rfl⟩ := G
  intro H locs ls hH hS hl
  obtain ⟨C, T, hc, hci, hk, hin, hty, hnm, hfin, hCT, hw⟩ := fw
  obtain ⟨cell, q1, q2, q3, q4⟩ := sv_obj hH ha hci hc
  have hap := va_apart (own := own) hts hin (sv_ty ci) hty hnm hK hc
  obtain ⟨hSl, hfc, kC, hkC, hkind⟩ := hK.1 ci _ hc
  obtain ⟨cf, kf, fi, f, hi, hsl⟩ := hSl k hk
  have hlay := hts _ (hin _ (u_in_lay hk))
  unfold u_lay at hlay
  rw [if_pos hfin] at hlay
  have hst := (u_facts hfc hkC (u_lays hts hin hk) hi).1
  have hcf : m.cls = cf := by
    obtain ⟨_, _, c', _, _, _, -, -, hf', -, -, -, hown2, -⟩ := Cond.laysFinal_spec hlay
    have e1 : c' = cf := by have := hi.symm.trans hf'; simp at this; exact this.1.symm
    rw [hCT, hwn C T hc] at hown2
    rw [← e1]; exact Option.some.inj (hown.symm.trans hown2)
  have h6 := u_fits hfc hkC hkind (Or.inr hlay) hi (hty k hk) hn hfit
  refine W.putFinK hx hb hown (hts _ hw) hi hst hcf hin2 (by rw [q2]; exact h6) q1 q3 (by rw [hsl]; exact k2_hasslot (q4 k hk)) rfl rfl d fun H' e1 e2 e3 => ?_
  rw [hsl] at e1 ⊢
  refine h H' _ ls (hH.set ha ?_ e2 e3 hF hg hr) (hS.put e2 e3 (Nat.le_add_right b' a)) hl
  exact sv_obj_at hci hc e1 q2 q3 (fun j hj => by rw [t_set q4 hap hk v j hj]; exact congrArg some (sv_fv_set hv ho j))
/-- an int field becomes v -/
theorem sv_putI (G : sv_G x b xt own cc nL) {idx ci k N a : Nat} (fw : sv_FW own idx ci k N false) (ha : F.1[a]? = some (ci, N)) {v : Int32} (hR : sv_ty ci k = .int) (d : decode cc pc = .ok (.putfield idx, 3))
    (h : ∀ g', g' = sv_st g a k v → sv_AW x Q F g' cs sl (pc + 3) lv st) : sv_AW x Q F g cs sl pc lv (.int v :: .ref (b + a) :: st) := by
  refine sv_put G fw ha (by rw [hR]; rfl) (by rw [hR]; rfl) F (sv_st g a k v) rfl (fun j hj => sv_st_ne hj) (fun j hj => rfl) ?_ (fun j hj => ⟨?_, rfl⟩) d (h _ rfl)
  · rw [sv_fv, hR, sv_st_eq]; simp [sv_isR, upd]
  · rw [sv_st_eq]; simp [upd, hj]
/-- a boolean field becomes v -/
theorem sv_putZ (G : sv_G x b xt own cc nL) {idx ci k N a : Nat} (fw : sv_FW own idx ci k N false) (ha : F.1[a]? = some (ci, N)) {v : Int32} (hv : v = 0 ∨ v = 1) (hR : sv_ty ci k = .boolean) (d : decode cc pc = .ok (.putfield idx, 3))
    (h : ∀ g', g' = sv_st g a k v → sv_AW x Q F g' cs sl (pc + 3) lv st) : sv_AW x Q F g cs sl pc lv (.int v :: .ref (b + a) :: st) := by
  refine sv_put G fw ha (by rw [hR]; rcases hv with rfl | rfl <;> decide) (by rw [hR]; rcases hv with rfl | rfl <;> decide) F (sv_st g a k v) rfl (fun j hj => sv_st_ne hj) (fun j hj => rfl) ?_ (fun j hj => ⟨?_, rfl⟩) d (h _ rfl)
  · rw [sv_fv, hR, sv_st_eq]; simp [sv_isR, upd]
  · rw [sv_st_eq]; simp [upd, hj]
/-- a final int field, in a constructor -/
theorem sv_putIF (G : sv_G x b xt own cc nL) {idx ci k N a : Nat} (fw : sv_FW own idx ci k N true) (hin2 : match x with | (_, _, _, _, _, _, _, _, meth, _, _, _, _, _) => meth.name = "<init>") (hwn : ∀ C T, vwCl[ci]? = some (C, T, N) → C = own) (ha : F.1[a]? = some (ci, N)) {v : Int32} (hR : sv_ty ci k = .int) (d : decode cc pc = .ok (.putfield idx, 3))
    (h : ∀ g', g' = sv_st g a k v → sv_AW x Q F g' cs sl (pc + 3) lv st) : sv_AW x Q F g cs sl pc lv (.int v :: .ref (b + a) :: st) := by
  refine sv_putF G fw hin2 hwn ha (by rw [hR]; rfl) (by rw [hR]; rfl) F (sv_st g a k v) rfl (fun j hj => sv_st_ne hj) (fun j hj => rfl) ?_ (fun j hj => ⟨?_, rfl⟩) d (h _ rfl)
  · rw [sv_fv, hR, sv_st_eq]; simp [sv_isR, upd]
  · rw [sv_st_eq]; simp [upd, hj]
/-- a final reference field, in a constructor -/
theorem sv_putRF (G : sv_G x b xt own cc nL) {idx ci k N a q : Nat} (fw : sv_FW own idx ci k N true) (hin2 : match x with | (_, _, _, _, _, _, _, _, meth, _, _, _, _, _) => meth.name = "<init>") (hwn : ∀ C T, vwCl[ci]? = some (C, T, N) → C = own) (ha : F.1[a]? = some (ci, N)) (hR : sv_isR (sv_ty ci k) = true) (d : decode cc pc = .ok (.putfield idx, 3))
    (h : ∀ F', F' = (F.1, sv_sr F.2 a k (some q)) → sv_AW x Q F' g cs sl (pc + 3) lv st) : sv_AW x Q F g cs sl pc lv (.ref (b + q) :: .ref (b + a) :: st) := by
  have hn : ∀ t, sv_isR t = true → ∀ z, narrow t (.ref z) = .ref z ∧ fits t (.ref z) = true := by
    intro t ht z
    cases t <;> first | exact ⟨rfl, rfl⟩ | cases ht
  refine sv_putF G fw hin2 hwn ha (hn _ hR _).1 (hn _ hR _).2 (F.1, sv_sr F.2 a k (some q)) g rfl (fun j hj => rfl) (fun j hj => sv_sr_ne hj) ?_ (fun j hj => ⟨rfl, ?_⟩) d (h _ rfl)
  · rw [sv_fv, if_pos hR]
    show sv_rv b (sv_sr F.2 a k (some q) a k) = _
    rw [sv_sr_eq]; simp [va_up, sv_rv, va_rf]
  · show sv_sr F.2 a k (some q) a j = F.2 a j
    rw [sv_sr_eq]; simp [va_up, hj]
/-! arrays of ints -/
theorem sv_iald (G : sv_G x b xt own cc nL) {a n : Nat} {i : Int32} (ha : F.1[a]? = some (10, n)) (hi : vp_in i n) (d : decode cc pc = .ok (.iaload, 1))
    (h : sv_AW x Q F g cs sl (pc + 1) lv (.int (g a i.toNatClampNeg) :: st)) : sv_AW x Q F g cs sl pc lv (.int i :: .ref (b + a) :: st) := by
  obtain ⟨p, l, e, R, s, m, args, below, meth, c, D, AK, xt', b'⟩ := x
  obtain ⟨hx, hb, hml, hown, hts, hK, hlk, hbs, hE, rfl, rfl⟩ := G
  intro H locs ls hH hS hl
  exact va_iald hx hb hK hH.1 a 0 (sv_ws_at ha) rfl hi d (h H locs ls hH hS hl)
theorem sv_cald (G : sv_G x b xt own cc nL) {a n : Nat} {i : Int32} (ha : F.1[a]? = some (11, n)) (hi : vp_in i n) (d : decode cc pc = .ok (.caload, 1))
    (h : sv_AW x Q F g cs sl (pc + 1) lv (.int (g a i.toNatClampNeg) :: st)) : sv_AW x Q F g cs sl pc lv (.int i :: .ref (b + a) :: st) := by
  obtain ⟨p, l, e, R, s, m, args, below, meth, c, D, AK, xt', b'⟩ := x
  obtain ⟨hx, hb, hml, hown, hts, hK, hlk, hbs, hE, rfl, rfl⟩ := G
  intro H locs ls hH hS hl
  exact va_cald hx hb hK hH.1 a 1 (sv_ws_at ha) rfl hi d (h H locs ls hH hS hl)
theorem sv_zald (G : sv_G x b xt own cc nL) {a n : Nat} {i : Int32} (ha : F.1[a]? = some (12, n)) (hi : vp_in i n) (d : decode cc pc = .ok (.baload, 1))
    (h : sv_AW x Q F g cs sl (pc + 1) lv (.int (g a i.toNatClampNeg) :: st)) : sv_AW x Q F g cs sl pc lv (.int i :: .ref (b + a) :: st) := by
  obtain ⟨p, l, e, R, s, m, args, below, meth, c, D, AK, xt', b'⟩ := x
  obtain ⟨hx, hb, hml, hown, hts, hK, hlk, hbs, hE, rfl, rfl⟩ := G
  intro H locs ls hH hS hl
  exact va_zald hx hb hK hH.1 a 2 (sv_ws_at ha) rfl hi d (h H locs ls hH hS hl)
theorem sv_alen (G : sv_G x b xt own cc nL) {a n : Nat} (ha : F.1[a]? = some (10, n)) (d : decode cc pc = .ok (.arraylength, 1))
    (h : sv_AW x Q F g cs sl (pc + 1) lv (.int (nI n) :: st)) : sv_AW x Q F g cs sl pc lv (.ref (b + a) :: st) := by
  obtain ⟨p, l, e, R, s, m, args, below, meth, c, D, AK, xt', b'⟩ := x
  obtain ⟨hx, hb, hml, hown, hts, hK, hlk, hbs, hE, rfl, rfl⟩ := G
  intro H locs ls hH hS hl
  exact va_alen hx hb hK hH.1 a 0 (sv_ws_at ha) rfl rfl d (h H locs ls hH hS hl)
theorem sv_upd_int (f : Nat → Int32) (k : Nat) (v : Int32) : updV (fun j => Value.int (f j)) k (.int v) = fun j => .int (upd f k v j) := by
  funext j
  by_cases e : j = k
  · simp [updV, upd, e]
  · simp [updV, upd, e]
theorem sv_iast (G : sv_G x b xt own cc nL) {a n : Nat} {i v : Int32} (ha : F.1[a]? = some (10, n)) (hi : vp_in i n) (d : decode cc pc = .ok (.iastore, 1))
    (h : ∀ g', g' = sv_st g a i.toNatClampNeg v → sv_AW x Q F g' cs sl (pc + 1) lv st) : sv_AW x Q F g cs sl pc lv (.int v :: .int i :: .ref (b + a) :: st) := by
  have h := h _ rfl
  obtain ⟨p, l, e, R, s, m, args, below, meth, c, D, AK, xt', b'⟩ := x
  obtain ⟨hx, hb, hml, hown, hts, hK, hlk, hbs, hE, rfl, rfl⟩ := G
  intro H locs ls hH hS hl
  refine W.iast hx hb (sv_arr hH ha (by decide) (by decide)) ((hK.2 0 _ rfl).1 n _) (fun q => by cases q) (by rw [arrV_size]; exact hi) rfl rfl d fun H1 e z oq => ?_
  refine h H1 _ ls (hH.set ha ?_ z oq rfl (fun j hj => sv_st_ne hj) (fun j hj => rfl)) (hS.put z oq (Nat.le_add_right b' a)) hl
  refine sv_arr_at ?_ (by decide) (by decide)
  rw [e, arrV_store, sv_st_eq, sv_upd_int]
theorem sv_cast' (G : sv_G x b xt own cc nL) {a n : Nat} {i v : Int32} (ha : F.1[a]? = some (11, n)) (hi : vp_in i n) (hv : narrow .char (.int v) = .int v) (d : decode cc pc = .ok (.castore, 1))
    (h : ∀ g', g' = sv_st g a i.toNatClampNeg v → sv_AW x Q F g' cs sl (pc + 1) lv st) : sv_AW x Q F g cs sl pc lv (.int v :: .int i :: .ref (b + a) :: st) := by
  have h := h _ rfl
  obtain ⟨p, l, e, R, s, m, args, below, meth, c, D, AK, xt', b'⟩ := x
  obtain ⟨hx, hb, hml, hown, hts, hK, hlk, hbs, hE, rfl, rfl⟩ := G
  intro H locs ls hH hS hl
  refine W.cast hx hb (sv_arr hH ha (by decide) (by decide)) ((hK.2 1 _ rfl).1 n _) (fun q => by cases q) (by rw [arrV_size]; exact hi) rfl rfl d fun H1 e z oq => ?_
  refine h H1 _ ls (hH.set ha ?_ z oq rfl (fun j hj => sv_st_ne hj) (fun j hj => rfl)) (hS.put z oq (Nat.le_add_right b' a)) hl
  refine sv_arr_at ?_ (by decide) (by decide)
  rw [e, hv, arrV_store, sv_st_eq, sv_upd_int]
theorem sv_zast (G : sv_G x b xt own cc nL) {a n : Nat} {i v : Int32} (ha : F.1[a]? = some (12, n)) (hi : vp_in i n) (hv : v = 0 ∨ v = 1) (d : decode cc pc = .ok (.bastore, 1))
    (h : ∀ g', g' = sv_st g a i.toNatClampNeg v → sv_AW x Q F g' cs sl (pc + 1) lv st) : sv_AW x Q F g cs sl pc lv (.int v :: .int i :: .ref (b + a) :: st) := by
  have h := h _ rfl
  obtain ⟨p, l, e, R, s, m, args, below, meth, c, D, AK, xt', b'⟩ := x
  obtain ⟨hx, hb, hml, hown, hts, hK, hlk, hbs, hE, rfl, rfl⟩ := G
  intro H locs ls hH hS hl
  have hv : narrow .boolean (.int v) = .int v := by rcases hv with rfl | rfl <;> decide
  refine W.zast hx hb (sv_arr hH ha (by decide) (by decide)) ((hK.2 2 _ rfl).1 n _) (fun q => by cases q) (by rw [arrV_size]; exact hi) rfl rfl d fun H1 e z oq => ?_
  refine h H1 _ ls (hH.set ha ?_ z oq rfl (fun j hj => sv_st_ne hj) (fun j hj => rfl)) (hS.put z oq (Nat.le_add_right b' a)) hl
  refine sv_arr_at ?_ (by decide) (by decide)
  rw [e, hv, arrV_store, sv_st_eq, sv_upd_int]
/-! arrays of references: t0 is the array's place in sv_tys -/
theorem sv_aald (G : sv_G x b xt own cc nL) {a t n : Nat} {i : Int32} (t0 : Nat) {C : String} (ht : ∀ AK, (sv_tys AK)[t0]? = some (AK t, .object C)) (ht2 : ¬ t < 20) (ha : F.1[a]? = some (t, n)) (hi : vp_in i n) (d : decode cc pc = .ok (.aaload, 1))
    (h : sv_AW x Q F g cs sl (pc + 1) lv (sv_rv b (F.2 a i.toNatClampNeg) :: st)) : sv_AW x Q F g cs sl pc lv (.int i :: .ref (b + a) :: st) := by
  obtain ⟨p, l, e, R, s, m, args, below, meth, c, D, AK, xt', b'⟩ := x
  obtain ⟨hx, hb, hml, hown, hts, hK, hlk, hbs, hE, rfl, rfl⟩ := G
  intro H locs ls hH hS hl
  have hlt : i.toNatClampNeg < n := Nat.not_le.mp fun q => hi (Or.inr q)
  exact W.aald (v := sv_rv b' (F.2 a i.toNatClampNeg)) (ty := .object C) hx hb (sv_arq hH ha ht2) ((hK.2 t0 _ (ht AK)).1 n _) rfl (fun q => by cases q) (by rw [arrV_size]; exact hi) (by rw [arrV_read _ _ hlt]) rfl rfl d (h H locs ls hH hS hl)
theorem sv_aaldR (G : sv_G x b xt own cc nL) {a t n q : Nat} {i : Int32} (t0 : Nat) {C : String} (ht : ∀ AK, (sv_tys AK)[t0]? = some (AK t, .object C)) (ht2 : ¬ t < 20) (ha : F.1[a]? = some (t, n)) (hi : vp_in i n) (hr : F.2 a i.toNatClampNeg = some q) (d : decode cc pc = .ok (.aaload, 1))
    (h : sv_AW x Q F g cs sl (pc + 1) lv (.ref (b + q) :: st)) : sv_AW x Q F g cs sl pc lv (.int i :: .ref (b + a) :: st) := sv_aald G t0 ht ht2 ha hi d (by rw [hr]; exact h)
theorem sv_aaldN (G : sv_G x b xt own cc nL) {a t n : Nat} {i : Int32} (t0 : Nat) {C : String} (ht : ∀ AK, (sv_tys AK)[t0]? = some (AK t, .object C)) (ht2 : ¬ t < 20) (ha : F.1[a]? = some (t, n)) (hi : vp_in i n) (hr : F.2 a i.toNatClampNeg = none) (d : decode cc pc = .ok (.aaload, 1))
    (h : sv_AW x Q F g cs sl (pc + 1) lv (.null :: st)) : sv_AW x Q F g cs sl pc lv (.int i :: .ref (b + a) :: st) := sv_aald G t0 ht ht2 ha hi d (by rw [hr]; exact h)
theorem sv_aast (G : sv_G x b xt own cc nL) {a t n v ci N : Nat} {i : Int32} (t0 : Nat) {C : String} {T : u_T} (ht : ∀ AK, (sv_tys AK)[t0]? = some (AK t, .object C)) (ht2 : ¬ t < 20) (ha : F.1[a]? = some (t, n)) (hi : vp_in i n) (hv : F.1[v]? = some (ci, N)) (hci : ci < 10) (hc : vwCl[ci]? = some (C, T, N)) (d : decode cc pc = .ok (.aastore, 1))
    (h : ∀ F', F' = (F.1, sv_sr F.2 a i.toNatClampNeg (some v)) → sv_AW x Q F' g cs sl (pc + 1) lv st) : sv_AW x Q F g cs sl pc lv (.ref (b + v) :: .int i :: .ref (b + a) :: st) := by
  have h := h _ rfl
  obtain ⟨p, l, e, R, s, m, args, below, meth, c, D, AK, xt', b'⟩ := x
  obtain ⟨hx, hb, hml, hown, hts, hK, hlk, hbs, hE, rfl, rfl⟩ := G
  intro H locs ls hH hS hl
  have hlt : i.toNatClampNeg < n := Nat.not_le.mp fun q => hi (Or.inr q)
  have h0 : ¬ i < 0 := fun q => hi (Or.inl q)
  obtain ⟨cellV, g1, g2, g3, -⟩ := sv_obj hH hv hci hc
  have hcls := (hK.1 ci _ hc).2
  obtain ⟨kA, comp, k1, k2, k3, -⟩ := (hK.2 t0 _ (ht AK)).2
  have hcomp : comp = D.1 ci := Option.some.inj (k3.symm.trans hcls.1)
  subst hcomp
  obtain ⟨kC, hkC, -⟩ := hcls.2
  refine W.aast hx hb (sv_arq hH ha ht2) (fun q h => by cases h) (fun h => by cases h) k1 k2 rfl hkC ⟨h0, by rw [arrV_size]; exact hlt⟩ g1 (fun q h => by rw [g3] at h; cases h) (by rw [g2]; exact hkC) (by rw [g2]; exact va_assign hcls) rfl rfl d fun H1 e z oq => ?_
  refine h H1 _ ls (hH.set ha ?_ z oq rfl (fun j hj => rfl) (fun j hj => sv_sr_ne hj)) (hS.put z oq (Nat.le_add_right b' a)) hl
  refine sv_arq_at ?_ ht2
  rw [e, arrV_store]
  congr 2
  funext q
  show updV _ _ _ q = sv_rv b' (sv_sr F.2 a i.toNatClampNeg (some v) a q)
  rw [sv_sr_eq]
  by_cases hq : q = i.toNatClampNeg
  · subst hq
    simp [updV, va_up, va_rf, sv_rv]
  · simp [updV, va_up, hq]
end SvMem
