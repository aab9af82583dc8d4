/-! THE FLAT MACHINE: all cells that the law's run makes, as shapes, references and ints by (cell, place); a row an instruction over it -/
abbrev sv_Sh : Type := Nat × Nat
abbrev sv_Fr : Type := List sv_Sh × (Nat → Nat → Option Nat)
abbrev sv_Mg : Type := Nat → Nat → Int32
/-- field types of the classes, by the class's number -/
def sv_ty (ci : Nat) : Nat → FieldType := match ci with
  | 0 => tyX0
  | 1 => tyX1
  | 2 => tyX2
  | 3 => tyX3
  | 4 => tyX4
  | 5 => tyX5
  | 6 => tyX6
  | _ => tyX7
def sv_isR (t : FieldType) : Bool := match t with
  | .object _ => true
  | .array _ => true
  | _ => false
def sv_rv (b : Nat) (o : Option Nat) : Value := va_rf (o.map (fun k => b + k))
def sv_fv (b ci : Nat) (gi : Nat → Int32) (gr : Nat → Option Nat) (j : Nat) : Value := if sv_isR (sv_ty ci j) = true then sv_rv b (gr j) else .int (gi j)
/-- shapes: below 10 an object of that class with so many fields; 10, 11, 12: int[], char[], boolean[]; 20, 21, 22: Law[], Sheet[], Slot[] -/
def sv_cell (AK : Nat → ClassId) (b : Nat) (sh : sv_Sh) (gi : Nat → Int32) (gr : Nat → Option Nat) : va_E :=
  if sh.1 < 10 then .inr (sh.1, (List.range sh.2).map (sv_fv b sh.1 gi gr))
  else if sh.1 < 20 then .inl (AK sh.1, sh.2, .inl gi)
  else .inl (AK sh.1, sh.2, .inr (.inr (.inr (.inr (fun i => (gr i).map (fun k => b + k))))))
def sv_ws (AK : Nat → ClassId) (b : Nat) (F : sv_Fr) (g : sv_Mg) : va_W := F.1.mapIdx (fun k sh => (b + k, sv_cell AK b sh (g k) (F.2 k)))
theorem sv_ws_at {AK : Nat → ClassId} {b : Nat} {F : sv_Fr} {g : sv_Mg} {k : Nat} {sh : sv_Sh} (h : F.1[k]? = some sh) : (sv_ws AK b F g)[k]? = some (b + k, sv_cell AK b sh (g k) (F.2 k)) := by
  simp [sv_ws, h]
theorem sv_ws_inv {AK : Nat → ClassId} {b : Nat} {F : sv_Fr} {g : sv_Mg} {k : Nat} {q : Nat × va_E} (h : (sv_ws AK b F g)[k]? = some q) : ∃ sh, F.1[k]? = some sh ∧ q = (b + k, sv_cell AK b sh (g k) (F.2 k)) := by
  simp only [sv_ws, List.getElem?_mapIdx] at h
  cases hF : F.1[k]? with
  | none => rw [hF] at h; cases h
  | some sh => rw [hF] at h; exact ⟨sh, rfl, (Option.some.inj h).symm⟩
def sv_A (b : Nat) : Nat → Prop := fun q => b ≤ q
theorem sv_ws_D (AK : Nat → ClassId) (b : Nat) (F : sv_Fr) (g : sv_Mg) : va_D (sv_A b) (sv_ws AK b F g) := by
  refine ⟨fun i j p q hi hj e => ?_, fun k q hk => ?_⟩
  · obtain ⟨_, -, rfl⟩ := sv_ws_inv hi
    obtain ⟨_, -, rfl⟩ := sv_ws_inv hj
    have e : b + i = b + j := e
    omega
  · obtain ⟨_, -, rfl⟩ := sv_ws_inv hk
    exact Nat.le_add_right b k
def sv_H (D : va_G) (AK : Nat → ClassId) (b : Nat) (F : sv_Fr) (g : sv_Mg) (H : Heap) : Prop := va_P D vwCl (sv_ws AK b F g) H ∧ H.size = b + F.1.length
/-- one place of the memory becomes v -/
def sv_st (g : sv_Mg) (a k : Nat) (v : Int32) : sv_Mg := fun a' => if a' = a then upd (g a) k v else g a'
/-- a cell's contents become f -/
def sv_sa (g : sv_Mg) (a : Nat) (f : Nat → Int32) : sv_Mg := fun a' => if a' = a then f else g a'
def sv_sr (r : Nat → Nat → Option Nat) (a k : Nat) (v : Option Nat) : Nat → Nat → Option Nat := fun a' => if a' = a then va_up (r a) k v else r a'
def sv_sra (r : Nat → Nat → Option Nat) (a : Nat) (f : Nat → Option Nat) : Nat → Nat → Option Nat := fun a' => if a' = a then f else r a'
theorem sv_st_eq (g : sv_Mg) (a k : Nat) (v : Int32) : sv_st g a k v a = upd (g a) k v := if_pos rfl
theorem sv_st_ne {g : sv_Mg} {a a' k : Nat} {v : Int32} (h : a' ≠ a) : sv_st g a k v a' = g a' := if_neg h
theorem sv_sa_eq (g : sv_Mg) (a : Nat) (f : Nat → Int32) : sv_sa g a f a = f := if_pos rfl
theorem sv_sa_ne {g : sv_Mg} {a a' : Nat} {f : Nat → Int32} (h : a' ≠ a) : sv_sa g a f a' = g a' := if_neg h
theorem sv_sr_eq (r : Nat → Nat → Option Nat) (a k : Nat) (v : Option Nat) : sv_sr r a k v a = va_up (r a) k v := if_pos rfl
theorem sv_sr_ne {r : Nat → Nat → Option Nat} {a a' k : Nat} {v : Option Nat} (h : a' ≠ a) : sv_sr r a k v a' = r a' := if_neg h
theorem sv_sra_eq (r : Nat → Nat → Option Nat) (a : Nat) (f : Nat → Option Nat) : sv_sra r a f a = f := if_pos rfl
theorem sv_sra_ne {r : Nat → Nat → Option Nat} {a a' : Nat} {f : Nat → Option Nat} (h : a' ≠ a) : sv_sra r a f a' = r a' := if_neg h
theorem sv_H.at' {D : va_G} {AK : Nat → ClassId} {b : Nat} {F : sv_Fr} {g : sv_Mg} {H : Heap} (h : sv_H D AK b F g H) {k : Nat} {sh : sv_Sh} (hk : F.1[k]? = some sh) : va_at D vwCl (b + k, sv_cell AK b sh (g k) (F.2 k)) H := h.1 k _ (sv_ws_at hk)
/-- one cell has changed -/
theorem sv_H.set {D : va_G} {AK : Nat → ClassId} {b : Nat} {F F' : sv_Fr} {g g' : sv_Mg} {H H' : Heap} (h : sv_H D AK b F g H) {a : Nat} {sh : sv_Sh} (ha : F.1[a]? = some sh) (e : va_at D vwCl (b + a, sv_cell AK b sh (g' a) (F'.2 a)) H') (z : H'.size = H.size) (oq : ∀ q : Nat, q ≠ b + a → H'[q]? = H[q]?) (hF : F'.1 = F.1) (hg : ∀ k, k ≠ a → g' k = g k) (hr : ∀ k, k ≠ a → F'.2 k = F.2 k) : sv_H D AK b F' g' H' := by
  refine ⟨fun k q hk => ?_, by rw [z, h.2, hF]⟩
  obtain ⟨sh', h1, rfl⟩ := sv_ws_inv hk
  rw [hF] at h1
  by_cases hka : k = a
  · subst hka
    cases ha.symm.trans h1
    exact e
  · rw [hg k hka, hr k hka]
    exact (h.at' h1).kept (oq _ (fun z => hka (by omega)))
/-- one cell more -/
theorem sv_H.push {D : va_G} {AK : Nat → ClassId} {b : Nat} {F F' : sv_Fr} {g g' : sv_Mg} {H H' : Heap} (h : sv_H D AK b F g H) {sh : sv_Sh} (e : va_at D vwCl (b + F.1.length, sv_cell AK b sh (g' F.1.length) (F'.2 F.1.length)) H') (z : H'.size = H.size + 1) (oq : ∀ q : Nat, q < H.size → H'[q]? = H[q]?) (hF : F'.1 = F.1 ++ [sh]) (hg : ∀ k, k < F.1.length → g' k = g k) (hr : ∀ k, k < F.1.length → F'.2 k = F.2 k) : sv_H D AK b F' g' H' := by
  refine ⟨fun k q hk => ?_, by rw [z, h.2, hF, List.length_append]; rfl⟩
  obtain ⟨sh', h1, rfl⟩ := sv_ws_inv hk
  rw [hF] at h1
  by_cases hl : k < F.1.length
  · rw [List.getElem?_append_left hl] at h1
    rw [hg k hl, hr k hl]
    exact (h.at' h1).kept (oq _ (by rw [h.2]; exact Nat.add_lt_add_left hl b))
  · rw [List.getElem?_append_right (by omega)] at h1
    have hz : k - F.1.length < 1 := (List.getElem?_eq_some_iff.mp h1).1
    have hk0 : k = F.1.length := by omega
    subst hk0
    rw [Nat.sub_self] at h1
    cases h1
    exact e
def sv_tys (AK : Nat → ClassId) : List (ClassId × FieldType) := [(AK 10, .int), (AK 11, .char), (AK 12, .boolean), (AK 20, .object RX1), (AK 21, .object RX4), (AK 22, .object RX5)]
/-- links between nest mates, String constants -/
def sv_above : Nat → Int32 := fun k => match k with
  | 0 => -1
  | 1 => 0
  | 2 => 0
  | 3 => 1
  | 4 => 2
  | _ => 0
