/-! WHERE THE CELLS LIE: 0 the system, 1 .. 57 its parts, 58 the reference, 59 .. 81 its rows; laws (two cells each) from 82 on -/
def sv_shL : List sv_Sh := [(6, 11), (2, 2), (20, 14), (10, 96), (3, 10), (10, 96), (10, 96), (0, 19), (10, 10), (10, 10), (10, 10), (10, 10), (10, 10), (10, 10), (10, 10), (0, 19), (10, 10), (10, 10), (10, 10), (10, 10), (10, 10), (10, 10), (10, 10), (0, 19), (10, 10), (10, 10), (10, 10), (10, 10), (10, 10), (10, 10), (10, 10), (21, 4), (4, 3), (10, 24), (4, 3), (10, 24), (4, 3), (10, 24), (4, 3), (10, 24), (22, 5), (5, 5), (4, 3), (10, 24), (5, 5), (4, 3), (10, 24), (5, 5), (4, 3), (10, 24), (5, 5), (4, 3), (10, 24), (5, 5), (4, 3), (10, 24), (10, 60), (10, 13), (7, 35), (10, 1443), (10, 1443), (10, 1443), (10, 10), (10, 13), (10, 71), (10, 96), (11, 11), (10, 4), (10, 96), (10, 96), (12, 10), (10, 96), (10, 4), (10, 4), (10, 4), (10, 96), (10, 5), (10, 5), (10, 5), (10, 120), (10, 24), (10, 60)]
/-- references, by cell and place (of cell 2, the laws, nothing is said here) -/
def sv_refL : List (Nat × Nat × Nat) := [(0, 0, 1), (0, 1, 4), (0, 2, 7), (0, 3, 15), (0, 4, 23), (0, 5, 31), (0, 6, 40), (0, 7, 56), (0, 8, 57), (1, 0, 2), (1, 1, 3), (4, 0, 5), (4, 8, 6),
  (7, 0, 1), (7, 1, 8), (7, 2, 9), (7, 3, 10), (7, 4, 11), (7, 5, 12), (7, 6, 13), (7, 7, 14), (15, 0, 1), (15, 1, 16), (15, 2, 17), (15, 3, 18), (15, 4, 19), (15, 5, 20), (15, 6, 21), (15, 7, 22), (23, 0, 1), (23, 1, 24), (23, 2, 25), (23, 3, 26), (23, 4, 27), (23, 5, 28), (23, 6, 29), (23, 7, 30),
  (31, 0, 32), (31, 1, 34), (31, 2, 36), (31, 3, 38), (32, 0, 33), (34, 0, 35), (36, 0, 37), (38, 0, 39), (40, 0, 41), (40, 1, 44), (40, 2, 47), (40, 3, 50), (40, 4, 53), (41, 0, 42), (42, 0, 43), (44, 0, 45), (45, 0, 46), (47, 0, 48), (48, 0, 49), (50, 0, 51), (51, 0, 52), (53, 0, 54), (54, 0, 55),
  (58, 0, 59), (58, 1, 60), (58, 2, 61), (58, 4, 62), (58, 5, 63), (58, 6, 64), (58, 7, 65), (58, 15, 66), (58, 16, 67), (58, 17, 68), (58, 20, 69), (58, 22, 70), (58, 23, 71), (58, 24, 72), (58, 25, 73), (58, 26, 74), (58, 27, 75), (58, 28, 76), (58, 29, 77), (58, 30, 78), (58, 31, 79), (58, 32, 80), (58, 33, 81)]
def sv_Law (F : sv_Fr) (q : Nat) : Prop := 82 ≤ q ∧ F.1[q]? = some (1, 3) ∧ F.2 q 2 = some (q + 1) ∧ ∃ n, n ≤ 96 ∧ F.1[q + 1]? = some (10, n)
def sv_Lay (F : sv_Fr) : Prop := F.1.take 82 = sv_shL ∧ (∀ t ∈ sv_refL, F.2 t.1 t.2.1 = some t.2.2) ∧ ∀ i q, F.2 2 i = some q → sv_Law F q
/-- how many places an int array has -/
def sv_ln (F : sv_Fr) (k : Nat) : Nat := (F.1.getD k (0, 0)).2
theorem sv_Lay.sh {F : sv_Fr} (h : sv_Lay F) {k : Nat} {s : sv_Sh} (hs : sv_shL[k]? = some s) : F.1[k]? = some s := by
  have hk : k < 82 := (List.getElem?_eq_some_iff.mp hs).1
  rw [← h.1, List.getElem?_take, if_pos hk] at hs
  exact hs
theorem sv_Lay.rf {F : sv_Fr} (h : sv_Lay F) {k j q : Nat} (i : Nat) (hs : sv_refL[i]? = some (k, j, q)) : F.2 k j = some q := h.2.1 _ (List.mem_of_getElem? hs)
def sv_isC (a : Nat) : Prop := a = 7 ∨ a = 15 ∨ a = 23
theorem sv_C7 : sv_isC 7 := Or.inl rfl
theorem sv_C15 : sv_isC 15 := Or.inr (Or.inl rfl)
theorem sv_C23 : sv_isC 23 := Or.inr (Or.inr rfl)
theorem sv_Lay.cS {F : sv_Fr} (h : sv_Lay F) {a : Nat} (ha : sv_isC a) : F.1[a]? = some (0, 19) := by
  rcases ha with rfl | rfl | rfl <;> exact h.sh rfl
theorem sv_Lay.cR0 {F : sv_Fr} (h : sv_Lay F) {a : Nat} (ha : sv_isC a) : F.2 a 0 = some 1 := by
  rcases ha with rfl | rfl | rfl
  · exact h.rf 13 rfl
  · exact h.rf 21 rfl
  · exact h.rf 29 rfl
theorem sv_Lay.cR1 {F : sv_Fr} (h : sv_Lay F) {a : Nat} (ha : sv_isC a) : F.2 a 1 = some (a + 1) := by
  rcases ha with rfl | rfl | rfl
  · exact h.rf 14 rfl
  · exact h.rf 22 rfl
  · exact h.rf 30 rfl
theorem sv_Lay.cA1 {F : sv_Fr} (h : sv_Lay F) {a : Nat} (ha : sv_isC a) : F.1[a + 1]? = some (10, 10) := by
  rcases ha with rfl | rfl | rfl <;> exact h.sh rfl
theorem sv_Lay.cR2 {F : sv_Fr} (h : sv_Lay F) {a : Nat} (ha : sv_isC a) : F.2 a 2 = some (a + 2) := by
  rcases ha with rfl | rfl | rfl
  · exact h.rf 15 rfl
  · exact h.rf 23 rfl
  · exact h.rf 31 rfl
theorem sv_Lay.cA2 {F : sv_Fr} (h : sv_Lay F) {a : Nat} (ha : sv_isC a) : F.1[a + 2]? = some (10, 10) := by
  rcases ha with rfl | rfl | rfl <;> exact h.sh rfl
theorem sv_Lay.cR3 {F : sv_Fr} (h : sv_Lay F) {a : Nat} (ha : sv_isC a) : F.2 a 3 = some (a + 3) := by
  rcases ha with rfl | rfl | rfl
  · exact h.rf 16 rfl
  · exact h.rf 24 rfl
  · exact h.rf 32 rfl
theorem sv_Lay.cA3 {F : sv_Fr} (h : sv_Lay F) {a : Nat} (ha : sv_isC a) : F.1[a + 3]? = some (10, 10) := by
  rcases ha with rfl | rfl | rfl <;> exact h.sh rfl
theorem sv_Lay.cR4 {F : sv_Fr} (h : sv_Lay F) {a : Nat} (ha : sv_isC a) : F.2 a 4 = some (a + 4) := by
  rcases ha with rfl | rfl | rfl
  · exact h.rf 17 rfl
  · exact h.rf 25 rfl
  · exact h.rf 33 rfl
theorem sv_Lay.cA4 {F : sv_Fr} (h : sv_Lay F) {a : Nat} (ha : sv_isC a) : F.1[a + 4]? = some (10, 10) := by
  rcases ha with rfl | rfl | rfl <;> exact h.sh rfl
theorem sv_Lay.cR5 {F : sv_Fr} (h : sv_Lay F) {a : Nat} (ha : sv_isC a) : F.2 a 5 = some (a + 5) := by
  rcases ha with rfl | rfl | rfl
  · exact h.rf 18 rfl
  · exact h.rf 26 rfl
  · exact h.rf 34 rfl
theorem sv_Lay.cA5 {F : sv_Fr} (h : sv_Lay F) {a : Nat} (ha : sv_isC a) : F.1[a + 5]? = some (10, 10) := by
  rcases ha with rfl | rfl | rfl <;> exact h.sh rfl
theorem sv_Lay.cR6 {F : sv_Fr} (h : sv_Lay F) {a : Nat} (ha : sv_isC a) : F.2 a 6 = some (a + 6) := by
  rcases ha with rfl | rfl | rfl
  · exact h.rf 19 rfl
  · exact h.rf 27 rfl
  · exact h.rf 35 rfl
theorem sv_Lay.cA6 {F : sv_Fr} (h : sv_Lay F) {a : Nat} (ha : sv_isC a) : F.1[a + 6]? = some (10, 10) := by
  rcases ha with rfl | rfl | rfl <;> exact h.sh rfl
theorem sv_Lay.cR7 {F : sv_Fr} (h : sv_Lay F) {a : Nat} (ha : sv_isC a) : F.2 a 7 = some (a + 7) := by
  rcases ha with rfl | rfl | rfl
  · exact h.rf 20 rfl
  · exact h.rf 28 rfl
  · exact h.rf 36 rfl
theorem sv_Lay.cA7 {F : sv_Fr} (h : sv_Lay F) {a : Nat} (ha : sv_isC a) : F.1[a + 7]? = some (10, 10) := by
  rcases ha with rfl | rfl | rfl <;> exact h.sh rfl
/-- sheets: 32, 34, 36, 38, and those in the slots -/
def sv_isS (r : Nat) : Prop := (∃ i, i < 4 ∧ r = 32 + 2 * i) ∨ ∃ i, i < 5 ∧ r = 42 + 3 * i
def sv_isT (t : Nat) : Prop := ∃ i, i < 5 ∧ t = 41 + 3 * i
theorem sv_s4 {i : Nat} (h : i < 4) : i = 0 ∨ i = 1 ∨ i = 2 ∨ i = 3 := by omega
theorem sv_s5 {i : Nat} (h : i < 5) : i = 0 ∨ i = 1 ∨ i = 2 ∨ i = 3 ∨ i = 4 := by omega
theorem sv_isT.row {t : Nat} (h : sv_isT t) : sv_isS (t + 1) := by
  obtain ⟨i, hi, rfl⟩ := h
  exact Or.inr ⟨i, hi, by omega⟩
theorem sv_Lay.sS {F : sv_Fr} (h : sv_Lay F) {r : Nat} (hr : sv_isS r) : F.1[r]? = some (4, 3) := by
  rcases hr with ⟨i, hi, rfl⟩ | ⟨i, hi, rfl⟩
  · rcases sv_s4 hi with rfl | rfl | rfl | rfl <;> exact h.sh rfl
  · rcases sv_s5 hi with rfl | rfl | rfl | rfl | rfl <;> exact h.sh rfl
theorem sv_Lay.sR {F : sv_Fr} (h : sv_Lay F) {r : Nat} (hr : sv_isS r) : F.2 r 0 = some (r + 1) := by
  rcases hr with ⟨i, hi, rfl⟩ | ⟨i, hi, rfl⟩
  · rcases sv_s4 hi with rfl | rfl | rfl | rfl
    · exact h.rf 41 rfl
    · exact h.rf 42 rfl
    · exact h.rf 43 rfl
    · exact h.rf 44 rfl
  · rcases sv_s5 hi with rfl | rfl | rfl | rfl | rfl
    · exact h.rf 51 rfl
    · exact h.rf 53 rfl
    · exact h.rf 55 rfl
    · exact h.rf 57 rfl
    · exact h.rf 59 rfl
theorem sv_Lay.sA {F : sv_Fr} (h : sv_Lay F) {r : Nat} (hr : sv_isS r) : F.1[r + 1]? = some (10, 24) := by
  rcases hr with ⟨i, hi, rfl⟩ | ⟨i, hi, rfl⟩
  · rcases sv_s4 hi with rfl | rfl | rfl | rfl <;> exact h.sh rfl
  · rcases sv_s5 hi with rfl | rfl | rfl | rfl | rfl <;> exact h.sh rfl
theorem sv_Lay.tS {F : sv_Fr} (h : sv_Lay F) {t : Nat} (ht : sv_isT t) : F.1[t]? = some (5, 5) := by
  obtain ⟨i, hi, rfl⟩ := ht
  rcases sv_s5 hi with rfl | rfl | rfl | rfl | rfl <;> exact h.sh rfl
theorem sv_Lay.tR {F : sv_Fr} (h : sv_Lay F) {t : Nat} (ht : sv_isT t) : F.2 t 0 = some (t + 1) := by
  obtain ⟨i, hi, rfl⟩ := ht
  rcases sv_s5 hi with rfl | rfl | rfl | rfl | rfl
  · exact h.rf 50 rfl
  · exact h.rf 52 rfl
  · exact h.rf 54 rfl
  · exact h.rf 56 rfl
  · exact h.rf 58 rfl
theorem sv_in_lt {i : Int32} {n : Nat} (h : vp_in i n) : i.toNatClampNeg < n := Nat.not_le.mp fun q => h (Or.inr q)
theorem sv_Lay.qS {F : sv_Fr} (h : sv_Lay F) {i : Int32} (hi : vp_in i 4) : F.2 31 i.toNatClampNeg = some (32 + 2 * i.toNatClampNeg) := by
  generalize hk : i.toNatClampNeg = k
  have hk : k < 4 := hk ▸ sv_in_lt hi
  rcases sv_s4 hk with rfl | rfl | rfl | rfl
  · exact h.rf 37 rfl
  · exact h.rf 38 rfl
  · exact h.rf 39 rfl
  · exact h.rf 40 rfl
theorem sv_Lay.qT {F : sv_Fr} (h : sv_Lay F) {i : Int32} (hi : vp_in i 5) : F.2 40 i.toNatClampNeg = some (41 + 3 * i.toNatClampNeg) := by
  generalize hk : i.toNatClampNeg = k
  have hk : k < 5 := hk ▸ sv_in_lt hi
  rcases sv_s5 hk with rfl | rfl | rfl | rfl | rfl
  · exact h.rf 45 rfl
  · exact h.rf 46 rfl
  · exact h.rf 47 rfl
  · exact h.rf 48 rfl
  · exact h.rf 49 rfl
theorem sv_qS_is {i : Int32} (hi : vp_in i 4) : sv_isS (32 + 2 * i.toNatClampNeg) := Or.inl ⟨_, sv_in_lt hi, rfl⟩
theorem sv_qT_is {i : Int32} (hi : vp_in i 5) : sv_isT (41 + 3 * i.toNatClampNeg) := ⟨_, sv_in_lt hi, rfl⟩
theorem sv_Law.ln {F : sv_Fr} {q : Nat} (h : sv_Law F q) : F.1[q + 1]? = some (10, sv_ln F (q + 1)) := by
  obtain ⟨-, -, -, n, -, hn⟩ := h
  rw [sv_ln, List.getD_eq_getElem?_getD, hn]
  rfl
