section SvRows2
variable {x : sv_X} {Q : State → Prop} {F : sv_Fr} {g : sv_Mg} {cs sl pc b nL fr lo mc ms : Nat} {xt : sv_Xt} {lv : List (Nat × Value)} {st : List Value} {own : String} {cc : ByteArray}
theorem sv_ialdK (G : sv_G x b xt own cc nL) {a n : Nat} {i : Int32} (ha : F.1[a]? = some (10, n)) (hi : vp_in i n) (k : Nat) (hk : i.toNatClampNeg = k) (d : decode cc pc = .ok (.iaload, 1))
    (h : sv_AW x Q F g cs sl (pc + 1) lv (.int (g a k) :: st)) : sv_AW x Q F g cs sl pc lv (.int i :: .ref (b + a) :: st) := sv_iald G ha hi d (by rw [hk]; exact h)
theorem sv_caldK (G : sv_G x b xt own cc nL) {a n : Nat} {i : Int32} (ha : F.1[a]? = some (11, n)) (hi : vp_in i n) (k : Nat) (hk : i.toNatClampNeg = k) (d : decode cc pc = .ok (.caload, 1))
    (h : sv_AW x Q F g cs sl (pc + 1) lv (.int (g a k) :: st)) : sv_AW x Q F g cs sl pc lv (.int i :: .ref (b + a) :: st) := sv_cald G ha hi d (by rw [hk]; exact h)
theorem sv_zaldK (G : sv_G x b xt own cc nL) {a n : Nat} {i : Int32} (ha : F.1[a]? = some (12, n)) (hi : vp_in i n) (k : Nat) (hk : i.toNatClampNeg = k) (d : decode cc pc = .ok (.baload, 1))
    (h : sv_AW x Q F g cs sl (pc + 1) lv (.int (g a k) :: st)) : sv_AW x Q F g cs sl pc lv (.int i :: .ref (b + a) :: st) := sv_zald G ha hi d (by rw [hk]; exact h)
theorem sv_iastK (G : sv_G x b xt own cc nL) {a n : Nat} {i v : Int32} (ha : F.1[a]? = some (10, n)) (hi : vp_in i n) (k : Nat) (hk : i.toNatClampNeg = k) (d : decode cc pc = .ok (.iastore, 1))
    (h : ∀ g', g' = sv_st g a k v → sv_AW x Q F g' cs sl (pc + 1) lv st) : sv_AW x Q F g cs sl pc lv (.int v :: .int i :: .ref (b + a) :: st) := sv_iast G ha hi d (by rw [hk]; exact h)
theorem sv_castK (G : sv_G x b xt own cc nL) {a n : Nat} {i v : Int32} (ha : F.1[a]? = some (11, n)) (hi : vp_in i n) (hv : narrow .char (.int v) = .int v) (k : Nat) (hk : i.toNatClampNeg = k) (d : decode cc pc = .ok (.castore, 1))
    (h : ∀ g', g' = sv_st g a k v → sv_AW x Q F g' cs sl (pc + 1) lv st) : sv_AW x Q F g cs sl pc lv (.int v :: .int i :: .ref (b + a) :: st) := sv_cast' G ha hi hv d (by rw [hk]; exact h)
theorem sv_zastK (G : sv_G x b xt own cc nL) {a n : Nat} {i v : Int32} (ha : F.1[a]? = some (12, n)) (hi : vp_in i n) (hv : v = 0 ∨ v = 1) (k : Nat) (hk : i.toNatClampNeg = k) (d : decode cc pc = .ok (.bastore, 1))
    (h : ∀ g', g' = sv_st g a k v → sv_AW x Q F g' cs sl (pc + 1) lv st) : sv_AW x Q F g cs sl pc lv (.int v :: .int i :: .ref (b + a) :: st) := sv_zast G ha hi hv d (by rw [hk]; exact h)
theorem sv_copyK (G : sv_G x b xt own cc nL) (RR : sv_R x fr lo mc ms) {idx a0 a1 n0 n1 ks kd kn : Nat} {sp dp n : Int32} (w1 : Cond.methodLink own idx arraycopyName ∈ sv_tbl) (w2 : Cond.native arraycopyName ∈ sv_tbl) (w3 : Cond.static arraycopyName ∈ sv_tbl) (w4 : Cond.initialized "java/lang/System" ∈ sv_tbl) (ha0 : F.1[a0]? = some (10, n0)) (ha1 : F.1[a1]? = some (10, n1)) (h1 : ¬ sp < 0) (h2 : ¬ dp < 0) (h3 : ¬ n < 0) (e1 : sp.toNatClampNeg = ks) (e2 : dp.toNatClampNeg = kd) (e3 : n.toNatClampNeg = kn) (h4 : ks + kn ≤ n0) (h5 : kd + kn ≤ n1) (hfr : 1 ≤ fr) (hlo : (st.map fun v => v.category).sum + (nativeFrameWords "java/lang/System" "arraycopy" 5 + 11) ≤ lo) (d : decode cc pc = .ok (.invokestatic idx, 3))
    (h : ∀ g', g' = sv_sa g a1 (va_cpy (g a0) (g a1) ks kd kn) → sv_AW x Q F g' cs sl (pc + 3) lv st) : sv_AW x Q F g cs sl pc lv (.int n :: .int dp :: .ref (b + a1) :: .int sp :: .ref (b + a0) :: st) := by
  subst e1; subst e2; subst e3
  exact sv_copy G RR w1 w2 w3 w4 ha0 ha1 h1 h2 h3 h4 h5 hfr hlo d h
theorem sv_kS {c' s' pc' : Nat} {QI : Nat → sv_Mg → Prop} (h : ∀ k g', k < 14 → QI k g' → sv_AW x Q F g' c' s' pc' lv (.ref (xt.1 k) :: st)) : ∀ r F' g', (∃ k, k < 14 ∧ r = some (.ref (xt.1 k)) ∧ F' = F ∧ QI k g') → sv_AW x Q F' g' c' s' pc' lv (r.toList ++ st) := by
  rintro r F' g' ⟨v, hv, rfl, rfl, hq⟩; exact h v g' hv hq
theorem sv_kN {c' s' pc' : Nat} {QI : sv_Fr → sv_Mg → Prop} (h : ∀ F' g', QI F' g' → sv_AW x Q F' g' c' s' pc' lv st) : ∀ r F' g', (r = none ∧ QI F' g') → sv_AW x Q F' g' c' s' pc' lv (r.toList ++ st) := by
  rintro r F' g' ⟨rfl, hq⟩; exact h F' g' hq
theorem sv_kA {c' s' pc' : Nat} {QI : Nat → sv_Fr → sv_Mg → Prop} (h : ∀ a F' g', QI a F' g' → sv_AW x Q F' g' c' s' pc' lv (.ref (b + a) :: st)) : ∀ r F' g', (∃ a, r = some (.ref (b + a)) ∧ QI a F' g') → sv_AW x Q F' g' c' s' pc' lv (r.toList ++ st) := by
  rintro r F' g' ⟨a, rfl, hq⟩; exact h a F' g' hq
theorem sv_kD {c' s' pc' : Nat} {QI : Int32 → sv_Fr → sv_Mg → Prop} (h : ∀ v F' g', QI v F' g' → sv_AW x Q F' g' c' s' pc' lv (.int v :: st)) : ∀ r F' g', (∃ v, r = some (.int v) ∧ QI v F' g') → sv_AW x Q F' g' c' s' pc' lv (r.toList ++ st) := by
  rintro r F' g' ⟨v, rfl, hq⟩; exact h v F' g' hq
theorem sv_widen {cs' sl' : Nat} (h1 : cs ≤ cs') (h2 : sl ≤ sl') (h : sv_AW x Q F g cs' sl' pc lv st) : sv_AW x Q F g cs sl pc lv st := by
  obtain ⟨p, l, e, R, s, m, args, below, meth, c, D, AK, xt', b'⟩ := x
  intro H locs ls hH hS hl
  exact W.widen h1 h2 (h H locs ls hH hS hl)
end SvRows2
def sv_qS (xt : sv_Xt) (F : sv_Fr) (Q : Nat → sv_Mg → Prop) : Option Value → sv_Fr → sv_Mg → Prop := fun r F' g' => ∃ k, k < 14 ∧ r = some (.ref (xt.1 k)) ∧ F' = F ∧ Q k g'
def sv_qD (Q : Int32 → sv_Fr → sv_Mg → Prop) : Option Value → sv_Fr → sv_Mg → Prop := fun r F' g' => ∃ v, r = some (.int v) ∧ Q v F' g'
