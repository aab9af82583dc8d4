/-! THE CLAIM OUT OF ONE WALK OF THE LAW'S BODY. Your part is whole_start (and what it stands on); all else here is the same for every law, but numbers. -/
def R_law : String := "SmokeVotesLaw"
def lw_P (b : Addr) (xs : List Int32) (args : Array Value) (s : State) : Prop := args = #[.ref b] ∧ s.IntsAt b xs ∧ xs.length ≤ 3072 ∧ (Jvm.Cond.and given_1 narrow_1).before args s = true
def lw_Q (_ : Array Value) (s : State) (o : Outcome) (t : State) : Prop := o = .returned (some (.int 1)) ∧ Framed s o t [] 600000 7302249
def lw_Z (below : List Frame) (a : Array Value) (s : State) : State → Prop := fun t => ∃ o, t.status = .running ∧ Ended t below o ∧ lw_Q a s o t
/-- the law's own end, with 1 on the stack, nothing written that was there before, its room as the claim has it -/
theorem lw_ret {p : Program} {l : Launch} {e : Env} {s : State} {m : MethodId} {below : List Frame} {meth : Method} {c : Code} {b : Nat} (hx : p.tables.exec = Jvm.exec) (hb : c.code = code) (hr : meth.sig.returnType = ret) (hlocks : meth.locks = false) {pc : Nat} {H : Heap} {ls : Array Slot} (hdg : decode code pc = .ok (.ireturn, 1)) : W p l e room_1 s m #[Value.ref b] below meth c H [] 600000 7302249 (lw_Z below #[Value.ref b] s) (F0 m pc ls [.int 1]) := by
  intro T hT X
  obtain ⟨fs, hret, hrun, hended, hW, hframe⟩ := X.leave (v := some (.int 1)) (hlocks := hlocks) (fun h => by rw [hr] at h; cases h)
  have hmeth' : T.vm.method? m = some meth := X.method'
  refine ⟨T.setFrames fs, ?_, .returned (some (.int 1)), hrun, hended, rfl, ⟨_, rfl⟩, hW, hframe⟩
  jvm_step X.here [X.here.top, hx, hb, hdg, hmeth', hr, ret, narrow_b1]
  (try refine ⟨rfl, ?_⟩); (try refine ⟨rfl, ?_⟩)
  first | (intro acts; rw [hret _ acts rfl rfl rfl]) | rw [hret _ _ rfl rfl rfl]
  exact Steps.refl _
/-- what holds at the law's entry: the machine, the code, the tables' words (any of lw_tbl by 'hts w (by decide +kernel)'), the script of L ints xs at the cell b, what the Statement gives of the start (any of its parts by flat_of_before) -/
def lw_At (p : Program) (s : State) (m : MethodId) (meth : Method) (c : Code) (b L : Nat) (xs : Nat → Int32) : Prop :=
  p.tables.exec = Jvm.exec ∧ c.code = code ∧ meth.sig.returnType = ret ∧ c.maxLocals = 4 ∧ s.vm.findClass R_law = some m.cls ∧ (∀ w ∈ lw_tbl, w.before #[Value.ref b] s = true) ∧ va_X b L xs s s.heap ∧ b < s.heap.size ∧ meth.locks = false ∧ (Jvm.Cond.and given_1 narrow_1).before #[Value.ref b] s = true
section LW
variable {x : sv_X} {Q : State → Prop} {F : sv_Fr} {g : sv_Mg} {cs sl pc b nL bs L i : Nat} {xt : sv_Xt} {lv : List (Nat × Value)} {st : List Value} {own : String} {cc : ByteArray} {xs : Nat → Int32}
/-- the law's script: where it lies, how long it is, what it holds -/
def lw_sc (x : sv_X) (bs L : Nat) (xs : Nat → Int32) : Prop := match x with
  | (_, _, _, _, s, _, _, _, _, _, _, _, _, b) => va_X bs L xs s s.heap ∧ bs < s.heap.size ∧ bs < b
theorem lw_ald (G : sv_G x b xt own cc nL) (SC : lw_sc x bs L xs) {y : Int32} (hin : vp_in y L) (d : decode cc pc = .ok (.iaload, 1)) (h : sv_AW x Q F g cs sl (pc + 1) lv (.int (xs y.toNatClampNeg) :: st)) : sv_AW x Q F g cs sl pc lv (.int y :: .ref bs :: st) := by
  obtain ⟨p, l, e, R, s, m, args, below, meth, c, D, AK, xt', b'⟩ := x
  obtain ⟨hx, hb, hml, hown, hts, hK, hlk, hbs, hE, rfl, rfl⟩ := G
  obtain ⟨hX, h1, h2⟩ := SC
  intro H locs ls hH hS hl
  exact va_sld hx hb hX h1 (Nat.not_le.mpr h2) hS hin d (h H locs ls hH hS hl)
theorem lw_aln (G : sv_G x b xt own cc nL) (SC : lw_sc x bs L xs) (d : decode cc pc = .ok (.arraylength, 1)) (h : sv_AW x Q F g cs sl (pc + 1) lv (.int (nI L) :: st)) : sv_AW x Q F g cs sl pc lv (.ref bs :: st) := by
  obtain ⟨p, l, e, R, s, m, args, below, meth, c, D, AK, xt', b'⟩ := x
  obtain ⟨hx, hb, hml, hown, hts, hK, hlk, hbs, hE, rfl, rfl⟩ := G
  obtain ⟨hX, h1, h2⟩ := SC
  intro H locs ls hH hS hl
  exact va_slen hx hb hX h1 (Nat.not_le.mpr h2) hS d (h H locs ls hH hS hl)
abbrev lw_lv (b bs i : Nat) : List (Nat × Value) := [(3, .int (nI i)), (2, .ref (b + 58)), (1, .ref (b + 0)), (0, .ref bs)]
/-- an argument: script[i + k] -/
theorem lw_arg {n : Int} (k : Nat) (G : sv_G x b xt own cc nL) (SC : lw_sc x bs L xs) (hL : L ≤ 3072) (hk : i + k < L) (hn : Int32.ofInt n = nI k) (d0 : decode cc pc = .ok (.aload_n 0, 1)) (d1 : decode cc (pc + 1) = .ok (.iload_n 3, 1)) (d2 : decode cc (pc + 2) = .ok (.iconst n, 1)) (d3 : decode cc (pc + 3) = .ok (.iadd, 1)) (d4 : decode cc (pc + 4) = .ok (.iaload, 1))
    (h : sv_AW x Q F g cs sl (pc + 5) (lw_lv b bs i) (.int (xs (i + k)) :: st)) : sv_AW x Q F g cs sl pc (lw_lv b bs i) st := by
  refine sv_aload_n G d0 3 rfl ?_
  refine sv_iload_n G d1 0 rfl ?_
  refine sv_iconst G d2 (nI k) hn ?_
  refine sv_iadd G d3 ?_
  rw [nI_add]
  refine lw_ald G SC (pl_in hk (by omega)) d4 ?_
  rw [pl_clamp (by omega)]
  exact h
theorem lw_c0 (G : sv_G x b xt RL cL_law 4) (RR : sv_R x 2048 84000 600000 7302249) (SC : lw_sc x bs L xs) (hL2 : L ≤ 3072) (hi : i + 6 ≤ L) (hcs : cs + 2 ≤ 600000) (hsl : sl + 99 ≤ 7302249) (h : Inv F g) (K : ∀ F' g', Inv F' g' → sv_AW x Q F' g' (cs + 2) (sl + 99) 1375 (lw_lv b bs i) []) : sv_AW x Q F g cs sl 212 (lw_lv b bs i) [] := by
  have hL := h.L
  refine sv_aload_n (pc := 212) G dL_law_212 2 rfl ?_
  refine lw_arg (pc := 213) 1 G SC hL2 (by omega) ic_1 dL_law_213 dL_law_214 dL_law_215 dL_law_216 dL_law_217 ?_
  refine lw_arg (pc := 218) 2 G SC hL2 (by omega) ic_2 dL_law_218 dL_law_219 dL_law_220 dL_law_221 dL_law_222 ?_
  refine lw_arg (pc := 223) 3 G SC hL2 (by omega) ic_3 dL_law_223 dL_law_224 dL_law_225 dL_law_226 dL_law_227 ?_
  refine lw_arg (pc := 228) 4 G SC hL2 (by omega) ic_4 dL_law_228 dL_law_229 dL_law_230 dL_law_231 dL_law_232 ?_
  refine sv_callV (cs := cs) (sl := sl) (st := []) (As := [.int (xs (i + 1)), .int (xs (i + 2)), .int (xs (i + 3)), .int (xs (i + 4))]) (a := 0) (pc := 233) G RR (c_X6_voter hL (l_voter h _ _ _ _)) mw_X6_voter lk_L_13 (hL.sh rfl) (by decide) rfl rfl ⟨(Nat.le_of_ble_eq_true rfl), (Nat.le_of_ble_eq_true rfl)⟩ ⟨by omega, by omega⟩ (Nat.le_of_ble_eq_true rfl) rfl dL_law_233 (sv_kI (fun r g1 h1 => ?_))
  refine sv_aload_n (pc := 236) G dL_law_236 1 rfl ?_
  refine lw_arg (pc := 237) 1 G SC hL2 (by omega) ic_1 dL_law_237 dL_law_238 dL_law_239 dL_law_240 dL_law_241 ?_
  refine lw_arg (pc := 242) 2 G SC hL2 (by omega) ic_2 dL_law_242 dL_law_243 dL_law_244 dL_law_245 dL_law_246 ?_
  refine lw_arg (pc := 247) 3 G SC hL2 (by omega) ic_3 dL_law_247 dL_law_248 dL_law_249 dL_law_250 dL_law_251 ?_
  refine lw_arg (pc := 252) 4 G SC hL2 (by omega) ic_4 dL_law_252 dL_law_253 dL_law_254 dL_law_255 dL_law_256 ?_
  refine sv_callV (st := [.int r]) (As := [.int (xs (i + 1)), .int (xs (i + 2)), .int (xs (i + 3)), .int (xs (i + 4))]) (a := 58) (pc := 257) G RR (c_X7_voter hL h1) mw_X7_voter lk_L_17 (hL.sh rfl) (by decide) rfl rfl ⟨(Nat.le_of_ble_eq_true rfl), (Nat.le_of_ble_eq_true rfl)⟩ ⟨by omega, by omega⟩ (Nat.le_of_ble_eq_true rfl) rfl dL_law_257 (sv_kI (fun r2 g2 h2 => ?_))
  exact sv_ic_eq (pc := 260) G 1375 rfl dL_law_260 (fun _ => sv_widen (by omega) (by omega) (K _ g2 h2.2)) (fun z => absurd h2.1 z)
theorem lw_c1 (G : sv_G x b xt RL cL_law 4) (RR : sv_R x 2048 84000 600000 7302249) (SC : lw_sc x bs L xs) (hL2 : L ≤ 3072) (hi : i + 6 ≤ L) (hcs : cs + 2 ≤ 600000) (hsl : sl + 99 ≤ 7302249) (h : Inv F g) (K : ∀ F' g', Inv F' g' → sv_AW x Q F' g' (cs + 2) (sl + 99) 1375 (lw_lv b bs i) []) : sv_AW x Q F g cs sl 265 (lw_lv b bs i) [] := by
  have hL := h.L
  refine sv_aload_n (pc := 265) G dL_law_265 2 rfl ?_
  refine lw_arg (pc := 266) 1 G SC hL2 (by omega) ic_1 dL_law_266 dL_law_267 dL_law_268 dL_law_269 dL_law_270 ?_
  refine lw_arg (pc := 271) 2 G SC hL2 (by omega) ic_2 dL_law_271 dL_law_272 dL_law_273 dL_law_274 dL_law_275 ?_
  refine sv_callV (cs := cs) (sl := sl) (st := []) (As := [.int (xs (i + 1)), .int (xs (i + 2))]) (a := 0) (pc := 276) G RR (c_X6_told hL (l_told h _ _)) mw_X6_told lk_L_18 (hL.sh rfl) (by decide) rfl rfl ⟨(Nat.le_of_ble_eq_true rfl), (Nat.le_of_ble_eq_true rfl)⟩ ⟨by omega, by omega⟩ (Nat.le_of_ble_eq_true rfl) rfl dL_law_276 (sv_kI (fun r g1 h1 => ?_))
  refine sv_aload_n (pc := 279) G dL_law_279 1 rfl ?_
  refine lw_arg (pc := 280) 1 G SC hL2 (by omega) ic_1 dL_law_280 dL_law_281 dL_law_282 dL_law_283 dL_law_284 ?_
  refine lw_arg (pc := 285) 2 G SC hL2 (by omega) ic_2 dL_law_285 dL_law_286 dL_law_287 dL_law_288 dL_law_289 ?_
  refine sv_callV (st := [.int r]) (As := [.int (xs (i + 1)), .int (xs (i + 2))]) (a := 58) (pc := 290) G RR (c_X7_told hL h1) mw_X7_told lk_L_22 (hL.sh rfl) (by decide) rfl rfl ⟨(Nat.le_of_ble_eq_true rfl), (Nat.le_of_ble_eq_true rfl)⟩ ⟨by omega, by omega⟩ (Nat.le_of_ble_eq_true rfl) rfl dL_law_290 (sv_kI (fun r2 g2 h2 => ?_))
  exact sv_ic_eq (pc := 293) G 1375 rfl dL_law_293 (fun _ => sv_widen (by omega) (by omega) (K _ g2 h2.2)) (fun z => absurd h2.1 z)
theorem lw_c2 (G : sv_G x b xt RL cL_law 4) (RR : sv_R x 2048 84000 600000 7302249) (SC : lw_sc x bs L xs) (hL2 : L ≤ 3072) (hi : i + 6 ≤ L) (hcs : cs + 2 ≤ 600000) (hsl : sl + 99 ≤ 7302249) (h : Inv F g) (K : ∀ F' g', Inv F' g' → sv_AW x Q F' g' (cs + 2) (sl + 99) 1375 (lw_lv b bs i) []) : sv_AW x Q F g cs sl 298 (lw_lv b bs i) [] := by
  have hL := h.L
  refine sv_aload_n (pc := 298) G dL_law_298 2 rfl ?_
  refine lw_arg (pc := 299) 1 G SC hL2 (by omega) ic_1 dL_law_299 dL_law_300 dL_law_301 dL_law_302 dL_law_303 ?_
  refine lw_arg (pc := 304) 2 G SC hL2 (by omega) ic_2 dL_law_304 dL_law_305 dL_law_306 dL_law_307 dL_law_308 ?_
  refine sv_callV (cs := cs) (sl := sl) (st := []) (As := [.int (xs (i + 1)), .int (xs (i + 2))]) (a := 0) (pc := 309) G RR (c_X6_as hL (l_as h _ _)) mw_X6_as lk_L_23 (hL.sh rfl) (by decide) rfl rfl ⟨(Nat.le_of_ble_eq_true rfl), (Nat.le_of_ble_eq_true rfl)⟩ ⟨by omega, by omega⟩ (Nat.le_of_ble_eq_true rfl) rfl dL_law_309 (sv_kI (fun r g1 h1 => ?_))
  refine sv_aload_n (pc := 312) G dL_law_312 1 rfl ?_
  refine lw_arg (pc := 313) 1 G SC hL2 (by omega) ic_1 dL_law_313 dL_law_314 dL_law_315 dL_law_316 dL_law_317 ?_
  refine lw_arg (pc := 318) 2 G SC hL2 (by omega) ic_2 dL_law_318 dL_law_319 dL_law_320 dL_law_321 dL_law_322 ?_
  refine sv_callV (st := [.int r]) (As := [.int (xs (i + 1)), .int (xs (i + 2))]) (a := 58) (pc := 323) G RR (c_X7_as hL h1) mw_X7_as lk_L_26 (hL.sh rfl) (by decide) rfl rfl ⟨(Nat.le_of_ble_eq_true rfl), (Nat.le_of_ble_eq_true rfl)⟩ ⟨by omega, by omega⟩ (Nat.le_of_ble_eq_true rfl) rfl dL_law_323 (sv_kI (fun r2 g2 h2 => ?_))
  exact sv_ic_eq (pc := 326) G 1375 rfl dL_law_326 (fun _ => sv_widen (by omega) (by omega) (K _ g2 h2.2)) (fun z => absurd h2.1 z)
theorem lw_c3 (G : sv_G x b xt RL cL_law 4) (RR : sv_R x 2048 84000 600000 7302249) (SC : lw_sc x bs L xs) (hL2 : L ≤ 3072) (hi : i + 6 ≤ L) (hcs : cs + 2 ≤ 600000) (hsl : sl + 99 ≤ 7302249) (h : Inv F g) (K : ∀ F' g', Inv F' g' → sv_AW x Q F' g' (cs + 2) (sl + 99) 1375 (lw_lv b bs i) []) : sv_AW x Q F g cs sl 331 (lw_lv b bs i) [] := by
  have hL := h.L
  refine sv_aload_n (pc := 331) G dL_law_331 2 rfl ?_
  refine lw_arg (pc := 332) 1 G SC hL2 (by omega) ic_1 dL_law_332 dL_law_333 dL_law_334 dL_law_335 dL_law_336 ?_
  refine lw_arg (pc := 337) 2 G SC hL2 (by omega) ic_2 dL_law_337 dL_law_338 dL_law_339 dL_law_340 dL_law_341 ?_
  refine sv_callV (cs := cs) (sl := sl) (st := []) (As := [.int (xs (i + 1)), .int (xs (i + 2))]) (a := 0) (pc := 342) G RR (c_X6_turns hL (l_turns h _ _)) mw_X6_turns lk_L_27 (hL.sh rfl) (by decide) rfl rfl ⟨(Nat.le_of_ble_eq_true rfl), (Nat.le_of_ble_eq_true rfl)⟩ ⟨by omega, by omega⟩ (Nat.le_of_ble_eq_true rfl) rfl dL_law_342 (sv_kI (fun r g1 h1 => ?_))
  refine sv_aload_n (pc := 345) G dL_law_345 1 rfl ?_
  refine lw_arg (pc := 346) 1 G SC hL2 (by omega) ic_1 dL_law_346 dL_law_347 dL_law_348 dL_law_349 dL_law_350 ?_
  refine lw_arg (pc := 351) 2 G SC hL2 (by omega) ic_2 dL_law_351 dL_law_352 dL_law_353 dL_law_354 dL_law_355 ?_
  refine sv_callV (st := [.int r]) (As := [.int (xs (i + 1)), .int (xs (i + 2))]) (a := 58) (pc := 356) G RR (c_X7_turns hL h1) mw_X7_turns lk_L_30 (hL.sh rfl) (by decide) rfl rfl ⟨(Nat.le_of_ble_eq_true rfl), (Nat.le_of_ble_eq_true rfl)⟩ ⟨by omega, by omega⟩ (Nat.le_of_ble_eq_true rfl) rfl dL_law_356 (sv_kI (fun r2 g2 h2 => ?_))
  exact sv_ic_eq (pc := 359) G 1375 rfl dL_law_359 (fun _ => sv_widen (by omega) (by omega) (K _ g2 h2.2)) (fun z => absurd h2.1 z)
theorem lw_c4 (G : sv_G x b xt RL cL_law 4) (RR : sv_R x 2048 84000 600000 7302249) (SC : lw_sc x bs L xs) (hL2 : L ≤ 3072) (hi : i + 6 ≤ L) (hcs : cs + 2 ≤ 600000) (hsl : sl + 99 ≤ 7302249) (h : Inv F g) (K : ∀ F' g', Inv F' g' → sv_AW x Q F' g' (cs + 2) (sl + 99) 1375 (lw_lv b bs i) []) : sv_AW x Q F g cs sl 364 (lw_lv b bs i) [] := by
  have hL := h.L
  refine sv_aload_n (pc := 364) G dL_law_364 2 rfl ?_
  refine lw_arg (pc := 365) 1 G SC hL2 (by omega) ic_1 dL_law_365 dL_law_366 dL_law_367 dL_law_368 dL_law_369 ?_
  refine lw_arg (pc := 370) 2 G SC hL2 (by omega) ic_2 dL_law_370 dL_law_371 dL_law_372 dL_law_373 dL_law_374 ?_
  refine lw_arg (pc := 375) 3 G SC hL2 (by omega) ic_3 dL_law_375 dL_law_376 dL_law_377 dL_law_378 dL_law_379 ?_
  refine sv_callV (cs := cs) (sl := sl) (st := []) (As := [.int (xs (i + 1)), .int (xs (i + 2)), .int (xs (i + 3))]) (a := 0) (pc := 380) G RR (c_X6_set hL (l_set h _ _ _)) mw_X6_set lk_L_31 (hL.sh rfl) (by decide) rfl rfl ⟨(Nat.le_of_ble_eq_true rfl), (Nat.le_of_ble_eq_true rfl)⟩ ⟨by omega, by omega⟩ (Nat.le_of_ble_eq_true rfl) rfl dL_law_380 (sv_kI (fun r g1 h1 => ?_))
  refine sv_aload_n (pc := 383) G dL_law_383 1 rfl ?_
  refine lw_arg (pc := 384) 1 G SC hL2 (by omega) ic_1 dL_law_384 dL_law_385 dL_law_386 dL_law_387 dL_law_388 ?_
  refine lw_arg (pc := 389) 2 G SC hL2 (by omega) ic_2 dL_law_389 dL_law_390 dL_law_391 dL_law_392 dL_law_393 ?_
  refine lw_arg (pc := 394) 3 G SC hL2 (by omega) ic_3 dL_law_394 dL_law_395 dL_law_396 dL_law_397 dL_law_398 ?_
  refine sv_callV (st := [.int r]) (As := [.int (xs (i + 1)), .int (xs (i + 2)), .int (xs (i + 3))]) (a := 58) (pc := 399) G RR (c_X7_set hL h1) mw_X7_set lk_L_35 (hL.sh rfl) (by decide) rfl rfl ⟨(Nat.le_of_ble_eq_true rfl), (Nat.le_of_ble_eq_true rfl)⟩ ⟨by omega, by omega⟩ (Nat.le_of_ble_eq_true rfl) rfl dL_law_399 (sv_kI (fun r2 g2 h2 => ?_))
  exact sv_ic_eq (pc := 402) G 1375 rfl dL_law_402 (fun _ => sv_widen (by omega) (by omega) (K _ g2 h2.2)) (fun z => absurd h2.1 z)
theorem lw_c5 (G : sv_G x b xt RL cL_law 4) (RR : sv_R x 2048 84000 600000 7302249) (SC : lw_sc x bs L xs) (hL2 : L ≤ 3072) (hi : i + 6 ≤ L) (hcs : cs + 2 ≤ 600000) (hsl : sl + 99 ≤ 7302249) (h : Inv F g) (K : ∀ F' g', Inv F' g' → sv_AW x Q F' g' (cs + 2) (sl + 99) 1375 (lw_lv b bs i) []) : sv_AW x Q F g cs sl 407 (lw_lv b bs i) [] := by
  have hL := h.L
  refine sv_aload_n (pc := 407) G dL_law_407 2 rfl ?_
  refine lw_arg (pc := 408) 1 G SC hL2 (by omega) ic_1 dL_law_408 dL_law_409 dL_law_410 dL_law_411 dL_law_412 ?_
  refine lw_arg (pc := 413) 2 G SC hL2 (by omega) ic_2 dL_law_413 dL_law_414 dL_law_415 dL_law_416 dL_law_417 ?_
  refine sv_callV (cs := cs) (sl := sl) (st := []) (As := [.int (xs (i + 1)), .int (xs (i + 2))]) (a := 0) (pc := 418) G RR (c_X6_rule hL (l_rule h _ _)) mw_X6_rule lk_L_36 (hL.sh rfl) (by decide) rfl rfl ⟨(Nat.le_of_ble_eq_true rfl), (Nat.le_of_ble_eq_true rfl)⟩ ⟨by omega, by omega⟩ (Nat.le_of_ble_eq_true rfl) rfl dL_law_418 (sv_kI (fun r g1 h1 => ?_))
  refine sv_aload_n (pc := 421) G dL_law_421 1 rfl ?_
  refine lw_arg (pc := 422) 1 G SC hL2 (by omega) ic_1 dL_law_422 dL_law_423 dL_law_424 dL_law_425 dL_law_426 ?_
  refine lw_arg (pc := 427) 2 G SC hL2 (by omega) ic_2 dL_law_427 dL_law_428 dL_law_429 dL_law_430 dL_law_431 ?_
  refine sv_callV (st := [.int r]) (As := [.int (xs (i + 1)), .int (xs (i + 2))]) (a := 58) (pc := 432) G RR (c_X7_rule hL h1) mw_X7_rule lk_L_39 (hL.sh rfl) (by decide) rfl rfl ⟨(Nat.le_of_ble_eq_true rfl), (Nat.le_of_ble_eq_true rfl)⟩ ⟨by omega, by omega⟩ (Nat.le_of_ble_eq_true rfl) rfl dL_law_432 (sv_kI (fun r2 g2 h2 => ?_))
  exact sv_ic_eq (pc := 435) G 1375 rfl dL_law_435 (fun _ => sv_widen (by omega) (by omega) (K _ g2 h2.2)) (fun z => absurd h2.1 z)
theorem lw_c6 (G : sv_G x b xt RL cL_law 4) (RR : sv_R x 2048 84000 600000 7302249) (SC : lw_sc x bs L xs) (hL2 : L ≤ 3072) (hi : i + 6 ≤ L) (hcs : cs + 2 ≤ 600000) (hsl : sl + 99 ≤ 7302249) (h : Inv F g) (K : ∀ F' g', Inv F' g' → sv_AW x Q F' g' (cs + 2) (sl + 99) 1375 (lw_lv b bs i) []) : sv_AW x Q F g cs sl 440 (lw_lv b bs i) [] := by
  have hL := h.L
  refine sv_aload_n (pc := 440) G dL_law_440 2 rfl ?_
  refine sv_callV (cs := cs) (sl := sl) (st := []) (As := []) (a := 0) (pc := 441) G RR (c_X6_again hL (l_again h)) mw_X6_again lk_L_40 (hL.sh rfl) (by decide) rfl rfl ⟨(Nat.le_of_ble_eq_true rfl), (Nat.le_of_ble_eq_true rfl)⟩ ⟨by omega, by omega⟩ (Nat.le_of_ble_eq_true rfl) rfl dL_law_441 (sv_kI (fun r g1 h1 => ?_))
  refine sv_aload_n (pc := 444) G dL_law_444 1 rfl ?_
  refine sv_callV (st := [.int r]) (As := []) (a := 58) (pc := 445) G RR (c_X7_again hL h1) mw_X7_again lk_L_44 (hL.sh rfl) (by decide) rfl rfl ⟨(Nat.le_of_ble_eq_true rfl), (Nat.le_of_ble_eq_true rfl)⟩ ⟨by omega, by omega⟩ (Nat.le_of_ble_eq_true rfl) rfl dL_law_445 (sv_kI (fun r2 g2 h2 => ?_))
  exact sv_ic_eq (pc := 448) G 1375 rfl dL_law_448 (fun _ => sv_widen (by omega) (by omega) (K _ g2 h2.2)) (fun z => absurd h2.1 z)
theorem lw_c7 (G : sv_G x b xt RL cL_law 4) (RR : sv_R x 2048 84000 600000 7302249) (SC : lw_sc x bs L xs) (hL2 : L ≤ 3072) (hi : i + 6 ≤ L) (hcs : cs + 2 ≤ 600000) (hsl : sl + 99 ≤ 7302249) (h : Inv F g) (K : ∀ F' g', Inv F' g' → sv_AW x Q F' g' (cs + 2) (sl + 99) 1375 (lw_lv b bs i) []) : sv_AW x Q F g cs sl 453 (lw_lv b bs i) [] := by
  have hL := h.L
  refine sv_aload_n (pc := 453) G dL_law_453 2 rfl ?_
  refine lw_arg (pc := 454) 1 G SC hL2 (by omega) ic_1 dL_law_454 dL_law_455 dL_law_456 dL_law_457 dL_law_458 ?_
  refine sv_callV (cs := cs) (sl := sl) (st := []) (As := [.int (xs (i + 1))]) (a := 0) (pc := 459) G RR (c_X6_deal hL (l_deal h _)) mw_X6_deal lk_L_45 (hL.sh rfl) (by decide) rfl rfl ⟨(Nat.le_of_ble_eq_true rfl), (Nat.le_of_ble_eq_true rfl)⟩ ⟨by omega, by omega⟩ (Nat.le_of_ble_eq_true rfl) rfl dL_law_459 (sv_kI (fun r g1 h1 => ?_))
  refine sv_aload_n (pc := 462) G dL_law_462 1 rfl ?_
  refine lw_arg (pc := 463) 1 G SC hL2 (by omega) ic_1 dL_law_463 dL_law_464 dL_law_465 dL_law_466 dL_law_467 ?_
  refine sv_callV (st := [.int r]) (As := [.int (xs (i + 1))]) (a := 58) (pc := 468) G RR (c_X7_deal hL h1) mw_X7_deal lk_L_49 (hL.sh rfl) (by decide) rfl rfl ⟨(Nat.le_of_ble_eq_true rfl), (Nat.le_of_ble_eq_true rfl)⟩ ⟨by omega, by omega⟩ (Nat.le_of_ble_eq_true rfl) rfl dL_law_468 (sv_kI (fun r2 g2 h2 => ?_))
  exact sv_ic_eq (pc := 471) G 1375 rfl dL_law_471 (fun _ => sv_widen (by omega) (by omega) (K _ g2 h2.2)) (fun z => absurd h2.1 z)
theorem lw_c8 (G : sv_G x b xt RL cL_law 4) (RR : sv_R x 2048 84000 600000 7302249) (SC : lw_sc x bs L xs) (hL2 : L ≤ 3072) (hi : i + 6 ≤ L) (hcs : cs + 2 ≤ 600000) (hsl : sl + 99 ≤ 7302249) (h : Inv F g) (K : ∀ F' g', Inv F' g' → sv_AW x Q F' g' (cs + 2) (sl + 99) 1375 (lw_lv b bs i) []) : sv_AW x Q F g cs sl 476 (lw_lv b bs i) [] := by
  have hL := h.L
  refine sv_aload_n (pc := 476) G dL_law_476 2 rfl ?_
  refine lw_arg (pc := 477) 1 G SC hL2 (by omega) ic_1 dL_law_477 dL_law_478 dL_law_479 dL_law_480 dL_law_481 ?_
  refine sv_callV (cs := cs) (sl := sl) (st := []) (As := [.int (xs (i + 1))]) (a := 0) (pc := 482) G RR (c_X6_seed hL (l_seed h _)) mw_X6_seed lk_L_50 (hL.sh rfl) (by decide) rfl rfl ⟨(Nat.le_of_ble_eq_true rfl), (Nat.le_of_ble_eq_true rfl)⟩ ⟨by omega, by omega⟩ (Nat.le_of_ble_eq_true rfl) rfl dL_law_482 (sv_kI (fun r g1 h1 => ?_))
  refine sv_aload_n (pc := 485) G dL_law_485 1 rfl ?_
  refine lw_arg (pc := 486) 1 G SC hL2 (by omega) ic_1 dL_law_486 dL_law_487 dL_law_488 dL_law_489 dL_law_490 ?_
  refine sv_callV (st := [.int r]) (As := [.int (xs (i + 1))]) (a := 58) (pc := 491) G RR (c_X7_seed hL h1) mw_X7_seed lk_L_53 (hL.sh rfl) (by decide) rfl rfl ⟨(Nat.le_of_ble_eq_true rfl), (Nat.le_of_ble_eq_true rfl)⟩ ⟨by omega, by omega⟩ (Nat.le_of_ble_eq_true rfl) rfl dL_law_491 (sv_kI (fun r2 g2 h2 => ?_))
  exact sv_ic_eq (pc := 494) G 1375 rfl dL_law_494 (fun _ => sv_widen (by omega) (by omega) (K _ g2 h2.2)) (fun z => absurd h2.1 z)
theorem lw_c9 (G : sv_G x b xt RL cL_law 4) (RR : sv_R x 2048 84000 600000 7302249) (SC : lw_sc x bs L xs) (hL2 : L ≤ 3072) (hi : i + 6 ≤ L) (hcs : cs + 2 ≤ 600000) (hsl : sl + 99 ≤ 7302249) (h : Inv F g) (K : ∀ F' g', Inv F' g' → sv_AW x Q F' g' (cs + 2) (sl + 99) 1375 (lw_lv b bs i) []) : sv_AW x Q F g cs sl 499 (lw_lv b bs i) [] := by
  have hL := h.L
  refine sv_aload_n (pc := 499) G dL_law_499 2 rfl ?_
  refine lw_arg (pc := 500) 1 G SC hL2 (by omega) ic_1 dL_law_500 dL_law_501 dL_law_502 dL_law_503 dL_law_504 ?_
  refine sv_callV (cs := cs) (sl := sl) (st := []) (As := [.int (xs (i + 1))]) (a := 0) (pc := 505) G RR (c_X6_rounds hL (l_rounds h _)) mw_X6_rounds lk_L_54 (hL.sh rfl) (by decide) rfl rfl ⟨(Nat.le_of_ble_eq_true rfl), (Nat.le_of_ble_eq_true rfl)⟩ ⟨by omega, by omega⟩ (Nat.le_of_ble_eq_true rfl) rfl dL_law_505 (sv_kI (fun r g1 h1 => ?_))
  refine sv_aload_n (pc := 508) G dL_law_508 1 rfl ?_
  refine lw_arg (pc := 509) 1 G SC hL2 (by omega) ic_1 dL_law_509 dL_law_510 dL_law_511 dL_law_512 dL_law_513 ?_
  refine sv_callV (st := [.int r]) (As := [.int (xs (i + 1))]) (a := 58) (pc := 514) G RR (c_X7_rounds hL h1) mw_X7_rounds lk_L_57 (hL.sh rfl) (by decide) rfl rfl ⟨(Nat.le_of_ble_eq_true rfl), (Nat.le_of_ble_eq_true rfl)⟩ ⟨by omega, by omega⟩ (Nat.le_of_ble_eq_true rfl) rfl dL_law_514 (sv_kI (fun r2 g2 h2 => ?_))
  exact sv_ic_eq (pc := 517) G 1375 rfl dL_law_517 (fun _ => sv_widen (by omega) (by omega) (K _ g2 h2.2)) (fun z => absurd h2.1 z)
theorem lw_c10 (G : sv_G x b xt RL cL_law 4) (RR : sv_R x 2048 84000 600000 7302249) (SC : lw_sc x bs L xs) (hL2 : L ≤ 3072) (hi : i + 6 ≤ L) (hcs : cs + 2 ≤ 600000) (hsl : sl + 99 ≤ 7302249) (h : Inv F g) (K : ∀ F' g', Inv F' g' → sv_AW x Q F' g' (cs + 2) (sl + 99) 1375 (lw_lv b bs i) []) : sv_AW x Q F g cs sl 522 (lw_lv b bs i) [] := by
  have hL := h.L
  refine sv_aload_n (pc := 522) G dL_law_522 2 rfl ?_
  refine lw_arg (pc := 523) 1 G SC hL2 (by omega) ic_1 dL_law_523 dL_law_524 dL_law_525 dL_law_526 dL_law_527 ?_
  refine sv_callV (cs := cs) (sl := sl) (st := []) (As := [.int (xs (i + 1))]) (a := 0) (pc := 528) G RR (c_X6_conclave hL (l_conclave h _)) mw_X6_conclave lk_L_58 (hL.sh rfl) (by decide) rfl rfl ⟨(Nat.le_of_ble_eq_true rfl), (Nat.le_of_ble_eq_true rfl)⟩ ⟨by omega, by omega⟩ (Nat.le_of_ble_eq_true rfl) rfl dL_law_528 (sv_kI (fun r g1 h1 => ?_))
  refine sv_aload_n (pc := 531) G dL_law_531 1 rfl ?_
  refine lw_arg (pc := 532) 1 G SC hL2 (by omega) ic_1 dL_law_532 dL_law_533 dL_law_534 dL_law_535 dL_law_536 ?_
  refine sv_callV (st := [.int r]) (As := [.int (xs (i + 1))]) (a := 58) (pc := 537) G RR (c_X7_conclave hL h1) mw_X7_conclave lk_L_61 (hL.sh rfl) (by decide) rfl rfl ⟨(Nat.le_of_ble_eq_true rfl), (Nat.le_of_ble_eq_true rfl)⟩ ⟨by omega, by omega⟩ (Nat.le_of_ble_eq_true rfl) rfl dL_law_537 (sv_kI (fun r2 g2 h2 => ?_))
  exact sv_ic_eq (pc := 540) G 1375 rfl dL_law_540 (fun _ => sv_widen (by omega) (by omega) (K _ g2 h2.2)) (fun z => absurd h2.1 z)
theorem lw_c11 (G : sv_G x b xt RL cL_law 4) (RR : sv_R x 2048 84000 600000 7302249) (SC : lw_sc x bs L xs) (hL2 : L ≤ 3072) (hi : i + 6 ≤ L) (hcs : cs + 2 ≤ 600000) (hsl : sl + 99 ≤ 7302249) (h : Inv F g) (K : ∀ F' g', Inv F' g' → sv_AW x Q F' g' (cs + 2) (sl + 99) 1375 (lw_lv b bs i) []) : sv_AW x Q F g cs sl 545 (lw_lv b bs i) [] := by
  have hL := h.L
  refine sv_aload_n (pc := 545) G dL_law_545 2 rfl ?_
  refine sv_callV (cs := cs) (sl := sl) (st := []) (As := []) (a := 0) (pc := 546) G RR (c_X6_butOne hL (l_butOne h)) mw_X6_butOne lk_L_62 (hL.sh rfl) (by decide) rfl rfl ⟨(Nat.le_of_ble_eq_true rfl), (Nat.le_of_ble_eq_true rfl)⟩ ⟨by omega, by omega⟩ (Nat.le_of_ble_eq_true rfl) rfl dL_law_546 (sv_kI (fun r g1 h1 => ?_))
  refine sv_aload_n (pc := 549) G dL_law_549 1 rfl ?_
  refine sv_callV (st := [.int r]) (As := []) (a := 58) (pc := 550) G RR (c_X7_butOne hL h1) mw_X7_butOne lk_L_65 (hL.sh rfl) (by decide) rfl rfl ⟨(Nat.le_of_ble_eq_true rfl), (Nat.le_of_ble_eq_true rfl)⟩ ⟨by omega, by omega⟩ (Nat.le_of_ble_eq_true rfl) rfl dL_law_550 (sv_kI (fun r2 g2 h2 => ?_))
  exact sv_ic_eq (pc := 553) G 1375 rfl dL_law_553 (fun _ => sv_widen (by omega) (by omega) (K _ g2 h2.2)) (fun z => absurd h2.1 z)
theorem lw_c12 (G : sv_G x b xt RL cL_law 4) (RR : sv_R x 2048 84000 600000 7302249) (SC : lw_sc x bs L xs) (hL2 : L ≤ 3072) (hi : i + 6 ≤ L) (hcs : cs + 2 ≤ 600000) (hsl : sl + 99 ≤ 7302249) (h : Inv F g) (K : ∀ F' g', Inv F' g' → sv_AW x Q F' g' (cs + 2) (sl + 99) 1375 (lw_lv b bs i) []) : sv_AW x Q F g cs sl 558 (lw_lv b bs i) [] := by
  have hL := h.L
  refine sv_aload_n (pc := 558) G dL_law_558 2 rfl ?_
  refine sv_callV (cs := cs) (sl := sl) (st := []) (As := []) (a := 0) (pc := 559) G RR (c_X6_decides hL (l_decides h)) mw_X6_decides lk_L_66 (hL.sh rfl) (by decide) rfl rfl ⟨(Nat.le_of_ble_eq_true rfl), (Nat.le_of_ble_eq_true rfl)⟩ ⟨by omega, by omega⟩ (Nat.le_of_ble_eq_true rfl) rfl dL_law_559 (sv_kI (fun r g1 h1 => ?_))
  refine sv_aload_n (pc := 562) G dL_law_562 1 rfl ?_
  refine sv_callV (st := [.int r]) (As := []) (a := 58) (pc := 563) G RR (c_X7_decides hL h1) mw_X7_decides lk_L_69 (hL.sh rfl) (by decide) rfl rfl ⟨(Nat.le_of_ble_eq_true rfl), (Nat.le_of_ble_eq_true rfl)⟩ ⟨by omega, by omega⟩ (Nat.le_of_ble_eq_true rfl) rfl dL_law_563 (sv_kI (fun r2 g2 h2 => ?_))
  exact sv_ic_eq (pc := 566) G 1375 rfl dL_law_566 (fun _ => sv_widen (by omega) (by omega) (K _ g2 h2.2)) (fun z => absurd h2.1 z)
theorem lw_c13 (G : sv_G x b xt RL cL_law 4) (RR : sv_R x 2048 84000 600000 7302249) (SC : lw_sc x bs L xs) (hL2 : L ≤ 3072) (hi : i + 6 ≤ L) (hcs : cs + 2 ≤ 600000) (hsl : sl + 99 ≤ 7302249) (h : Inv F g) (K : ∀ F' g', Inv F' g' → sv_AW x Q F' g' (cs + 2) (sl + 99) 1375 (lw_lv b bs i) []) : sv_AW x Q F g cs sl 571 (lw_lv b bs i) [] := by
  have hL := h.L
  refine sv_aload_n (pc := 571) G dL_law_571 2 rfl ?_
  refine lw_arg (pc := 572) 1 G SC hL2 (by omega) ic_1 dL_law_572 dL_law_573 dL_law_574 dL_law_575 dL_law_576 ?_
  refine lw_arg (pc := 577) 2 G SC hL2 (by omega) ic_2 dL_law_577 dL_law_578 dL_law_579 dL_law_580 dL_law_581 ?_
  refine sv_callV (cs := cs) (sl := sl) (st := []) (As := [.int (xs (i + 1)), .int (xs (i + 2))]) (a := 0) (pc := 582) G RR (c_X6_splits hL (l_splits h _ _)) mw_X6_splits lk_L_70 (hL.sh rfl) (by decide) rfl rfl ⟨(Nat.le_of_ble_eq_true rfl), (Nat.le_of_ble_eq_true rfl)⟩ ⟨by omega, by omega⟩ (Nat.le_of_ble_eq_true rfl) rfl dL_law_582 (sv_kI (fun r g1 h1 => ?_))
  refine sv_aload_n (pc := 585) G dL_law_585 1 rfl ?_
  refine lw_arg (pc := 586) 1 G SC hL2 (by omega) ic_1 dL_law_586 dL_law_587 dL_law_588 dL_law_589 dL_law_590 ?_
  refine lw_arg (pc := 591) 2 G SC hL2 (by omega) ic_2 dL_law_591 dL_law_592 dL_law_593 dL_law_594 dL_law_595 ?_
  refine sv_callV (st := [.int r]) (As := [.int (xs (i + 1)), .int (xs (i + 2))]) (a := 58) (pc := 596) G RR (c_X7_splits hL h1) mw_X7_splits lk_L_73 (hL.sh rfl) (by decide) rfl rfl ⟨(Nat.le_of_ble_eq_true rfl), (Nat.le_of_ble_eq_true rfl)⟩ ⟨by omega, by omega⟩ (Nat.le_of_ble_eq_true rfl) rfl dL_law_596 (sv_kI (fun r2 g2 h2 => ?_))
  exact sv_ic_eq (pc := 599) G 1375 rfl dL_law_599 (fun _ => sv_widen (by omega) (by omega) (K _ g2 h2.2)) (fun z => absurd h2.1 z)
theorem lw_c14 (G : sv_G x b xt RL cL_law 4) (RR : sv_R x 2048 84000 600000 7302249) (SC : lw_sc x bs L xs) (hL2 : L ≤ 3072) (hi : i + 6 ≤ L) (hcs : cs + 2 ≤ 600000) (hsl : sl + 99 ≤ 7302249) (h : Inv F g) (K : ∀ F' g', Inv F' g' → sv_AW x Q F' g' (cs + 2) (sl + 99) 1375 (lw_lv b bs i) []) : sv_AW x Q F g cs sl 604 (lw_lv b bs i) [] := by
  have hL := h.L
  refine sv_aload_n (pc := 604) G dL_law_604 2 rfl ?_
  refine lw_arg (pc := 605) 1 G SC hL2 (by omega) ic_1 dL_law_605 dL_law_606 dL_law_607 dL_law_608 dL_law_609 ?_
  refine lw_arg (pc := 610) 2 G SC hL2 (by omega) ic_2 dL_law_610 dL_law_611 dL_law_612 dL_law_613 dL_law_614 ?_
  refine sv_callV (cs := cs) (sl := sl) (st := []) (As := [.int (xs (i + 1)), .int (xs (i + 2))]) (a := 0) (pc := 615) G RR (c_X6_behind hL (l_behind h _ _)) mw_X6_behind lk_L_74 (hL.sh rfl) (by decide) rfl rfl ⟨(Nat.le_of_ble_eq_true rfl), (Nat.le_of_ble_eq_true rfl)⟩ ⟨by omega, by omega⟩ (Nat.le_of_ble_eq_true rfl) rfl dL_law_615 (sv_kI (fun r g1 h1 => ?_))
  refine sv_aload_n (pc := 618) G dL_law_618 1 rfl ?_
  refine lw_arg (pc := 619) 1 G SC hL2 (by omega) ic_1 dL_law_619 dL_law_620 dL_law_621 dL_law_622 dL_law_623 ?_
  refine lw_arg (pc := 624) 2 G SC hL2 (by omega) ic_2 dL_law_624 dL_law_625 dL_law_626 dL_law_627 dL_law_628 ?_
  refine sv_callV (st := [.int r]) (As := [.int (xs (i + 1)), .int (xs (i + 2))]) (a := 58) (pc := 629) G RR (c_X7_behind hL h1) mw_X7_behind lk_L_77 (hL.sh rfl) (by decide) rfl rfl ⟨(Nat.le_of_ble_eq_true rfl), (Nat.le_of_ble_eq_true rfl)⟩ ⟨by omega, by omega⟩ (Nat.le_of_ble_eq_true rfl) rfl dL_law_629 (sv_kI (fun r2 g2 h2 => ?_))
  exact sv_ic_eq (pc := 632) G 1375 rfl dL_law_632 (fun _ => sv_widen (by omega) (by omega) (K _ g2 h2.2)) (fun z => absurd h2.1 z)
theorem lw_c15 (G : sv_G x b xt RL cL_law 4) (RR : sv_R x 2048 84000 600000 7302249) (SC : lw_sc x bs L xs) (hL2 : L ≤ 3072) (hi : i + 6 ≤ L) (hcs : cs + 2 ≤ 600000) (hsl : sl + 99 ≤ 7302249) (h : Inv F g) (K : ∀ F' g', Inv F' g' → sv_AW x Q F' g' (cs + 2) (sl + 99) 1375 (lw_lv b bs i) []) : sv_AW x Q F g cs sl 637 (lw_lv b bs i) [] := by
  have hL := h.L
  refine sv_aload_n (pc := 637) G dL_law_637 2 rfl ?_
  refine sv_callV (cs := cs) (sl := sl) (st := []) (As := []) (a := 0) (pc := 638) G RR (c_X6_ends hL (l_ends h)) mw_X6_ends lk_L_78 (hL.sh rfl) (by decide) rfl rfl ⟨(Nat.le_of_ble_eq_true rfl), (Nat.le_of_ble_eq_true rfl)⟩ ⟨by omega, by omega⟩ (Nat.le_of_ble_eq_true rfl) rfl dL_law_638 (sv_kI (fun r g1 h1 => ?_))
  refine sv_aload_n (pc := 641) G dL_law_641 1 rfl ?_
  refine sv_callV (st := [.int r]) (As := []) (a := 58) (pc := 642) G RR (c_X7_ends hL h1) mw_X7_ends lk_L_81 (hL.sh rfl) (by decide) rfl rfl ⟨(Nat.le_of_ble_eq_true rfl), (Nat.le_of_ble_eq_true rfl)⟩ ⟨by omega, by omega⟩ (Nat.le_of_ble_eq_true rfl) rfl dL_law_642 (sv_kI (fun r2 g2 h2 => ?_))
  exact sv_ic_eq (pc := 645) G 1375 rfl dL_law_645 (fun _ => sv_widen (by omega) (by omega) (K _ g2 h2.2)) (fun z => absurd h2.1 z)
theorem lw_c16 (G : sv_G x b xt RL cL_law 4) (RR : sv_R x 2048 84000 600000 7302249) (SC : lw_sc x bs L xs) (hL2 : L ≤ 3072) (hi : i + 6 ≤ L) (hcs : cs + 2 ≤ 600000) (hsl : sl + 99 ≤ 7302249) (h : Inv F g) (K : ∀ F' g', Inv F' g' → sv_AW x Q F' g' (cs + 2) (sl + 99) 1375 (lw_lv b bs i) []) : sv_AW x Q F g cs sl 650 (lw_lv b bs i) [] := by
  have hL := h.L
  refine sv_aload_n (pc := 650) G dL_law_650 2 rfl ?_
  refine lw_arg (pc := 651) 1 G SC hL2 (by omega) ic_1 dL_law_651 dL_law_652 dL_law_653 dL_law_654 dL_law_655 ?_
  refine lw_arg (pc := 656) 2 G SC hL2 (by omega) ic_2 dL_law_656 dL_law_657 dL_law_658 dL_law_659 dL_law_660 ?_
  refine lw_arg (pc := 661) 3 G SC hL2 (by omega) ic_3 dL_law_661 dL_law_662 dL_law_663 dL_law_664 dL_law_665 ?_
  refine sv_callV (cs := cs) (sl := sl) (st := []) (As := [.int (xs (i + 1)), .int (xs (i + 2)), .int (xs (i + 3))]) (a := 0) (pc := 666) G RR (c_X6_won hL (l_won h _ _ _)) mw_X6_won lk_L_82 (hL.sh rfl) (by decide) rfl rfl ⟨(Nat.le_of_ble_eq_true rfl), (Nat.le_of_ble_eq_true rfl)⟩ ⟨by omega, by omega⟩ (Nat.le_of_ble_eq_true rfl) rfl dL_law_666 (sv_kI (fun r g1 h1 => ?_))
  refine sv_aload_n (pc := 669) G dL_law_669 1 rfl ?_
  refine lw_arg (pc := 670) 1 G SC hL2 (by omega) ic_1 dL_law_670 dL_law_671 dL_law_672 dL_law_673 dL_law_674 ?_
  refine lw_arg (pc := 675) 2 G SC hL2 (by omega) ic_2 dL_law_675 dL_law_676 dL_law_677 dL_law_678 dL_law_679 ?_
  refine lw_arg (pc := 680) 3 G SC hL2 (by omega) ic_3 dL_law_680 dL_law_681 dL_law_682 dL_law_683 dL_law_684 ?_
  refine sv_callV (st := [.int r]) (As := [.int (xs (i + 1)), .int (xs (i + 2)), .int (xs (i + 3))]) (a := 58) (pc := 685) G RR (c_X7_won hL h1) mw_X7_won lk_L_85 (hL.sh rfl) (by decide) rfl rfl ⟨(Nat.le_of_ble_eq_true rfl), (Nat.le_of_ble_eq_true rfl)⟩ ⟨by omega, by omega⟩ (Nat.le_of_ble_eq_true rfl) rfl dL_law_685 (sv_kI (fun r2 g2 h2 => ?_))
  exact sv_ic_eq (pc := 688) G 1375 rfl dL_law_688 (fun _ => sv_widen (by omega) (by omega) (K _ g2 h2.2)) (fun z => absurd h2.1 z)
theorem lw_c17 (G : sv_G x b xt RL cL_law 4) (RR : sv_R x 2048 84000 600000 7302249) (SC : lw_sc x bs L xs) (hL2 : L ≤ 3072) (hi : i + 6 ≤ L) (hcs : cs + 2 ≤ 600000) (hsl : sl + 99 ≤ 7302249) (h : Inv F g) (K : ∀ F' g', Inv F' g' → sv_AW x Q F' g' (cs + 2) (sl + 99) 1375 (lw_lv b bs i) []) : sv_AW x Q F g cs sl 693 (lw_lv b bs i) [] := by
  have hL := h.L
  refine sv_aload_n (pc := 693) G dL_law_693 2 rfl ?_
  refine lw_arg (pc := 694) 1 G SC hL2 (by omega) ic_1 dL_law_694 dL_law_695 dL_law_696 dL_law_697 dL_law_698 ?_
  refine sv_callV (cs := cs) (sl := sl) (st := []) (As := [.int (xs (i + 1))]) (a := 0) (pc := 699) G RR (c_X6_party hL (l_party h _)) mw_X6_party lk_L_86 (hL.sh rfl) (by decide) rfl rfl ⟨(Nat.le_of_ble_eq_true rfl), (Nat.le_of_ble_eq_true rfl)⟩ ⟨by omega, by omega⟩ (Nat.le_of_ble_eq_true rfl) rfl dL_law_699 (sv_kI (fun r g1 h1 => ?_))
  refine sv_aload_n (pc := 702) G dL_law_702 1 rfl ?_
  refine lw_arg (pc := 703) 1 G SC hL2 (by omega) ic_1 dL_law_703 dL_law_704 dL_law_705 dL_law_706 dL_law_707 ?_
  refine sv_callV (st := [.int r]) (As := [.int (xs (i + 1))]) (a := 58) (pc := 708) G RR (c_X7_party hL h1) mw_X7_party lk_L_89 (hL.sh rfl) (by decide) rfl rfl ⟨(Nat.le_of_ble_eq_true rfl), (Nat.le_of_ble_eq_true rfl)⟩ ⟨by omega, by omega⟩ (Nat.le_of_ble_eq_true rfl) rfl dL_law_708 (sv_kI (fun r2 g2 h2 => ?_))
  exact sv_ic_eq (pc := 711) G 1375 rfl dL_law_711 (fun _ => sv_widen (by omega) (by omega) (K _ g2 h2.2)) (fun z => absurd h2.1 z)
theorem lw_c18 (G : sv_G x b xt RL cL_law 4) (RR : sv_R x 2048 84000 600000 7302249) (SC : lw_sc x bs L xs) (hL2 : L ≤ 3072) (hi : i + 6 ≤ L) (hcs : cs + 2 ≤ 600000) (hsl : sl + 99 ≤ 7302249) (h : Inv F g) (K : ∀ F' g', Inv F' g' → sv_AW x Q F' g' (cs + 2) (sl + 99) 1375 (lw_lv b bs i) []) : sv_AW x Q F g cs sl 716 (lw_lv b bs i) [] := by
  have hL := h.L
  refine sv_aload_n (pc := 716) G dL_law_716 2 rfl ?_
  refine lw_arg (pc := 717) 1 G SC hL2 (by omega) ic_1 dL_law_717 dL_law_718 dL_law_719 dL_law_720 dL_law_721 ?_
  refine sv_callV (cs := cs) (sl := sl) (st := []) (As := [.int (xs (i + 1))]) (a := 0) (pc := 722) G RR (c_X6_smokes hL (l_smokes h _)) mw_X6_smokes lk_L_90 (hL.sh rfl) (by decide) rfl rfl ⟨(Nat.le_of_ble_eq_true rfl), (Nat.le_of_ble_eq_true rfl)⟩ ⟨by omega, by omega⟩ (Nat.le_of_ble_eq_true rfl) rfl dL_law_722 (sv_kI (fun r g1 h1 => ?_))
  refine sv_aload_n (pc := 725) G dL_law_725 1 rfl ?_
  refine lw_arg (pc := 726) 1 G SC hL2 (by omega) ic_1 dL_law_726 dL_law_727 dL_law_728 dL_law_729 dL_law_730 ?_
  refine sv_callV (st := [.int r]) (As := [.int (xs (i + 1))]) (a := 58) (pc := 731) G RR (c_X7_smokes hL h1) mw_X7_smokes lk_L_93 (hL.sh rfl) (by decide) rfl rfl ⟨(Nat.le_of_ble_eq_true rfl), (Nat.le_of_ble_eq_true rfl)⟩ ⟨by omega, by omega⟩ (Nat.le_of_ble_eq_true rfl) rfl dL_law_731 (sv_kI (fun r2 g2 h2 => ?_))
  exact sv_ic_eq (pc := 734) G 1375 rfl dL_law_734 (fun _ => sv_widen (by omega) (by omega) (K _ g2 h2.2)) (fun z => absurd h2.1 z)
theorem lw_c19 (G : sv_G x b xt RL cL_law 4) (RR : sv_R x 2048 84000 600000 7302249) (SC : lw_sc x bs L xs) (hL2 : L ≤ 3072) (hi : i + 6 ≤ L) (hcs : cs + 2 ≤ 600000) (hsl : sl + 99 ≤ 7302249) (h : Inv F g) (K : ∀ F' g', Inv F' g' → sv_AW x Q F' g' (cs + 2) (sl + 99) 1375 (lw_lv b bs i) []) : sv_AW x Q F g cs sl 739 (lw_lv b bs i) [] := by
  have hL := h.L
  refine sv_aload_n (pc := 739) G dL_law_739 2 rfl ?_
  refine lw_arg (pc := 740) 1 G SC hL2 (by omega) ic_1 dL_law_740 dL_law_741 dL_law_742 dL_law_743 dL_law_744 ?_
  refine lw_arg (pc := 745) 2 G SC hL2 (by omega) ic_2 dL_law_745 dL_law_746 dL_law_747 dL_law_748 dL_law_749 ?_
  refine sv_callV (cs := cs) (sl := sl) (st := []) (As := [.int (xs (i + 1)), .int (xs (i + 2))]) (a := 0) (pc := 750) G RR (c_X6_fits hL (l_fits h _ _)) mw_X6_fits lk_L_94 (hL.sh rfl) (by decide) rfl rfl ⟨(Nat.le_of_ble_eq_true rfl), (Nat.le_of_ble_eq_true rfl)⟩ ⟨by omega, by omega⟩ (Nat.le_of_ble_eq_true rfl) rfl dL_law_750 (sv_kI (fun r g1 h1 => ?_))
  refine sv_aload_n (pc := 753) G dL_law_753 1 rfl ?_
  refine lw_arg (pc := 754) 1 G SC hL2 (by omega) ic_1 dL_law_754 dL_law_755 dL_law_756 dL_law_757 dL_law_758 ?_
  refine lw_arg (pc := 759) 2 G SC hL2 (by omega) ic_2 dL_law_759 dL_law_760 dL_law_761 dL_law_762 dL_law_763 ?_
  refine sv_callV (st := [.int r]) (As := [.int (xs (i + 1)), .int (xs (i + 2))]) (a := 58) (pc := 764) G RR (c_X7_fits hL h1) mw_X7_fits lk_L_97 (hL.sh rfl) (by decide) rfl rfl ⟨(Nat.le_of_ble_eq_true rfl), (Nat.le_of_ble_eq_true rfl)⟩ ⟨by omega, by omega⟩ (Nat.le_of_ble_eq_true rfl) rfl dL_law_764 (sv_kI (fun r2 g2 h2 => ?_))
  exact sv_ic_eq (pc := 767) G 1375 rfl dL_law_767 (fun _ => sv_widen (by omega) (by omega) (K _ g2 h2.2)) (fun z => absurd h2.1 z)
theorem lw_c20 (G : sv_G x b xt RL cL_law 4) (RR : sv_R x 2048 84000 600000 7302249) (SC : lw_sc x bs L xs) (hL2 : L ≤ 3072) (hi : i + 6 ≤ L) (hcs : cs + 2 ≤ 600000) (hsl : sl + 99 ≤ 7302249) (h : Inv F g) (K : ∀ F' g', Inv F' g' → sv_AW x Q F' g' (cs + 2) (sl + 99) 1375 (lw_lv b bs i) []) : sv_AW x Q F g cs sl 772 (lw_lv b bs i) [] := by
  have hL := h.L
  refine sv_aload_n (pc := 772) G dL_law_772 2 rfl ?_
  refine sv_callV (cs := cs) (sl := sl) (st := []) (As := []) (a := 0) (pc := 773) G RR (c_X6_fee hL (l_fee h)) mw_X6_fee lk_L_98 (hL.sh rfl) (by decide) rfl rfl ⟨(Nat.le_of_ble_eq_true rfl), (Nat.le_of_ble_eq_true rfl)⟩ ⟨by omega, by omega⟩ (Nat.le_of_ble_eq_true rfl) rfl dL_law_773 (sv_kI (fun r g1 h1 => ?_))
  refine sv_aload_n (pc := 776) G dL_law_776 1 rfl ?_
  refine sv_callV (st := [.int r]) (As := []) (a := 58) (pc := 777) G RR (c_X7_fee hL h1) mw_X7_fee lk_L_101 (hL.sh rfl) (by decide) rfl rfl ⟨(Nat.le_of_ble_eq_true rfl), (Nat.le_of_ble_eq_true rfl)⟩ ⟨by omega, by omega⟩ (Nat.le_of_ble_eq_true rfl) rfl dL_law_777 (sv_kI (fun r2 g2 h2 => ?_))
  exact sv_ic_eq (pc := 780) G 1375 rfl dL_law_780 (fun _ => sv_widen (by omega) (by omega) (K _ g2 h2.2)) (fun z => absurd h2.1 z)
theorem lw_c21 (G : sv_G x b xt RL cL_law 4) (RR : sv_R x 2048 84000 600000 7302249) (SC : lw_sc x bs L xs) (hL2 : L ≤ 3072) (hi : i + 6 ≤ L) (hcs : cs + 2 ≤ 600000) (hsl : sl + 99 ≤ 7302249) (h : Inv F g) (K : ∀ F' g', Inv F' g' → sv_AW x Q F' g' (cs + 2) (sl + 99) 1375 (lw_lv b bs i) []) : sv_AW x Q F g cs sl 785 (lw_lv b bs i) [] := by
  have hL := h.L
  refine sv_aload_n (pc := 785) G dL_law_785 2 rfl ?_
  refine lw_arg (pc := 786) 1 G SC hL2 (by omega) ic_1 dL_law_786 dL_law_787 dL_law_788 dL_law_789 dL_law_790 ?_
  refine sv_callV (cs := cs) (sl := sl) (st := []) (As := [.int (xs (i + 1))]) (a := 0) (pc := 791) G RR (c_X6_fine hL (l_fine h _)) mw_X6_fine lk_L_102 (hL.sh rfl) (by decide) rfl rfl ⟨(Nat.le_of_ble_eq_true rfl), (Nat.le_of_ble_eq_true rfl)⟩ ⟨by omega, by omega⟩ (Nat.le_of_ble_eq_true rfl) rfl dL_law_791 (sv_kI (fun r g1 h1 => ?_))
  refine sv_aload_n (pc := 794) G dL_law_794 1 rfl ?_
  refine lw_arg (pc := 795) 1 G SC hL2 (by omega) ic_1 dL_law_795 dL_law_796 dL_law_797 dL_law_798 dL_law_799 ?_
  refine sv_callV (st := [.int r]) (As := [.int (xs (i + 1))]) (a := 58) (pc := 800) G RR (c_X7_fine hL h1) mw_X7_fine lk_L_105 (hL.sh rfl) (by decide) rfl rfl ⟨(Nat.le_of_ble_eq_true rfl), (Nat.le_of_ble_eq_true rfl)⟩ ⟨by omega, by omega⟩ (Nat.le_of_ble_eq_true rfl) rfl dL_law_800 (sv_kI (fun r2 g2 h2 => ?_))
  exact sv_ic_eq (pc := 803) G 1375 rfl dL_law_803 (fun _ => sv_widen (by omega) (by omega) (K _ g2 h2.2)) (fun z => absurd h2.1 z)
theorem lw_c22 (G : sv_G x b xt RL cL_law 4) (RR : sv_R x 2048 84000 600000 7302249) (SC : lw_sc x bs L xs) (hL2 : L ≤ 3072) (hi : i + 6 ≤ L) (hcs : cs + 2 ≤ 600000) (hsl : sl + 99 ≤ 7302249) (h : Inv F g) (K : ∀ F' g', Inv F' g' → sv_AW x Q F' g' (cs + 2) (sl + 99) 1375 (lw_lv b bs i) []) : sv_AW x Q F g cs sl 808 (lw_lv b bs i) [] := by
  have hL := h.L
  refine sv_aload_n (pc := 808) G dL_law_808 2 rfl ?_
  refine lw_arg (pc := 809) 1 G SC hL2 (by omega) ic_1 dL_law_809 dL_law_810 dL_law_811 dL_law_812 dL_law_813 ?_
  refine lw_arg (pc := 814) 2 G SC hL2 (by omega) ic_2 dL_law_814 dL_law_815 dL_law_816 dL_law_817 dL_law_818 ?_
  refine lw_arg (pc := 819) 3 G SC hL2 (by omega) ic_3 dL_law_819 dL_law_820 dL_law_821 dL_law_822 dL_law_823 ?_
  refine sv_callV (cs := cs) (sl := sl) (st := []) (As := [.int (xs (i + 1)), .int (xs (i + 2)), .int (xs (i + 3))]) (a := 0) (pc := 824) G RR (c_X6_feed hL (l_feed h _ _ _)) mw_X6_feed lk_L_106 (hL.sh rfl) (by decide) rfl rfl ⟨(Nat.le_of_ble_eq_true rfl), (Nat.le_of_ble_eq_true rfl)⟩ ⟨by omega, by omega⟩ (Nat.le_of_ble_eq_true rfl) rfl dL_law_824 (sv_kI (fun r g1 h1 => ?_))
  refine sv_aload_n (pc := 827) G dL_law_827 1 rfl ?_
  refine lw_arg (pc := 828) 1 G SC hL2 (by omega) ic_1 dL_law_828 dL_law_829 dL_law_830 dL_law_831 dL_law_832 ?_
  refine lw_arg (pc := 833) 2 G SC hL2 (by omega) ic_2 dL_law_833 dL_law_834 dL_law_835 dL_law_836 dL_law_837 ?_
  refine lw_arg (pc := 838) 3 G SC hL2 (by omega) ic_3 dL_law_838 dL_law_839 dL_law_840 dL_law_841 dL_law_842 ?_
  refine sv_callV (st := [.int r]) (As := [.int (xs (i + 1)), .int (xs (i + 2)), .int (xs (i + 3))]) (a := 58) (pc := 843) G RR (c_X7_feed hL h1) mw_X7_feed lk_L_109 (hL.sh rfl) (by decide) rfl rfl ⟨(Nat.le_of_ble_eq_true rfl), (Nat.le_of_ble_eq_true rfl)⟩ ⟨by omega, by omega⟩ (Nat.le_of_ble_eq_true rfl) rfl dL_law_843 (sv_kI (fun r2 g2 h2 => ?_))
  exact sv_ic_eq (pc := 846) G 1375 rfl dL_law_846 (fun _ => sv_widen (by omega) (by omega) (K _ g2 h2.2)) (fun z => absurd h2.1 z)
theorem lw_c23 (G : sv_G x b xt RL cL_law 4) (RR : sv_R x 2048 84000 600000 7302249) (SC : lw_sc x bs L xs) (hL2 : L ≤ 3072) (hi : i + 6 ≤ L) (hcs : cs + 2 ≤ 600000) (hsl : sl + 99 ≤ 7302249) (h : Inv F g) (K : ∀ F' g', Inv F' g' → sv_AW x Q F' g' (cs + 2) (sl + 99) 1375 (lw_lv b bs i) []) : sv_AW x Q F g cs sl 851 (lw_lv b bs i) [] := by
  have hL := h.L
  refine sv_aload_n (pc := 851) G dL_law_851 2 rfl ?_
  refine lw_arg (pc := 852) 1 G SC hL2 (by omega) ic_1 dL_law_852 dL_law_853 dL_law_854 dL_law_855 dL_law_856 ?_
  refine sv_callV (cs := cs) (sl := sl) (st := []) (As := [.int (xs (i + 1))]) (a := 0) (pc := 857) G RR (c_X6_trim hL (l_trim h _)) mw_X6_trim lk_L_110 (hL.sh rfl) (by decide) rfl rfl ⟨(Nat.le_of_ble_eq_true rfl), (Nat.le_of_ble_eq_true rfl)⟩ ⟨by omega, by omega⟩ (Nat.le_of_ble_eq_true rfl) rfl dL_law_857 (sv_kI (fun r g1 h1 => ?_))
  refine sv_aload_n (pc := 860) G dL_law_860 1 rfl ?_
  refine lw_arg (pc := 861) 1 G SC hL2 (by omega) ic_1 dL_law_861 dL_law_862 dL_law_863 dL_law_864 dL_law_865 ?_
  refine sv_callV (st := [.int r]) (As := [.int (xs (i + 1))]) (a := 58) (pc := 866) G RR (c_X7_trim hL h1) mw_X7_trim lk_L_113 (hL.sh rfl) (by decide) rfl rfl ⟨(Nat.le_of_ble_eq_true rfl), (Nat.le_of_ble_eq_true rfl)⟩ ⟨by omega, by omega⟩ (Nat.le_of_ble_eq_true rfl) rfl dL_law_866 (sv_kI (fun r2 g2 h2 => ?_))
  exact sv_ic_eq (pc := 869) G 1375 rfl dL_law_869 (fun _ => sv_widen (by omega) (by omega) (K _ g2 h2.2)) (fun z => absurd h2.1 z)
theorem lw_c24 (G : sv_G x b xt RL cL_law 4) (RR : sv_R x 2048 84000 600000 7302249) (SC : lw_sc x bs L xs) (hL2 : L ≤ 3072) (hi : i + 6 ≤ L) (hcs : cs + 2 ≤ 600000) (hsl : sl + 99 ≤ 7302249) (h : Inv F g) (K : ∀ F' g', Inv F' g' → sv_AW x Q F' g' (cs + 2) (sl + 99) 1375 (lw_lv b bs i) []) : sv_AW x Q F g cs sl 874 (lw_lv b bs i) [] := by
  have hL := h.L
  refine sv_aload_n (pc := 874) G dL_law_874 2 rfl ?_
  refine sv_callV (cs := cs) (sl := sl) (st := []) (As := []) (a := 0) (pc := 875) G RR (c_X6_text hL (l_text h)) mw_X6_text lk_L_114 (hL.sh rfl) (by decide) rfl rfl ⟨(Nat.le_of_ble_eq_true rfl), (Nat.le_of_ble_eq_true rfl)⟩ ⟨by omega, by omega⟩ (Nat.le_of_ble_eq_true rfl) rfl dL_law_875 (sv_kD (fun r F g1 h1 => ?_))
  obtain ⟨hL, h1⟩ := h1
  refine sv_aload_n (pc := 878) G dL_law_878 1 rfl ?_
  refine sv_callV (st := [.int r]) (As := []) (a := 58) (pc := 879) G RR (c_X7_text hL h1) mw_X7_text lk_L_117 (hL.sh rfl) (by decide) rfl rfl ⟨(Nat.le_of_ble_eq_true rfl), (Nat.le_of_ble_eq_true rfl)⟩ ⟨by omega, by omega⟩ (Nat.le_of_ble_eq_true rfl) rfl dL_law_879 (sv_kI (fun r2 g2 h2 => ?_))
  exact sv_ic_eq (pc := 882) G 1375 rfl dL_law_882 (fun _ => sv_widen (by omega) (by omega) (K _ g2 h2.2)) (fun z => absurd h2.1 z)
theorem lw_c25 (G : sv_G x b xt RL cL_law 4) (RR : sv_R x 2048 84000 600000 7302249) (SC : lw_sc x bs L xs) (hL2 : L ≤ 3072) (hi : i + 6 ≤ L) (hcs : cs + 2 ≤ 600000) (hsl : sl + 99 ≤ 7302249) (h : Inv F g) (K : ∀ F' g', Inv F' g' → sv_AW x Q F' g' (cs + 2) (sl + 99) 1375 (lw_lv b bs i) []) : sv_AW x Q F g cs sl 887 (lw_lv b bs i) [] := by
  have hL := h.L
  refine sv_aload_n (pc := 887) G dL_law_887 2 rfl ?_
  refine lw_arg (pc := 888) 1 G SC hL2 (by omega) ic_1 dL_law_888 dL_law_889 dL_law_890 dL_law_891 dL_law_892 ?_
  refine lw_arg (pc := 893) 2 G SC hL2 (by omega) ic_2 dL_law_893 dL_law_894 dL_law_895 dL_law_896 dL_law_897 ?_
  refine sv_callV (cs := cs) (sl := sl) (st := []) (As := [.int (xs (i + 1)), .int (xs (i + 2))]) (a := 0) (pc := 898) G RR (c_X6_textTold hL (l_textTold h _ _)) mw_X6_textTold lk_L_118 (hL.sh rfl) (by decide) rfl rfl ⟨(Nat.le_of_ble_eq_true rfl), (Nat.le_of_ble_eq_true rfl)⟩ ⟨by omega, by omega⟩ (Nat.le_of_ble_eq_true rfl) rfl dL_law_898 (sv_kI (fun r g1 h1 => ?_))
  refine sv_aload_n (pc := 901) G dL_law_901 1 rfl ?_
  refine lw_arg (pc := 902) 1 G SC hL2 (by omega) ic_1 dL_law_902 dL_law_903 dL_law_904 dL_law_905 dL_law_906 ?_
  refine lw_arg (pc := 907) 2 G SC hL2 (by omega) ic_2 dL_law_907 dL_law_908 dL_law_909 dL_law_910 dL_law_911 ?_
  refine sv_callV (st := [.int r]) (As := [.int (xs (i + 1)), .int (xs (i + 2))]) (a := 58) (pc := 912) G RR (c_X7_textTold hL h1) mw_X7_textTold lk_L_121 (hL.sh rfl) (by decide) rfl rfl ⟨(Nat.le_of_ble_eq_true rfl), (Nat.le_of_ble_eq_true rfl)⟩ ⟨by omega, by omega⟩ (Nat.le_of_ble_eq_true rfl) rfl dL_law_912 (sv_kI (fun r2 g2 h2 => ?_))
  exact sv_ic_eq (pc := 915) G 1375 rfl dL_law_915 (fun _ => sv_widen (by omega) (by omega) (K _ g2 h2.2)) (fun z => absurd h2.1 z)
theorem lw_c26 (G : sv_G x b xt RL cL_law 4) (RR : sv_R x 2048 84000 600000 7302249) (SC : lw_sc x bs L xs) (hL2 : L ≤ 3072) (hi : i + 6 ≤ L) (hcs : cs + 2 ≤ 600000) (hsl : sl + 99 ≤ 7302249) (h : Inv F g) (K : ∀ F' g', Inv F' g' → sv_AW x Q F' g' (cs + 2) (sl + 99) 1375 (lw_lv b bs i) []) : sv_AW x Q F g cs sl 920 (lw_lv b bs i) [] := by
  have hL := h.L
  refine sv_aload_n (pc := 920) G dL_law_920 2 rfl ?_
  refine lw_arg (pc := 921) 1 G SC hL2 (by omega) ic_1 dL_law_921 dL_law_922 dL_law_923 dL_law_924 dL_law_925 ?_
  refine sv_callV (cs := cs) (sl := sl) (st := []) (As := [.int (xs (i + 1))]) (a := 0) (pc := 926) G RR (c_X6_why hL (l_why h _)) mw_X6_why lk_L_122 (hL.sh rfl) (by decide) rfl rfl ⟨(Nat.le_of_ble_eq_true rfl), (Nat.le_of_ble_eq_true rfl)⟩ ⟨by omega, by omega⟩ (Nat.le_of_ble_eq_true rfl) rfl dL_law_926 (sv_kI (fun r g1 h1 => ?_))
  refine sv_aload_n (pc := 929) G dL_law_929 1 rfl ?_
  refine lw_arg (pc := 930) 1 G SC hL2 (by omega) ic_1 dL_law_930 dL_law_931 dL_law_932 dL_law_933 dL_law_934 ?_
  refine sv_callV (st := [.int r]) (As := [.int (xs (i + 1))]) (a := 58) (pc := 935) G RR (c_X7_why hL h1) mw_X7_why lk_L_125 (hL.sh rfl) (by decide) rfl rfl ⟨(Nat.le_of_ble_eq_true rfl), (Nat.le_of_ble_eq_true rfl)⟩ ⟨by omega, by omega⟩ (Nat.le_of_ble_eq_true rfl) rfl dL_law_935 (sv_kI (fun r2 g2 h2 => ?_))
  exact sv_ic_eq (pc := 938) G 1375 rfl dL_law_938 (fun _ => sv_widen (by omega) (by omega) (K _ g2 h2.2)) (fun z => absurd h2.1 z)
theorem lw_c27 (G : sv_G x b xt RL cL_law 4) (RR : sv_R x 2048 84000 600000 7302249) (SC : lw_sc x bs L xs) (hL2 : L ≤ 3072) (hi : i + 6 ≤ L) (hcs : cs + 2 ≤ 600000) (hsl : sl + 99 ≤ 7302249) (h : Inv F g) (K : ∀ F' g', Inv F' g' → sv_AW x Q F' g' (cs + 2) (sl + 99) 1375 (lw_lv b bs i) []) : sv_AW x Q F g cs sl 943 (lw_lv b bs i) [] := by
  have hL := h.L
  refine sv_aload_n (pc := 943) G dL_law_943 2 rfl ?_
  refine lw_arg (pc := 944) 1 G SC hL2 (by omega) ic_1 dL_law_944 dL_law_945 dL_law_946 dL_law_947 dL_law_948 ?_
  refine lw_arg (pc := 949) 2 G SC hL2 (by omega) ic_2 dL_law_949 dL_law_950 dL_law_951 dL_law_952 dL_law_953 ?_
  refine lw_arg (pc := 954) 3 G SC hL2 (by omega) ic_3 dL_law_954 dL_law_955 dL_law_956 dL_law_957 dL_law_958 ?_
  refine sv_callV (cs := cs) (sl := sl) (st := []) (As := [.int (xs (i + 1)), .int (xs (i + 2)), .int (xs (i + 3))]) (a := 0) (pc := 959) G RR (c_X6_sheet hL (l_sheet h _ _ _)) mw_X6_sheet lk_L_126 (hL.sh rfl) (by decide) rfl rfl ⟨(Nat.le_of_ble_eq_true rfl), (Nat.le_of_ble_eq_true rfl)⟩ ⟨by omega, by omega⟩ (Nat.le_of_ble_eq_true rfl) rfl dL_law_959 (sv_kI (fun r g1 h1 => ?_))
  refine sv_aload_n (pc := 962) G dL_law_962 1 rfl ?_
  refine lw_arg (pc := 963) 1 G SC hL2 (by omega) ic_1 dL_law_963 dL_law_964 dL_law_965 dL_law_966 dL_law_967 ?_
  refine lw_arg (pc := 968) 2 G SC hL2 (by omega) ic_2 dL_law_968 dL_law_969 dL_law_970 dL_law_971 dL_law_972 ?_
  refine lw_arg (pc := 973) 3 G SC hL2 (by omega) ic_3 dL_law_973 dL_law_974 dL_law_975 dL_law_976 dL_law_977 ?_
  refine sv_callV (st := [.int r]) (As := [.int (xs (i + 1)), .int (xs (i + 2)), .int (xs (i + 3))]) (a := 58) (pc := 978) G RR (c_X7_sheet hL h1) mw_X7_sheet lk_L_129 (hL.sh rfl) (by decide) rfl rfl ⟨(Nat.le_of_ble_eq_true rfl), (Nat.le_of_ble_eq_true rfl)⟩ ⟨by omega, by omega⟩ (Nat.le_of_ble_eq_true rfl) rfl dL_law_978 (sv_kI (fun r2 g2 h2 => ?_))
  exact sv_ic_eq (pc := 981) G 1375 rfl dL_law_981 (fun _ => sv_widen (by omega) (by omega) (K _ g2 h2.2)) (fun z => absurd h2.1 z)
theorem lw_c28 (G : sv_G x b xt RL cL_law 4) (RR : sv_R x 2048 84000 600000 7302249) (SC : lw_sc x bs L xs) (hL2 : L ≤ 3072) (hi : i + 6 ≤ L) (hcs : cs + 2 ≤ 600000) (hsl : sl + 99 ≤ 7302249) (h : Inv F g) (K : ∀ F' g', Inv F' g' → sv_AW x Q F' g' (cs + 2) (sl + 99) 1375 (lw_lv b bs i) []) : sv_AW x Q F g cs sl 986 (lw_lv b bs i) [] := by
  have hL := h.L
  refine sv_aload_n (pc := 986) G dL_law_986 2 rfl ?_
  refine lw_arg (pc := 987) 1 G SC hL2 (by omega) ic_1 dL_law_987 dL_law_988 dL_law_989 dL_law_990 dL_law_991 ?_
  refine lw_arg (pc := 992) 2 G SC hL2 (by omega) ic_2 dL_law_992 dL_law_993 dL_law_994 dL_law_995 dL_law_996 ?_
  refine lw_arg (pc := 997) 3 G SC hL2 (by omega) ic_3 dL_law_997 dL_law_998 dL_law_999 dL_law_1000 dL_law_1001 ?_
  refine sv_callV (cs := cs) (sl := sl) (st := []) (As := [.int (xs (i + 1)), .int (xs (i + 2)), .int (xs (i + 3))]) (a := 0) (pc := 1002) G RR (c_X6_mark hL (l_mark h _ _ _)) mw_X6_mark lk_L_130 (hL.sh rfl) (by decide) rfl rfl ⟨(Nat.le_of_ble_eq_true rfl), (Nat.le_of_ble_eq_true rfl)⟩ ⟨by omega, by omega⟩ (Nat.le_of_ble_eq_true rfl) rfl dL_law_1002 (sv_kI (fun r g1 h1 => ?_))
  refine sv_aload_n (pc := 1005) G dL_law_1005 1 rfl ?_
  refine lw_arg (pc := 1006) 1 G SC hL2 (by omega) ic_1 dL_law_1006 dL_law_1007 dL_law_1008 dL_law_1009 dL_law_1010 ?_
  refine lw_arg (pc := 1011) 2 G SC hL2 (by omega) ic_2 dL_law_1011 dL_law_1012 dL_law_1013 dL_law_1014 dL_law_1015 ?_
  refine lw_arg (pc := 1016) 3 G SC hL2 (by omega) ic_3 dL_law_1016 dL_law_1017 dL_law_1018 dL_law_1019 dL_law_1020 ?_
  refine sv_callV (st := [.int r]) (As := [.int (xs (i + 1)), .int (xs (i + 2)), .int (xs (i + 3))]) (a := 58) (pc := 1021) G RR (c_X7_mark hL h1) mw_X7_mark lk_L_133 (hL.sh rfl) (by decide) rfl rfl ⟨(Nat.le_of_ble_eq_true rfl), (Nat.le_of_ble_eq_true rfl)⟩ ⟨by omega, by omega⟩ (Nat.le_of_ble_eq_true rfl) rfl dL_law_1021 (sv_kI (fun r2 g2 h2 => ?_))
  exact sv_ic_eq (pc := 1024) G 1375 rfl dL_law_1024 (fun _ => sv_widen (by omega) (by omega) (K _ g2 h2.2)) (fun z => absurd h2.1 z)
theorem lw_c29 (G : sv_G x b xt RL cL_law 4) (RR : sv_R x 2048 84000 600000 7302249) (SC : lw_sc x bs L xs) (hL2 : L ≤ 3072) (hi : i + 6 ≤ L) (hcs : cs + 2 ≤ 600000) (hsl : sl + 99 ≤ 7302249) (h : Inv F g) (K : ∀ F' g', Inv F' g' → sv_AW x Q F' g' (cs + 2) (sl + 99) 1375 (lw_lv b bs i) []) : sv_AW x Q F g cs sl 1029 (lw_lv b bs i) [] := by
  have hL := h.L
  refine sv_aload_n (pc := 1029) G dL_law_1029 2 rfl ?_
  refine lw_arg (pc := 1030) 1 G SC hL2 (by omega) ic_1 dL_law_1030 dL_law_1031 dL_law_1032 dL_law_1033 dL_law_1034 ?_
  refine sv_callV (cs := cs) (sl := sl) (st := []) (As := [.int (xs (i + 1))]) (a := 0) (pc := 1035) G RR (c_X6_pour hL (l_pour h _)) mw_X6_pour lk_L_134 (hL.sh rfl) (by decide) rfl rfl ⟨(Nat.le_of_ble_eq_true rfl), (Nat.le_of_ble_eq_true rfl)⟩ ⟨by omega, by omega⟩ (Nat.le_of_ble_eq_true rfl) rfl dL_law_1035 (sv_kI (fun r g1 h1 => ?_))
  refine sv_aload_n (pc := 1038) G dL_law_1038 1 rfl ?_
  refine lw_arg (pc := 1039) 1 G SC hL2 (by omega) ic_1 dL_law_1039 dL_law_1040 dL_law_1041 dL_law_1042 dL_law_1043 ?_
  refine sv_callV (st := [.int r]) (As := [.int (xs (i + 1))]) (a := 58) (pc := 1044) G RR (c_X7_pour hL h1) mw_X7_pour lk_L_137 (hL.sh rfl) (by decide) rfl rfl ⟨(Nat.le_of_ble_eq_true rfl), (Nat.le_of_ble_eq_true rfl)⟩ ⟨by omega, by omega⟩ (Nat.le_of_ble_eq_true rfl) rfl dL_law_1044 (sv_kI (fun r2 g2 h2 => ?_))
  exact sv_ic_eq (pc := 1047) G 1375 rfl dL_law_1047 (fun _ => sv_widen (by omega) (by omega) (K _ g2 h2.2)) (fun z => absurd h2.1 z)
theorem lw_c30 (G : sv_G x b xt RL cL_law 4) (RR : sv_R x 2048 84000 600000 7302249) (SC : lw_sc x bs L xs) (hL2 : L ≤ 3072) (hi : i + 6 ≤ L) (hcs : cs + 2 ≤ 600000) (hsl : sl + 99 ≤ 7302249) (h : Inv F g) (K : ∀ F' g', Inv F' g' → sv_AW x Q F' g' (cs + 2) (sl + 99) 1375 (lw_lv b bs i) []) : sv_AW x Q F g cs sl 1052 (lw_lv b bs i) [] := by
  have hL := h.L
  refine sv_aload_n (pc := 1052) G dL_law_1052 2 rfl ?_
  refine lw_arg (pc := 1053) 1 G SC hL2 (by omega) ic_1 dL_law_1053 dL_law_1054 dL_law_1055 dL_law_1056 dL_law_1057 ?_
  refine sv_callV (cs := cs) (sl := sl) (st := []) (As := [.int (xs (i + 1))]) (a := 0) (pc := 1058) G RR (c_X6_reads hL (l_reads h _)) mw_X6_reads lk_L_138 (hL.sh rfl) (by decide) rfl rfl ⟨(Nat.le_of_ble_eq_true rfl), (Nat.le_of_ble_eq_true rfl)⟩ ⟨by omega, by omega⟩ (Nat.le_of_ble_eq_true rfl) rfl dL_law_1058 (sv_kI (fun r g1 h1 => ?_))
  refine sv_aload_n (pc := 1061) G dL_law_1061 1 rfl ?_
  refine lw_arg (pc := 1062) 1 G SC hL2 (by omega) ic_1 dL_law_1062 dL_law_1063 dL_law_1064 dL_law_1065 dL_law_1066 ?_
  refine sv_callV (st := [.int r]) (As := [.int (xs (i + 1))]) (a := 58) (pc := 1067) G RR (c_X7_reads hL h1) mw_X7_reads lk_L_141 (hL.sh rfl) (by decide) rfl rfl ⟨(Nat.le_of_ble_eq_true rfl), (Nat.le_of_ble_eq_true rfl)⟩ ⟨by omega, by omega⟩ (Nat.le_of_ble_eq_true rfl) rfl dL_law_1067 (sv_kI (fun r2 g2 h2 => ?_))
  exact sv_ic_eq (pc := 1070) G 1375 rfl dL_law_1070 (fun _ => sv_widen (by omega) (by omega) (K _ g2 h2.2)) (fun z => absurd h2.1 z)
theorem lw_c31 (G : sv_G x b xt RL cL_law 4) (RR : sv_R x 2048 84000 600000 7302249) (SC : lw_sc x bs L xs) (hL2 : L ≤ 3072) (hi : i + 6 ≤ L) (hcs : cs + 2 ≤ 600000) (hsl : sl + 99 ≤ 7302249) (h : Inv F g) (K : ∀ F' g', Inv F' g' → sv_AW x Q F' g' (cs + 2) (sl + 99) 1375 (lw_lv b bs i) []) : sv_AW x Q F g cs sl 1075 (lw_lv b bs i) [] := by
  have hL := h.L
  refine sv_aload_n (pc := 1075) G dL_law_1075 2 rfl ?_
  refine lw_arg (pc := 1076) 1 G SC hL2 (by omega) ic_1 dL_law_1076 dL_law_1077 dL_law_1078 dL_law_1079 dL_law_1080 ?_
  refine lw_arg (pc := 1081) 2 G SC hL2 (by omega) ic_2 dL_law_1081 dL_law_1082 dL_law_1083 dL_law_1084 dL_law_1085 ?_
  refine lw_arg (pc := 1086) 3 G SC hL2 (by omega) ic_3 dL_law_1086 dL_law_1087 dL_law_1088 dL_law_1089 dL_law_1090 ?_
  refine lw_arg (pc := 1091) 4 G SC hL2 (by omega) ic_4 dL_law_1091 dL_law_1092 dL_law_1093 dL_law_1094 dL_law_1095 ?_
  refine lw_arg (pc := 1096) 5 G SC hL2 (by omega) ic_5 dL_law_1096 dL_law_1097 dL_law_1098 dL_law_1099 dL_law_1100 ?_
  refine sv_callV (cs := cs) (sl := sl) (st := []) (As := [.int (xs (i + 1)), .int (xs (i + 2)), .int (xs (i + 3)), .int (xs (i + 4)), .int (xs (i + 5))]) (a := 0) (pc := 1101) G RR (c_X6_copy hL (l_copy h _ _ _ _ _)) mw_X6_copy lk_L_142 (hL.sh rfl) (by decide) rfl rfl ⟨(Nat.le_of_ble_eq_true rfl), (Nat.le_of_ble_eq_true rfl)⟩ ⟨by omega, by omega⟩ (Nat.le_of_ble_eq_true rfl) rfl dL_law_1101 (sv_kI (fun r g1 h1 => ?_))
  refine sv_aload_n (pc := 1104) G dL_law_1104 1 rfl ?_
  refine lw_arg (pc := 1105) 1 G SC hL2 (by omega) ic_1 dL_law_1105 dL_law_1106 dL_law_1107 dL_law_1108 dL_law_1109 ?_
  refine lw_arg (pc := 1110) 2 G SC hL2 (by omega) ic_2 dL_law_1110 dL_law_1111 dL_law_1112 dL_law_1113 dL_law_1114 ?_
  refine lw_arg (pc := 1115) 3 G SC hL2 (by omega) ic_3 dL_law_1115 dL_law_1116 dL_law_1117 dL_law_1118 dL_law_1119 ?_
  refine lw_arg (pc := 1120) 4 G SC hL2 (by omega) ic_4 dL_law_1120 dL_law_1121 dL_law_1122 dL_law_1123 dL_law_1124 ?_
  refine lw_arg (pc := 1125) 5 G SC hL2 (by omega) ic_5 dL_law_1125 dL_law_1126 dL_law_1127 dL_law_1128 dL_law_1129 ?_
  refine sv_callV (st := [.int r]) (As := [.int (xs (i + 1)), .int (xs (i + 2)), .int (xs (i + 3)), .int (xs (i + 4)), .int (xs (i + 5))]) (a := 58) (pc := 1130) G RR (c_X7_copy hL h1) mw_X7_copy lk_L_146 (hL.sh rfl) (by decide) rfl rfl ⟨(Nat.le_of_ble_eq_true rfl), (Nat.le_of_ble_eq_true rfl)⟩ ⟨by omega, by omega⟩ (Nat.le_of_ble_eq_true rfl) rfl dL_law_1130 (sv_kI (fun r2 g2 h2 => ?_))
  exact sv_ic_eq (pc := 1133) G 1375 rfl dL_law_1133 (fun _ => sv_widen (by omega) (by omega) (K _ g2 h2.2)) (fun z => absurd h2.1 z)
theorem lw_c32 (G : sv_G x b xt RL cL_law 4) (RR : sv_R x 2048 84000 600000 7302249) (SC : lw_sc x bs L xs) (hL2 : L ≤ 3072) (hi : i + 6 ≤ L) (hcs : cs + 2 ≤ 600000) (hsl : sl + 99 ≤ 7302249) (h : Inv F g) (K : ∀ F' g', Inv F' g' → sv_AW x Q F' g' (cs + 2) (sl + 99) 1375 (lw_lv b bs i) []) : sv_AW x Q F g cs sl 1138 (lw_lv b bs i) [] := by
  have hL := h.L
  refine sv_aload_n (pc := 1138) G dL_law_1138 2 rfl ?_
  refine lw_arg (pc := 1139) 1 G SC hL2 (by omega) ic_1 dL_law_1139 dL_law_1140 dL_law_1141 dL_law_1142 dL_law_1143 ?_
  refine lw_arg (pc := 1144) 2 G SC hL2 (by omega) ic_2 dL_law_1144 dL_law_1145 dL_law_1146 dL_law_1147 dL_law_1148 ?_
  refine lw_arg (pc := 1149) 3 G SC hL2 (by omega) ic_3 dL_law_1149 dL_law_1150 dL_law_1151 dL_law_1152 dL_law_1153 ?_
  refine sv_callV (cs := cs) (sl := sl) (st := []) (As := [.int (xs (i + 1)), .int (xs (i + 2)), .int (xs (i + 3))]) (a := 0) (pc := 1154) G RR (c_X6_lay hL (l_lay h _ _ _)) mw_X6_lay lk_L_147 (hL.sh rfl) (by decide) rfl rfl ⟨(Nat.le_of_ble_eq_true rfl), (Nat.le_of_ble_eq_true rfl)⟩ ⟨by omega, by omega⟩ (Nat.le_of_ble_eq_true rfl) rfl dL_law_1154 (sv_kI (fun r g1 h1 => ?_))
  refine sv_aload_n (pc := 1157) G dL_law_1157 1 rfl ?_
  refine lw_arg (pc := 1158) 1 G SC hL2 (by omega) ic_1 dL_law_1158 dL_law_1159 dL_law_1160 dL_law_1161 dL_law_1162 ?_
  refine lw_arg (pc := 1163) 2 G SC hL2 (by omega) ic_2 dL_law_1163 dL_law_1164 dL_law_1165 dL_law_1166 dL_law_1167 ?_
  refine lw_arg (pc := 1168) 3 G SC hL2 (by omega) ic_3 dL_law_1168 dL_law_1169 dL_law_1170 dL_law_1171 dL_law_1172 ?_
  refine sv_callV (st := [.int r]) (As := [.int (xs (i + 1)), .int (xs (i + 2)), .int (xs (i + 3))]) (a := 58) (pc := 1173) G RR (c_X7_lay hL h1) mw_X7_lay lk_L_150 (hL.sh rfl) (by decide) rfl rfl ⟨(Nat.le_of_ble_eq_true rfl), (Nat.le_of_ble_eq_true rfl)⟩ ⟨by omega, by omega⟩ (Nat.le_of_ble_eq_true rfl) rfl dL_law_1173 (sv_kI (fun r2 g2 h2 => ?_))
  exact sv_ic_eq (pc := 1176) G 1375 rfl dL_law_1176 (fun _ => sv_widen (by omega) (by omega) (K _ g2 h2.2)) (fun z => absurd h2.1 z)
theorem lw_c33 (G : sv_G x b xt RL cL_law 4) (RR : sv_R x 2048 84000 600000 7302249) (SC : lw_sc x bs L xs) (hL2 : L ≤ 3072) (hi : i + 6 ≤ L) (hcs : cs + 2 ≤ 600000) (hsl : sl + 99 ≤ 7302249) (h : Inv F g) (K : ∀ F' g', Inv F' g' → sv_AW x Q F' g' (cs + 2) (sl + 99) 1375 (lw_lv b bs i) []) : sv_AW x Q F g cs sl 1181 (lw_lv b bs i) [] := by
  have hL := h.L
  refine sv_aload_n (pc := 1181) G dL_law_1181 2 rfl ?_
  refine lw_arg (pc := 1182) 1 G SC hL2 (by omega) ic_1 dL_law_1182 dL_law_1183 dL_law_1184 dL_law_1185 dL_law_1186 ?_
  refine lw_arg (pc := 1187) 2 G SC hL2 (by omega) ic_2 dL_law_1187 dL_law_1188 dL_law_1189 dL_law_1190 dL_law_1191 ?_
  refine sv_callV (cs := cs) (sl := sl) (st := []) (As := [.int (xs (i + 1)), .int (xs (i + 2))]) (a := 0) (pc := 1192) G RR (c_X6_ask hL (l_ask h _ _)) mw_X6_ask lk_L_151 (hL.sh rfl) (by decide) rfl rfl ⟨(Nat.le_of_ble_eq_true rfl), (Nat.le_of_ble_eq_true rfl)⟩ ⟨by omega, by omega⟩ (Nat.le_of_ble_eq_true rfl) rfl dL_law_1192 (sv_kI (fun r g1 h1 => ?_))
  refine sv_aload_n (pc := 1195) G dL_law_1195 1 rfl ?_
  refine lw_arg (pc := 1196) 1 G SC hL2 (by omega) ic_1 dL_law_1196 dL_law_1197 dL_law_1198 dL_law_1199 dL_law_1200 ?_
  refine lw_arg (pc := 1201) 2 G SC hL2 (by omega) ic_2 dL_law_1201 dL_law_1202 dL_law_1203 dL_law_1204 dL_law_1205 ?_
  refine sv_callV (st := [.int r]) (As := [.int (xs (i + 1)), .int (xs (i + 2))]) (a := 58) (pc := 1206) G RR (c_X7_ask hL h1) mw_X7_ask lk_L_154 (hL.sh rfl) (by decide) rfl rfl ⟨(Nat.le_of_ble_eq_true rfl), (Nat.le_of_ble_eq_true rfl)⟩ ⟨by omega, by omega⟩ (Nat.le_of_ble_eq_true rfl) rfl dL_law_1206 (sv_kI (fun r2 g2 h2 => ?_))
  exact sv_ic_eq (pc := 1209) G 1375 rfl dL_law_1209 (fun _ => sv_widen (by omega) (by omega) (K _ g2 h2.2)) (fun z => absurd h2.1 z)
theorem lw_c34 (G : sv_G x b xt RL cL_law 4) (RR : sv_R x 2048 84000 600000 7302249) (SC : lw_sc x bs L xs) (hL2 : L ≤ 3072) (hi : i + 6 ≤ L) (hcs : cs + 2 ≤ 600000) (hsl : sl + 99 ≤ 7302249) (h : Inv F g) (K : ∀ F' g', Inv F' g' → sv_AW x Q F' g' (cs + 2) (sl + 99) 1375 (lw_lv b bs i) []) : sv_AW x Q F g cs sl 1214 (lw_lv b bs i) [] := by
  have hL := h.L
  refine sv_aload_n (pc := 1214) G dL_law_1214 2 rfl ?_
  refine lw_arg (pc := 1215) 1 G SC hL2 (by omega) ic_1 dL_law_1215 dL_law_1216 dL_law_1217 dL_law_1218 dL_law_1219 ?_
  refine lw_arg (pc := 1220) 2 G SC hL2 (by omega) ic_2 dL_law_1220 dL_law_1221 dL_law_1222 dL_law_1223 dL_law_1224 ?_
  refine sv_callV (cs := cs) (sl := sl) (st := []) (As := [.int (xs (i + 1)), .int (xs (i + 2))]) (a := 0) (pc := 1225) G RR (c_X6_item hL (l_item h _ _)) mw_X6_item lk_L_155 (hL.sh rfl) (by decide) rfl rfl ⟨(Nat.le_of_ble_eq_true rfl), (Nat.le_of_ble_eq_true rfl)⟩ ⟨by omega, by omega⟩ (Nat.le_of_ble_eq_true rfl) rfl dL_law_1225 (sv_kI (fun r g1 h1 => ?_))
  refine sv_aload_n (pc := 1228) G dL_law_1228 1 rfl ?_
  refine lw_arg (pc := 1229) 1 G SC hL2 (by omega) ic_1 dL_law_1229 dL_law_1230 dL_law_1231 dL_law_1232 dL_law_1233 ?_
  refine lw_arg (pc := 1234) 2 G SC hL2 (by omega) ic_2 dL_law_1234 dL_law_1235 dL_law_1236 dL_law_1237 dL_law_1238 ?_
  refine sv_callV (st := [.int r]) (As := [.int (xs (i + 1)), .int (xs (i + 2))]) (a := 58) (pc := 1239) G RR (c_X7_item hL h1) mw_X7_item lk_L_158 (hL.sh rfl) (by decide) rfl rfl ⟨(Nat.le_of_ble_eq_true rfl), (Nat.le_of_ble_eq_true rfl)⟩ ⟨by omega, by omega⟩ (Nat.le_of_ble_eq_true rfl) rfl dL_law_1239 (sv_kI (fun r2 g2 h2 => ?_))
  exact sv_ic_eq (pc := 1242) G 1375 rfl dL_law_1242 (fun _ => sv_widen (by omega) (by omega) (K _ g2 h2.2)) (fun z => absurd h2.1 z)
theorem lw_c35 (G : sv_G x b xt RL cL_law 4) (RR : sv_R x 2048 84000 600000 7302249) (SC : lw_sc x bs L xs) (hL2 : L ≤ 3072) (hi : i + 6 ≤ L) (hcs : cs + 2 ≤ 600000) (hsl : sl + 99 ≤ 7302249) (h : Inv F g) (K : ∀ F' g', Inv F' g' → sv_AW x Q F' g' (cs + 2) (sl + 99) 1375 (lw_lv b bs i) []) : sv_AW x Q F g cs sl 1247 (lw_lv b bs i) [] := by
  have hL := h.L
  refine sv_aload_n (pc := 1247) G dL_law_1247 2 rfl ?_
  refine lw_arg (pc := 1248) 1 G SC hL2 (by omega) ic_1 dL_law_1248 dL_law_1249 dL_law_1250 dL_law_1251 dL_law_1252 ?_
  refine lw_arg (pc := 1253) 2 G SC hL2 (by omega) ic_2 dL_law_1253 dL_law_1254 dL_law_1255 dL_law_1256 dL_law_1257 ?_
  refine sv_callV (cs := cs) (sl := sl) (st := []) (As := [.int (xs (i + 1)), .int (xs (i + 2))]) (a := 0) (pc := 1258) G RR (c_X6_rest hL (l_rest h _ _)) mw_X6_rest lk_L_159 (hL.sh rfl) (by decide) rfl rfl ⟨(Nat.le_of_ble_eq_true rfl), (Nat.le_of_ble_eq_true rfl)⟩ ⟨by omega, by omega⟩ (Nat.le_of_ble_eq_true rfl) rfl dL_law_1258 (sv_kI (fun r g1 h1 => ?_))
  refine sv_aload_n (pc := 1261) G dL_law_1261 1 rfl ?_
  refine lw_arg (pc := 1262) 1 G SC hL2 (by omega) ic_1 dL_law_1262 dL_law_1263 dL_law_1264 dL_law_1265 dL_law_1266 ?_
  refine lw_arg (pc := 1267) 2 G SC hL2 (by omega) ic_2 dL_law_1267 dL_law_1268 dL_law_1269 dL_law_1270 dL_law_1271 ?_
  refine sv_callV (st := [.int r]) (As := [.int (xs (i + 1)), .int (xs (i + 2))]) (a := 58) (pc := 1272) G RR (c_X7_rest hL h1) mw_X7_rest lk_L_162 (hL.sh rfl) (by decide) rfl rfl ⟨(Nat.le_of_ble_eq_true rfl), (Nat.le_of_ble_eq_true rfl)⟩ ⟨by omega, by omega⟩ (Nat.le_of_ble_eq_true rfl) rfl dL_law_1272 (sv_kI (fun r2 g2 h2 => ?_))
  exact sv_ic_eq (pc := 1275) G 1375 rfl dL_law_1275 (fun _ => sv_widen (by omega) (by omega) (K _ g2 h2.2)) (fun z => absurd h2.1 z)
theorem lw_c36 (G : sv_G x b xt RL cL_law 4) (RR : sv_R x 2048 84000 600000 7302249) (SC : lw_sc x bs L xs) (hL2 : L ≤ 3072) (hi : i + 6 ≤ L) (hcs : cs + 2 ≤ 600000) (hsl : sl + 99 ≤ 7302249) (h : Inv F g) (K : ∀ F' g', Inv F' g' → sv_AW x Q F' g' (cs + 2) (sl + 99) 1375 (lw_lv b bs i) []) : sv_AW x Q F g cs sl 1280 (lw_lv b bs i) [] := by
  have hL := h.L
  refine sv_aload_n (pc := 1280) G dL_law_1280 2 rfl ?_
  refine lw_arg (pc := 1281) 1 G SC hL2 (by omega) ic_1 dL_law_1281 dL_law_1282 dL_law_1283 dL_law_1284 dL_law_1285 ?_
  refine sv_callV (cs := cs) (sl := sl) (st := []) (As := [.int (xs (i + 1))]) (a := 0) (pc := 1286) G RR (c_X6_tell hL (l_tell h _)) mw_X6_tell lk_L_163 (hL.sh rfl) (by decide) rfl rfl ⟨(Nat.le_of_ble_eq_true rfl), (Nat.le_of_ble_eq_true rfl)⟩ ⟨by omega, by omega⟩ (Nat.le_of_ble_eq_true rfl) rfl dL_law_1286 (sv_kI (fun r g1 h1 => ?_))
  refine sv_aload_n (pc := 1289) G dL_law_1289 1 rfl ?_
  refine lw_arg (pc := 1290) 1 G SC hL2 (by omega) ic_1 dL_law_1290 dL_law_1291 dL_law_1292 dL_law_1293 dL_law_1294 ?_
  refine sv_callV (st := [.int r]) (As := [.int (xs (i + 1))]) (a := 58) (pc := 1295) G RR (c_X7_tell hL h1) mw_X7_tell lk_L_166 (hL.sh rfl) (by decide) rfl rfl ⟨(Nat.le_of_ble_eq_true rfl), (Nat.le_of_ble_eq_true rfl)⟩ ⟨by omega, by omega⟩ (Nat.le_of_ble_eq_true rfl) rfl dL_law_1295 (sv_kI (fun r2 g2 h2 => ?_))
  exact sv_ic_eq (pc := 1298) G 1375 rfl dL_law_1298 (fun _ => sv_widen (by omega) (by omega) (K _ g2 h2.2)) (fun z => absurd h2.1 z)
theorem lw_c37 (G : sv_G x b xt RL cL_law 4) (RR : sv_R x 2048 84000 600000 7302249) (SC : lw_sc x bs L xs) (hL2 : L ≤ 3072) (hi : i + 6 ≤ L) (hcs : cs + 2 ≤ 600000) (hsl : sl + 99 ≤ 7302249) (h : Inv F g) (K : ∀ F' g', Inv F' g' → sv_AW x Q F' g' (cs + 2) (sl + 99) 1375 (lw_lv b bs i) []) : sv_AW x Q F g cs sl 1303 (lw_lv b bs i) [] := by
  have hL := h.L
  refine sv_aload_n (pc := 1303) G dL_law_1303 2 rfl ?_
  refine lw_arg (pc := 1304) 1 G SC hL2 (by omega) ic_1 dL_law_1304 dL_law_1305 dL_law_1306 dL_law_1307 dL_law_1308 ?_
  refine sv_callV (cs := cs) (sl := sl) (st := []) (As := [.int (xs (i + 1))]) (a := 0) (pc := 1309) G RR (c_X6_check hL (l_check h _)) mw_X6_check lk_L_167 (hL.sh rfl) (by decide) rfl rfl ⟨(Nat.le_of_ble_eq_true rfl), (Nat.le_of_ble_eq_true rfl)⟩ ⟨by omega, by omega⟩ (Nat.le_of_ble_eq_true rfl) rfl dL_law_1309 (sv_kI (fun r g1 h1 => ?_))
  refine sv_aload_n (pc := 1312) G dL_law_1312 1 rfl ?_
  refine lw_arg (pc := 1313) 1 G SC hL2 (by omega) ic_1 dL_law_1313 dL_law_1314 dL_law_1315 dL_law_1316 dL_law_1317 ?_
  refine sv_callV (st := [.int r]) (As := [.int (xs (i + 1))]) (a := 58) (pc := 1318) G RR (c_X7_check hL h1) mw_X7_check lk_L_170 (hL.sh rfl) (by decide) rfl rfl ⟨(Nat.le_of_ble_eq_true rfl), (Nat.le_of_ble_eq_true rfl)⟩ ⟨by omega, by omega⟩ (Nat.le_of_ble_eq_true rfl) rfl dL_law_1318 (sv_kI (fun r2 g2 h2 => ?_))
  exact sv_ic_eq (pc := 1321) G 1375 rfl dL_law_1321 (fun _ => sv_widen (by omega) (by omega) (K _ g2 h2.2)) (fun z => absurd h2.1 z)
theorem lw_c38 (G : sv_G x b xt RL cL_law 4) (RR : sv_R x 2048 84000 600000 7302249) (SC : lw_sc x bs L xs) (hL2 : L ≤ 3072) (hi : i + 6 ≤ L) (hcs : cs + 2 ≤ 600000) (hsl : sl + 99 ≤ 7302249) (h : Inv F g) (K : ∀ F' g', Inv F' g' → sv_AW x Q F' g' (cs + 2) (sl + 99) 1375 (lw_lv b bs i) []) : sv_AW x Q F g cs sl 1326 (lw_lv b bs i) [] := by
  have hL := h.L
  refine sv_aload_n (pc := 1326) G dL_law_1326 2 rfl ?_
  refine sv_callV (cs := cs) (sl := sl) (st := []) (As := []) (a := 0) (pc := 1327) G RR (c_X6_keep hL (l_keep h)) mw_X6_keep lk_L_171 (hL.sh rfl) (by decide) rfl rfl ⟨(Nat.le_of_ble_eq_true rfl), (Nat.le_of_ble_eq_true rfl)⟩ ⟨by omega, by omega⟩ (Nat.le_of_ble_eq_true rfl) rfl dL_law_1327 (sv_kI (fun r g1 h1 => ?_))
  refine sv_aload_n (pc := 1330) G dL_law_1330 1 rfl ?_
  refine sv_callV (st := [.int r]) (As := []) (a := 58) (pc := 1331) G RR (c_X7_keep hL h1) mw_X7_keep lk_L_174 (hL.sh rfl) (by decide) rfl rfl ⟨(Nat.le_of_ble_eq_true rfl), (Nat.le_of_ble_eq_true rfl)⟩ ⟨by omega, by omega⟩ (Nat.le_of_ble_eq_true rfl) rfl dL_law_1331 (sv_kI (fun r2 g2 h2 => ?_))
  exact sv_ic_eq (pc := 1334) G 1375 rfl dL_law_1334 (fun _ => sv_widen (by omega) (by omega) (K _ g2 h2.2)) (fun z => absurd h2.1 z)
theorem lw_c39 (G : sv_G x b xt RL cL_law 4) (RR : sv_R x 2048 84000 600000 7302249) (SC : lw_sc x bs L xs) (hL2 : L ≤ 3072) (hi : i + 6 ≤ L) (hcs : cs + 2 ≤ 600000) (hsl : sl + 99 ≤ 7302249) (h : Inv F g) (K : ∀ F' g', Inv F' g' → sv_AW x Q F' g' (cs + 2) (sl + 99) 1375 (lw_lv b bs i) []) : sv_AW x Q F g cs sl 1339 (lw_lv b bs i) [] := by
  have hL := h.L
  refine sv_aload_n (pc := 1339) G dL_law_1339 2 rfl ?_
  refine sv_callV (cs := cs) (sl := sl) (st := []) (As := []) (a := 0) (pc := 1340) G RR (c_X6_back hL (l_back h)) mw_X6_back lk_L_175 (hL.sh rfl) (by decide) rfl rfl ⟨(Nat.le_of_ble_eq_true rfl), (Nat.le_of_ble_eq_true rfl)⟩ ⟨by omega, by omega⟩ (Nat.le_of_ble_eq_true rfl) rfl dL_law_1340 (sv_kI (fun r g1 h1 => ?_))
  refine sv_aload_n (pc := 1343) G dL_law_1343 1 rfl ?_
  refine sv_callV (st := [.int r]) (As := []) (a := 58) (pc := 1344) G RR (c_X7_back hL h1) mw_X7_back lk_L_178 (hL.sh rfl) (by decide) rfl rfl ⟨(Nat.le_of_ble_eq_true rfl), (Nat.le_of_ble_eq_true rfl)⟩ ⟨by omega, by omega⟩ (Nat.le_of_ble_eq_true rfl) rfl dL_law_1344 (sv_kI (fun r2 g2 h2 => ?_))
  exact sv_ic_eq (pc := 1347) G 1375 rfl dL_law_1347 (fun _ => sv_widen (by omega) (by omega) (K _ g2 h2.2)) (fun z => absurd h2.1 z)
theorem lw_c40 (G : sv_G x b xt RL cL_law 4) (RR : sv_R x 2048 84000 600000 7302249) (SC : lw_sc x bs L xs) (hL2 : L ≤ 3072) (hi : i + 6 ≤ L) (hcs : cs + 2 ≤ 600000) (hsl : sl + 99 ≤ 7302249) (h : Inv F g) (K : ∀ F' g', Inv F' g' → sv_AW x Q F' g' (cs + 2) (sl + 99) 1375 (lw_lv b bs i) []) : sv_AW x Q F g cs sl 1352 (lw_lv b bs i) [] := by
  have hL := h.L
  refine sv_aload_n (pc := 1352) G dL_law_1352 2 rfl ?_
  refine lw_arg (pc := 1353) 1 G SC hL2 (by omega) ic_1 dL_law_1353 dL_law_1354 dL_law_1355 dL_law_1356 dL_law_1357 ?_
  refine sv_callV (cs := cs) (sl := sl) (st := []) (As := [.int (xs (i + 1))]) (a := 0) (pc := 1358) G RR (c_X6_count hL (l_count h _)) mw_X6_count lk_L_179 (hL.sh rfl) (by decide) rfl rfl ⟨(Nat.le_of_ble_eq_true rfl), (Nat.le_of_ble_eq_true rfl)⟩ ⟨by omega, by omega⟩ (Nat.le_of_ble_eq_true rfl) rfl dL_law_1358 (sv_kI (fun r g1 h1 => ?_))
  refine sv_aload_n (pc := 1361) G dL_law_1361 1 rfl ?_
  refine lw_arg (pc := 1362) 1 G SC hL2 (by omega) ic_1 dL_law_1362 dL_law_1363 dL_law_1364 dL_law_1365 dL_law_1366 ?_
  refine sv_callV (st := [.int r]) (As := [.int (xs (i + 1))]) (a := 58) (pc := 1367) G RR (c_X7_count hL h1) mw_X7_count lk_L_182 (hL.sh rfl) (by decide) rfl rfl ⟨(Nat.le_of_ble_eq_true rfl), (Nat.le_of_ble_eq_true rfl)⟩ ⟨by omega, by omega⟩ (Nat.le_of_ble_eq_true rfl) rfl dL_law_1367 (sv_kI (fun r2 g2 h2 => ?_))
  exact sv_ic_eq (pc := 1370) G 1375 rfl dL_law_1370 (fun _ => sv_widen (by omega) (by omega) (K _ g2 h2.2)) (fun z => absurd h2.1 z)
theorem lw_sw (G : sv_G x b xt RL cL_law 4) (RR : sv_R x 2048 84000 600000 7302249) (SC : lw_sc x bs L xs) (hL2 : L ≤ 3072) (hi : i + 6 ≤ L) (hcs : cs + 2 ≤ 600000) (hsl : sl + 99 ≤ 7302249) (h : Inv F g) (K : ∀ F' g', Inv F' g' → sv_AW x Q F' g' (cs + 2) (sl + 99) 1375 (lw_lv b bs i) []) {y : Int32} {j : Nat} (hj : j < 64) (hy : y = nI j) : sv_AW x Q F g cs sl 33 (lw_lv b bs i) [.int y] := by
  have ey : y.toInt = (j : Int) := by rw [hy]; exact nI_toInt (by omega)
  by_cases c : 40 < j
  · exact sv_tswD (pc := 33) G dL_law_33 (by rw [ey]; omega) 1375 rfl (sv_widen (by omega) (by omega) (K F g h))
  have : j = 0 ∨ j = 1 ∨ j = 2 ∨ j = 3 ∨ j = 4 ∨ j = 5 ∨ j = 6 ∨ j = 7 ∨ j = 8 ∨ j = 9 ∨ j = 10 ∨ j = 11 ∨ j = 12 ∨ j = 13 ∨ j = 14 ∨ j = 15 ∨ j = 16 ∨ j = 17 ∨ j = 18 ∨ j = 19 ∨ j = 20 ∨ j = 21 ∨ j = 22 ∨ j = 23 ∨ j = 24 ∨ j = 25 ∨ j = 26 ∨ j = 27 ∨ j = 28 ∨ j = 29 ∨ j = 30 ∨ j = 31 ∨ j = 32 ∨ j = 33 ∨ j = 34 ∨ j = 35 ∨ j = 36 ∨ j = 37 ∨ j = 38 ∨ j = 39 ∨ j = 40 := by omega
  rcases this with rfl | rfl | rfl | rfl | rfl | rfl | rfl | rfl | rfl | rfl | rfl | rfl | rfl | rfl | rfl | rfl | rfl | rfl | rfl | rfl | rfl | rfl | rfl | rfl | rfl | rfl | rfl | rfl | rfl | rfl | rfl | rfl | rfl | rfl | rfl | rfl | rfl | rfl | rfl | rfl | rfl
  · exact sv_tsw (pc := 33) G dL_law_33 0 ey 212 (by decide) (by decide) rfl rfl (lw_c0 G RR SC hL2 hi hcs hsl h K)
  · exact sv_tsw (pc := 33) G dL_law_33 1 ey 265 (by decide) (by decide) rfl rfl (lw_c1 G RR SC hL2 hi hcs hsl h K)
  · exact sv_tsw (pc := 33) G dL_law_33 2 ey 298 (by decide) (by decide) rfl rfl (lw_c2 G RR SC hL2 hi hcs hsl h K)
  · exact sv_tsw (pc := 33) G dL_law_33 3 ey 331 (by decide) (by decide) rfl rfl (lw_c3 G RR SC hL2 hi hcs hsl h K)
  · exact sv_tsw (pc := 33) G dL_law_33 4 ey 364 (by decide) (by decide) rfl rfl (lw_c4 G RR SC hL2 hi hcs hsl h K)
  · exact sv_tsw (pc := 33) G dL_law_33 5 ey 407 (by decide) (by decide) rfl rfl (lw_c5 G RR SC hL2 hi hcs hsl h K)
  · exact sv_tsw (pc := 33) G dL_law_33 6 ey 440 (by decide) (by decide) rfl rfl (lw_c6 G RR SC hL2 hi hcs hsl h K)
  · exact sv_tsw (pc := 33) G dL_law_33 7 ey 453 (by decide) (by decide) rfl rfl (lw_c7 G RR SC hL2 hi hcs hsl h K)
  · exact sv_tsw (pc := 33) G dL_law_33 8 ey 476 (by decide) (by decide) rfl rfl (lw_c8 G RR SC hL2 hi hcs hsl h K)
  · exact sv_tsw (pc := 33) G dL_law_33 9 ey 499 (by decide) (by decide) rfl rfl (lw_c9 G RR SC hL2 hi hcs hsl h K)
  · exact sv_tsw (pc := 33) G dL_law_33 10 ey 522 (by decide) (by decide) rfl rfl (lw_c10 G RR SC hL2 hi hcs hsl h K)
  · exact sv_tsw (pc := 33) G dL_law_33 11 ey 545 (by decide) (by decide) rfl rfl (lw_c11 G RR SC hL2 hi hcs hsl h K)
  · exact sv_tsw (pc := 33) G dL_law_33 12 ey 558 (by decide) (by decide) rfl rfl (lw_c12 G RR SC hL2 hi hcs hsl h K)
  · exact sv_tsw (pc := 33) G dL_law_33 13 ey 571 (by decide) (by decide) rfl rfl (lw_c13 G RR SC hL2 hi hcs hsl h K)
  · exact sv_tsw (pc := 33) G dL_law_33 14 ey 604 (by decide) (by decide) rfl rfl (lw_c14 G RR SC hL2 hi hcs hsl h K)
  · exact sv_tsw (pc := 33) G dL_law_33 15 ey 637 (by decide) (by decide) rfl rfl (lw_c15 G RR SC hL2 hi hcs hsl h K)
  · exact sv_tsw (pc := 33) G dL_law_33 16 ey 650 (by decide) (by decide) rfl rfl (lw_c16 G RR SC hL2 hi hcs hsl h K)
  · exact sv_tsw (pc := 33) G dL_law_33 17 ey 693 (by decide) (by decide) rfl rfl (lw_c17 G RR SC hL2 hi hcs hsl h K)
  · exact sv_tsw (pc := 33) G dL_law_33 18 ey 716 (by decide) (by decide) rfl rfl (lw_c18 G RR SC hL2 hi hcs hsl h K)
  · exact sv_tsw (pc := 33) G dL_law_33 19 ey 739 (by decide) (by decide) rfl rfl (lw_c19 G RR SC hL2 hi hcs hsl h K)
  · exact sv_tsw (pc := 33) G dL_law_33 20 ey 772 (by decide) (by decide) rfl rfl (lw_c20 G RR SC hL2 hi hcs hsl h K)
  · exact sv_tsw (pc := 33) G dL_law_33 21 ey 785 (by decide) (by decide) rfl rfl (lw_c21 G RR SC hL2 hi hcs hsl h K)
  · exact sv_tsw (pc := 33) G dL_law_33 22 ey 808 (by decide) (by decide) rfl rfl (lw_c22 G RR SC hL2 hi hcs hsl h K)
  · exact sv_tsw (pc := 33) G dL_law_33 23 ey 851 (by decide) (by decide) rfl rfl (lw_c23 G RR SC hL2 hi hcs hsl h K)
  · exact sv_tsw (pc := 33) G dL_law_33 24 ey 874 (by decide) (by decide) rfl rfl (lw_c24 G RR SC hL2 hi hcs hsl h K)
  · exact sv_tsw (pc := 33) G dL_law_33 25 ey 887 (by decide) (by decide) rfl rfl (lw_c25 G RR SC hL2 hi hcs hsl h K)
  · exact sv_tsw (pc := 33) G dL_law_33 26 ey 920 (by decide) (by decide) rfl rfl (lw_c26 G RR SC hL2 hi hcs hsl h K)
  · exact sv_tsw (pc := 33) G dL_law_33 27 ey 943 (by decide) (by decide) rfl rfl (lw_c27 G RR SC hL2 hi hcs hsl h K)
  · exact sv_tsw (pc := 33) G dL_law_33 28 ey 986 (by decide) (by decide) rfl rfl (lw_c28 G RR SC hL2 hi hcs hsl h K)
  · exact sv_tsw (pc := 33) G dL_law_33 29 ey 1029 (by decide) (by decide) rfl rfl (lw_c29 G RR SC hL2 hi hcs hsl h K)
  · exact sv_tsw (pc := 33) G dL_law_33 30 ey 1052 (by decide) (by decide) rfl rfl (lw_c30 G RR SC hL2 hi hcs hsl h K)
  · exact sv_tsw (pc := 33) G dL_law_33 31 ey 1075 (by decide) (by decide) rfl rfl (lw_c31 G RR SC hL2 hi hcs hsl h K)
  · exact sv_tsw (pc := 33) G dL_law_33 32 ey 1138 (by decide) (by decide) rfl rfl (lw_c32 G RR SC hL2 hi hcs hsl h K)
  · exact sv_tsw (pc := 33) G dL_law_33 33 ey 1181 (by decide) (by decide) rfl rfl (lw_c33 G RR SC hL2 hi hcs hsl h K)
  · exact sv_tsw (pc := 33) G dL_law_33 34 ey 1214 (by decide) (by decide) rfl rfl (lw_c34 G RR SC hL2 hi hcs hsl h K)
  · exact sv_tsw (pc := 33) G dL_law_33 35 ey 1247 (by decide) (by decide) rfl rfl (lw_c35 G RR SC hL2 hi hcs hsl h K)
  · exact sv_tsw (pc := 33) G dL_law_33 36 ey 1280 (by decide) (by decide) rfl rfl (lw_c36 G RR SC hL2 hi hcs hsl h K)
  · exact sv_tsw (pc := 33) G dL_law_33 37 ey 1303 (by decide) (by decide) rfl rfl (lw_c37 G RR SC hL2 hi hcs hsl h K)
  · exact sv_tsw (pc := 33) G dL_law_33 38 ey 1326 (by decide) (by decide) rfl rfl (lw_c38 G RR SC hL2 hi hcs hsl h K)
  · exact sv_tsw (pc := 33) G dL_law_33 39 ey 1339 (by decide) (by decide) rfl rfl (lw_c39 G RR SC hL2 hi hcs hsl h K)
  · exact sv_tsw (pc := 33) G dL_law_33 40 ey 1352 (by decide) (by decide) rfl rfl (lw_c40 G RR SC hL2 hi hcs hsl h K)
theorem lw_loop (G : sv_G x b xt RL cL_law 4) (RR : sv_R x 2048 84000 600000 7302249) (SC : lw_sc x bs L xs) (hL2 : L ≤ 3072) (E : ∀ F g cs sl, cs ≤ 600000 → sl ≤ 7302249 → ∀ lv, sv_AW x Q F g cs sl 1382 lv [.int 1]) : ∀ (n c : Nat) (F : sv_Fr) (g : sv_Mg), Inv F g → 6 * c ≤ L + 5 → 600 ≤ n + c → sv_AW x Q F g (100 + 2 * c) (7000 + 99 * c) 18 (lw_lv b bs (6 * c)) [] := by
  intro n
  induction n with
  | zero => intro c F g h hc hn; omega
  | succ n ih =>
    intro c F g h hc hn
    refine sv_iload_n (pc := 18) G dL_law_18 0 rfl ?_
    refine sv_aload_n (pc := 19) G dL_law_19 3 rfl ?_
    refine lw_aln (pc := 20) G SC dL_law_20 ?_
    refine sv_bipush (pc := 21) G dL_law_21 6 bp_6 ?_
    refine sv_isub (pc := 23) G dL_law_23 ?_
    refine sv_ic_gt (pc := 24) G 1381 rfl dL_law_24 (fun _ => ?_) (fun z => ?_)
    · refine sv_iconst (pc := 1381) G dL_law_1381 1 ic_1 ?_
      exact E F g _ _ (by omega) (by omega) _
    · have hi : 6 * c + 6 ≤ L := by
        have e1 : (nI L - 6 : Int32).toInt = (L : Int) - 6 := pk_sub_toInt (a := L) (b := 6) (by omega) (by omega)
        have e2 : (nI (6 * c)).toInt = ((6 * c : Nat) : Int) := nI_toInt (by omega)
        have z2 : ¬ (nI L - 6 : Int32).toInt < (nI (6 * c)).toInt := fun q => z (Int32.lt_iff_toInt_lt.mpr q)
        rw [e1, e2] at z2
        omega
      refine sv_aload_n (pc := 27) G dL_law_27 3 rfl ?_
      refine sv_iload_n (pc := 28) G dL_law_28 0 rfl ?_
      refine lw_ald (pc := 29) G SC (pl_in (by omega) (by omega)) dL_law_29 ?_
      refine sv_bipush (pc := 30) G dL_law_30 63 (by decide) ?_
      refine sv_iand (pc := 32) G dL_law_32 ?_
      obtain ⟨j, hj, ej⟩ := pk_andE (xs (nI (6 * c)).toNatClampNeg) (m := 63) 6 (by decide)
      refine lw_sw G RR SC hL2 hi (by omega) (by omega) h (fun F' g' h' => ?_) hj ej
      refine sv_iinc (pc := 1375) G dL_law_1375 0 (nI (6 * (c + 1))) (lw_lv b bs (6 * (c + 1))) ?_ rfl (by decide) rfl ?_
      · rw [show Int32.ofInt 6 = nI 6 by decide, nI_add]; rfl
      refine sv_goto (pc := 1378) G dL_law_1378 18 rfl ?_
      exact sv_widen (by omega) (by omega) (ih (c + 1) F' g' h' (by omega) (by omega))
end LW
