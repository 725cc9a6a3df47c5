/-! ===== the law's cases ===== -/
section Law
variable {g : Gm} {A : Nat → Prop} {p : Program} {l : Launch} {e : Env} {R : Room} {s : State} {m : MethodId} {args : Array Value} {below : List Frame} {meth : Method} {c : Code} {Z : State → Prop} {kc sc : Nat} {cc : ByteArray} {nL : Nat} {own : String} {h pc : Nat} {lv lv' : List (Nat × Value)} {st : List Value} {σ : Hp} {b L : Nat} {xs : Nat → Int32}
/-- the script lies at b, and is never written -/
def Sc (A : Nat → Prop) (b L : Nat) (xs : Nat → Int32) (s : State) : Prop := va_X b L xs s s.heap ∧ b < s.heap.size ∧ ¬ A b
theorem v_sld {i : Int32} (C : CxV g A p R s m args meth c kc sc cc nL own h) (hX : Sc A b L xs s) (hin : vp_in i L) (hd : decode cc pc = .ok (.iaload, 1)) (k : V g A p l e R s m args below meth c Z kc sc nL (pc + 1) lv (.int (xs i.toNatClampNeg) :: st) σ) : V g A p l e R s m args below meth c Z kc sc nL pc lv (.int i :: .ref b :: st) σ := fun H locs ls hP hS hl => va_sld C.ex C.cd hX.1 hX.2.1 hX.2.2 hS hin hd (k H locs ls hP hS hl)
theorem v_slen (C : CxV g A p R s m args meth c kc sc cc nL own h) (hX : Sc A b L xs s) (hd : decode cc pc = .ok (.arraylength, 1)) (k : V g A p l e R s m args below meth c Z kc sc nL (pc + 1) lv (.int (Int32.ofNat L) :: st) σ) : V g A p l e R s m args below meth c Z kc sc nL pc lv (.ref b :: st) σ := fun H locs ls hP hS hl => va_slen C.ex C.cd hX.1 hX.2.1 hX.2.2 hS hd (k H locs ls hP hS hl)
/-- script[i + j] -/
theorem v_arg {i : Nat} {z : Int} (j : Nat) (C : CxV g A p R s m args meth c kc sc cc nL own h) (hX : Sc A b L xs s) (hL : L < 2 ^ 31) (hi : i + j < L) (k0 k4 : Nat) (h0 : lv[k0]? = some (0, .ref b)) (h4 : lv[k4]? = some (4, .int (nI i))) (hz : Int32.ofInt z = nI j) (d0 : decode cc pc = .ok (.aload_n 0, 1)) (d1 : decode cc (pc + 1) = .ok (.iload 4, 2)) (d3 : decode cc (pc + 3) = .ok (.iconst z, 1)) (d4 : decode cc (pc + 4) = .ok (.iadd, 1)) (d5 : decode cc (pc + 5) = .ok (.iaload, 1)) (k : V g A p l e R s m args below meth c Z kc sc nL (pc + 6) lv (.int (xs (i + j)) :: st) σ) : V g A p l e R s m args below meth c Z kc sc nL pc lv st σ := by
  refine v_aload_n C d0 rfl k0 h0 ?_
  refine v_iload C d1 k4 h4 ?_
  refine v_iconst (v := nI j) C d3 hz ?_
  refine v_iadd C d4 ?_
  rw [add_nI]
  refine v_sld C hX (vp_in_nI hi hL) d5 ?_
  rw [show (nI (i + j)).toNatClampNeg = i + j from ix_nI (by omega)]
  exact k
/-- x != 0, as a boolean argument -/
theorem v_bool {a : Int32} (C : CxV g A p R s m args meth c kc sc cc nL own h) (d0 : decode cc pc = .ok (.ifCond .eq 7, 3)) (d3 : decode cc (pc + 3) = .ok (.iconst 1, 1)) (d4 : decode cc (pc + 4) = .ok (.goto 4, 3)) (d7 : decode cc (pc + 7) = .ok (.iconst 0, 1)) (k : V g A p l e R s m args below meth c Z kc sc nL (pc + 8) lv (.int (if a = 0 then 0 else 1) :: st) σ) : V g A p l e R s m args below meth c Z kc sc nL pc lv (.int a :: st) σ := by
  refine v_if_eq (tgt := pc + 7) C d0 (by omega) (fun q => ?_) (fun q => ?_)
  · refine v_iconst (v := 0) C d7 rfl ?_
    rw [if_pos q] at k
    exact k
  · refine v_iconst (v := 1) C d3 rfl ?_
    refine v_goto (tgt := pc + 8) C d4 (by omega) ?_
    rw [if_neg q] at k
    exact k
theorem lg_cmp_self (x : Int64) : lg_cmp x x = 0 := by
  unfold lg_cmp
  simp
end Law
/-- the law's locals at its loop's head -/
def lwL (g : Gm) (b : Nat) (x4 : Int32) : List (Nat × Value) := [(4, .int x4), (0, .ref b), (1, .ref (gad g 7 0)), (2, .ref (gad g 8 0)), (3, .ref (gad g 64 0))]
section Cases
variable {g : Gm} {A : Nat → Prop} {p : Program} {l : Launch} {e : Env} {R : Room} {s : State} {m : MethodId} {args : Array Value} {below : List Frame} {meth : Method} {c : Code} {Z : State → Prop} {kc sc : Nat} {σ : Hp} {b L n i : Nat} {xs : Nat → Int32}
theorem lc_0 (C : CxV g A p R s m args meth c kc sc cL_law 7 RL 70) (hX : Sc A b L xs s) (hL : L < 2 ^ 31) (hi : i + 5 < L) (hn : n ≤ 600) (h : RR n σ) (nx : ∀ σ2, RR (n + 1) σ2 → V g A p l e R s m args below meth c Z kc sc 7 1731 (lwL g b (nI i)) [] σ2) : V g A p l e R s m args below meth c Z kc sc 7 216 (lwL g b (nI i)) [] σ := by
  refine v_aload_n C dL_law_216 rfl 2 rfl ?_
  refine v_arg 1 C hX hL (by omega) 1 0 rfl rfl rfl dL_law_217 dL_law_218 dL_law_220 dL_law_221 dL_law_222 ?_
  refine v_arg 2 C hX hL (by omega) 1 0 rfl rfl rfl dL_law_223 dL_law_224 dL_law_226 dL_law_227 dL_law_228 ?_
  refine v_arg 3 C hX hL (by omega) 1 0 rfl rfl rfl dL_law_229 dL_law_230 dL_law_232 dL_law_233 dL_law_234 ?_
  refine v_arg 4 C hX hL (by omega) 1 0 rfl rfl rfl dL_law_235 dL_law_236 dL_law_238 dL_law_239 dL_law_240 ?_
  refine v_arg 5 C hX hL (by omega) 1 0 rfl rfl rfl dL_law_241 dL_law_242 dL_law_244 dL_law_245 dL_law_246 ?_
  refine v_callVi (n := 7) (i := 0) (As := [.int (xs (i + 1)), .int (xs (i + 2)), .int (xs (i + 3)), .int (xs (i + 4)), .int (xs (i + 5))]) [] C dL_law_247 w_L_19 (ok_X7_feed l g (xs (i + 1)) (xs (i + 2)) (xs (i + 3)) (xs (i + 4)) (xs (i + 5)) σ _ (k_feed h)) (Nat.le_of_ble_eq_true rfl) rfl rfl rfl (by decide) rfl rfl (Nat.le_of_ble_eq_true rfl) (fun r σ1 hq => ?_)
  refine v_aload_n C dL_law_250 rfl 3 rfl ?_
  refine v_arg 1 C hX hL (by omega) 1 0 rfl rfl rfl dL_law_251 dL_law_252 dL_law_254 dL_law_255 dL_law_256 ?_
  refine v_arg 2 C hX hL (by omega) 1 0 rfl rfl rfl dL_law_257 dL_law_258 dL_law_260 dL_law_261 dL_law_262 ?_
  refine v_arg 3 C hX hL (by omega) 1 0 rfl rfl rfl dL_law_263 dL_law_264 dL_law_266 dL_law_267 dL_law_268 ?_
  refine v_arg 4 C hX hL (by omega) 1 0 rfl rfl rfl dL_law_269 dL_law_270 dL_law_272 dL_law_273 dL_law_274 ?_
  refine v_arg 5 C hX hL (by omega) 1 0 rfl rfl rfl dL_law_275 dL_law_276 dL_law_278 dL_law_279 dL_law_280 ?_
  refine v_callVi (n := 8) (i := 0) (As := [.int (xs (i + 1)), .int (xs (i + 2)), .int (xs (i + 3)), .int (xs (i + 4)), .int (xs (i + 5))]) [.int r] C dL_law_281 w_L_23 (ok_X8_feed l g (xs (i + 1)) (xs (i + 2)) (xs (i + 3)) (xs (i + 4)) (xs (i + 5)) σ1 _ hq) (Nat.le_of_ble_eq_true rfl) rfl rfl rfl (by decide) rfl rfl (Nat.le_of_ble_eq_true rfl) (fun r2 σ2 hq2 => ?_)
  obtain ⟨rfl, hq2⟩ := hq2
  exact v_icmp_eq (tgt := 1731) C dL_law_284 (by decide) (fun _ => nx σ2 hq2) (fun q => absurd rfl q)
theorem lc_1 (C : CxV g A p R s m args meth c kc sc cL_law 7 RL 70) (hX : Sc A b L xs s) (hL : L < 2 ^ 31) (hi : i + 5 < L) (hn : n ≤ 600) (h : RR n σ) (nx : ∀ σ2, RR (n + 1) σ2 → V g A p l e R s m args below meth c Z kc sc 7 1731 (lwL g b (nI i)) [] σ2) : V g A p l e R s m args below meth c Z kc sc 7 289 (lwL g b (nI i)) [] σ := by
  refine v_aload_n C dL_law_289 rfl 2 rfl ?_
  refine v_arg 1 C hX hL (by omega) 1 0 rfl rfl rfl dL_law_290 dL_law_291 dL_law_293 dL_law_294 dL_law_295 ?_
  refine v_callVi (n := 7) (i := 0) (As := [.int (xs (i + 1))]) [] C dL_law_296 w_L_24 (ok_X7_bus l g (xs (i + 1)) σ _ (k_bus h)) (Nat.le_of_ble_eq_true rfl) rfl rfl rfl (by decide) rfl rfl (Nat.le_of_ble_eq_true rfl) (fun r σ1 hq => ?_)
  refine v_aload_n C dL_law_299 rfl 3 rfl ?_
  refine v_arg 1 C hX hL (by omega) 1 0 rfl rfl rfl dL_law_300 dL_law_301 dL_law_303 dL_law_304 dL_law_305 ?_
  refine v_callVi (n := 8) (i := 0) (As := [.int (xs (i + 1))]) [.int r] C dL_law_306 w_L_27 (ok_X8_bus l g (xs (i + 1)) σ1 _ hq) (Nat.le_of_ble_eq_true rfl) rfl rfl rfl (by decide) rfl rfl (Nat.le_of_ble_eq_true rfl) (fun r2 σ2 hq2 => ?_)
  obtain ⟨rfl, hq2⟩ := hq2
  exact v_icmp_eq (tgt := 1731) C dL_law_309 (by decide) (fun _ => nx σ2 hq2) (fun q => absurd rfl q)
theorem lc_2 (C : CxV g A p R s m args meth c kc sc cL_law 7 RL 70) (hX : Sc A b L xs s) (hL : L < 2 ^ 31) (hi : i + 5 < L) (hn : n ≤ 600) (h : RR n σ) (nx : ∀ σ2, RR (n + 1) σ2 → V g A p l e R s m args below meth c Z kc sc 7 1731 (lwL g b (nI i)) [] σ2) : V g A p l e R s m args below meth c Z kc sc 7 314 (lwL g b (nI i)) [] σ := by
  refine v_aload_n C dL_law_314 rfl 2 rfl ?_
  refine v_callVi (n := 7) (i := 0) (As := []) [] C dL_law_315 w_L_28 (ok_X7_fault l g  σ _ (k_fault h)) (Nat.le_of_ble_eq_true rfl) rfl rfl rfl (by decide) rfl rfl (Nat.le_of_ble_eq_true rfl) (fun r σ1 hq => ?_)
  refine v_aload_n C dL_law_318 rfl 3 rfl ?_
  refine v_callVi (n := 8) (i := 0) (As := []) [.int r] C dL_law_319 w_L_32 (ok_X8_fault l g  σ1 _ hq) (Nat.le_of_ble_eq_true rfl) rfl rfl rfl (by decide) rfl rfl (Nat.le_of_ble_eq_true rfl) (fun r2 σ2 hq2 => ?_)
  obtain ⟨rfl, hq2⟩ := hq2
  exact v_icmp_eq (tgt := 1731) C dL_law_322 (by decide) (fun _ => nx σ2 hq2) (fun q => absurd rfl q)
theorem lc_3 (C : CxV g A p R s m args meth c kc sc cL_law 7 RL 70) (hX : Sc A b L xs s) (hL : L < 2 ^ 31) (hi : i + 5 < L) (hn : n ≤ 600) (h : RR n σ) (nx : ∀ σ2, RR (n + 1) σ2 → V g A p l e R s m args below meth c Z kc sc 7 1731 (lwL g b (nI i)) [] σ2) : V g A p l e R s m args below meth c Z kc sc 7 327 (lwL g b (nI i)) [] σ := by
  refine v_aload_n C dL_law_327 rfl 2 rfl ?_
  refine v_callVi (n := 7) (i := 0) (As := []) [] C dL_law_328 w_L_33 (ok_X7_where l g  σ _ (k_where h)) (Nat.le_of_ble_eq_true rfl) rfl rfl rfl (by decide) rfl rfl (Nat.le_of_ble_eq_true rfl) (fun r σ1 hq => ?_)
  refine v_aload_n C dL_law_331 rfl 3 rfl ?_
  refine v_callVi (n := 8) (i := 0) (As := []) [.int r] C dL_law_332 w_L_36 (ok_X8_where l g  σ1 _ hq) (Nat.le_of_ble_eq_true rfl) rfl rfl rfl (by decide) rfl rfl (Nat.le_of_ble_eq_true rfl) (fun r2 σ2 hq2 => ?_)
  obtain ⟨rfl, hq2⟩ := hq2
  exact v_icmp_eq (tgt := 1731) C dL_law_335 (by decide) (fun _ => nx σ2 hq2) (fun q => absurd rfl q)
theorem lc_4 (C : CxV g A p R s m args meth c kc sc cL_law 7 RL 70) (hX : Sc A b L xs s) (hL : L < 2 ^ 31) (hi : i + 5 < L) (hn : n ≤ 600) (h : RR n σ) (nx : ∀ σ2, RR (n + 1) σ2 → V g A p l e R s m args below meth c Z kc sc 7 1731 (lwL g b (nI i)) [] σ2) : V g A p l e R s m args below meth c Z kc sc 7 340 (lwL g b (nI i)) [] σ := by
  refine v_aload_n C dL_law_340 rfl 2 rfl ?_
  refine v_arg 1 C hX hL (by omega) 1 0 rfl rfl rfl dL_law_341 dL_law_342 dL_law_344 dL_law_345 dL_law_346 ?_
  refine v_callVi (n := 7) (i := 0) (As := [.int (xs (i + 1))]) [] C dL_law_347 w_L_37 (ok_X7_about l g (xs (i + 1)) σ _ (k_about h)) (Nat.le_of_ble_eq_true rfl) rfl rfl rfl (by decide) rfl rfl (Nat.le_of_ble_eq_true rfl) (fun r σ1 hq => ?_)
  refine v_aload_n C dL_law_350 rfl 3 rfl ?_
  refine v_arg 1 C hX hL (by omega) 1 0 rfl rfl rfl dL_law_351 dL_law_352 dL_law_354 dL_law_355 dL_law_356 ?_
  refine v_callVi (n := 8) (i := 0) (As := [.int (xs (i + 1))]) [.int r] C dL_law_357 w_L_40 (ok_X8_about l g (xs (i + 1)) σ1 _ hq) (Nat.le_of_ble_eq_true rfl) rfl rfl rfl (by decide) rfl rfl (Nat.le_of_ble_eq_true rfl) (fun r2 σ2 hq2 => ?_)
  obtain ⟨rfl, hq2⟩ := hq2
  exact v_icmp_eq (tgt := 1731) C dL_law_360 (by decide) (fun _ => nx σ2 hq2) (fun q => absurd rfl q)
theorem lc_5 (C : CxV g A p R s m args meth c kc sc cL_law 7 RL 70) (hX : Sc A b L xs s) (hL : L < 2 ^ 31) (hi : i + 5 < L) (hn : n ≤ 600) (h : RR n σ) (nx : ∀ σ2, RR (n + 1) σ2 → V g A p l e R s m args below meth c Z kc sc 7 1731 (lwL g b (nI i)) [] σ2) : V g A p l e R s m args below meth c Z kc sc 7 365 (lwL g b (nI i)) [] σ := by
  refine v_aload_n C dL_law_365 rfl 2 rfl ?_
  refine v_arg 1 C hX hL (by omega) 1 0 rfl rfl rfl dL_law_366 dL_law_367 dL_law_369 dL_law_370 dL_law_371 ?_
  refine v_callVi (n := 7) (i := 0) (As := [.int (xs (i + 1))]) [] C dL_law_372 w_L_41 (ok_X7_at l g (xs (i + 1)) σ _ (k_at h)) (Nat.le_of_ble_eq_true rfl) rfl rfl rfl (by decide) rfl rfl (Nat.le_of_ble_eq_true rfl) (fun r σ1 hq => ?_)
  refine v_aload_n C dL_law_375 rfl 3 rfl ?_
  refine v_arg 1 C hX hL (by omega) 1 0 rfl rfl rfl dL_law_376 dL_law_377 dL_law_379 dL_law_380 dL_law_381 ?_
  refine v_callVi (n := 8) (i := 0) (As := [.int (xs (i + 1))]) [.int r] C dL_law_382 w_L_44 (ok_X8_at l g (xs (i + 1)) σ1 _ hq) (Nat.le_of_ble_eq_true rfl) rfl rfl rfl (by decide) rfl rfl (Nat.le_of_ble_eq_true rfl) (fun r2 σ2 hq2 => ?_)
  obtain ⟨rfl, hq2⟩ := hq2
  exact v_icmp_eq (tgt := 1731) C dL_law_385 (by decide) (fun _ => nx σ2 hq2) (fun q => absurd rfl q)
theorem lc_6 (C : CxV g A p R s m args meth c kc sc cL_law 7 RL 70) (hX : Sc A b L xs s) (hL : L < 2 ^ 31) (hi : i + 5 < L) (hn : n ≤ 600) (h : RR n σ) (nx : ∀ σ2, RR (n + 1) σ2 → V g A p l e R s m args below meth c Z kc sc 7 1731 (lwL g b (nI i)) [] σ2) : V g A p l e R s m args below meth c Z kc sc 7 390 (lwL g b (nI i)) [] σ := by
  refine v_aload_n C dL_law_390 rfl 2 rfl ?_
  refine v_arg 1 C hX hL (by omega) 1 0 rfl rfl rfl dL_law_391 dL_law_392 dL_law_394 dL_law_395 dL_law_396 ?_
  refine v_arg 2 C hX hL (by omega) 1 0 rfl rfl rfl dL_law_397 dL_law_398 dL_law_400 dL_law_401 dL_law_402 ?_
  refine v_callVi (n := 7) (i := 0) (As := [.int (xs (i + 1)), .int (xs (i + 2))]) [] C dL_law_403 w_L_45 (ok_X7_link l g (xs (i + 1)) (xs (i + 2)) σ _ (k_link h)) (Nat.le_of_ble_eq_true rfl) rfl rfl rfl (by decide) rfl rfl (Nat.le_of_ble_eq_true rfl) (fun r σ1 hq => ?_)
  refine v_aload_n C dL_law_406 rfl 3 rfl ?_
  refine v_arg 1 C hX hL (by omega) 1 0 rfl rfl rfl dL_law_407 dL_law_408 dL_law_410 dL_law_411 dL_law_412 ?_
  refine v_arg 2 C hX hL (by omega) 1 0 rfl rfl rfl dL_law_413 dL_law_414 dL_law_416 dL_law_417 dL_law_418 ?_
  refine v_callVi (n := 8) (i := 0) (As := [.int (xs (i + 1)), .int (xs (i + 2))]) [.int r] C dL_law_419 w_L_49 (ok_X8_link l g (xs (i + 1)) (xs (i + 2)) σ1 _ hq) (Nat.le_of_ble_eq_true rfl) rfl rfl rfl (by decide) rfl rfl (Nat.le_of_ble_eq_true rfl) (fun r2 σ2 hq2 => ?_)
  obtain ⟨rfl, hq2⟩ := hq2
  exact v_icmp_eq (tgt := 1731) C dL_law_422 (by decide) (fun _ => nx σ2 hq2) (fun q => absurd rfl q)
theorem lc_7 (C : CxV g A p R s m args meth c kc sc cL_law 7 RL 70) (hX : Sc A b L xs s) (hL : L < 2 ^ 31) (hi : i + 5 < L) (hn : n ≤ 600) (h : RR n σ) (nx : ∀ σ2, RR (n + 1) σ2 → V g A p l e R s m args below meth c Z kc sc 7 1731 (lwL g b (nI i)) [] σ2) : V g A p l e R s m args below meth c Z kc sc 7 427 (lwL g b (nI i)) [] σ := by
  refine v_aload_n C dL_law_427 rfl 2 rfl ?_
  refine v_arg 1 C hX hL (by omega) 1 0 rfl rfl rfl dL_law_428 dL_law_429 dL_law_431 dL_law_432 dL_law_433 ?_
  refine v_arg 2 C hX hL (by omega) 1 0 rfl rfl rfl dL_law_434 dL_law_435 dL_law_437 dL_law_438 dL_law_439 ?_
  refine v_callVi (n := 7) (i := 0) (As := [.int (xs (i + 1)), .int (xs (i + 2))]) [] C dL_law_440 w_L_50 (ok_X7_receiver l g (xs (i + 1)) (xs (i + 2)) σ _ (k_receiver h)) (Nat.le_of_ble_eq_true rfl) rfl rfl rfl (by decide) rfl rfl (Nat.le_of_ble_eq_true rfl) (fun r σ1 hq => ?_)
  refine v_aload_n C dL_law_443 rfl 3 rfl ?_
  refine v_arg 1 C hX hL (by omega) 1 0 rfl rfl rfl dL_law_444 dL_law_445 dL_law_447 dL_law_448 dL_law_449 ?_
  refine v_arg 2 C hX hL (by omega) 1 0 rfl rfl rfl dL_law_450 dL_law_451 dL_law_453 dL_law_454 dL_law_455 ?_
  refine v_callVi (n := 8) (i := 0) (As := [.int (xs (i + 1)), .int (xs (i + 2))]) [.int r] C dL_law_456 w_L_53 (ok_X8_receiver l g (xs (i + 1)) (xs (i + 2)) σ1 _ hq) (Nat.le_of_ble_eq_true rfl) rfl rfl rfl (by decide) rfl rfl (Nat.le_of_ble_eq_true rfl) (fun r2 σ2 hq2 => ?_)
  obtain ⟨rfl, hq2⟩ := hq2
  exact v_icmp_eq (tgt := 1731) C dL_law_459 (by decide) (fun _ => nx σ2 hq2) (fun q => absurd rfl q)
theorem lc_8 (C : CxV g A p R s m args meth c kc sc cL_law 7 RL 70) (hX : Sc A b L xs s) (hL : L < 2 ^ 31) (hi : i + 5 < L) (hn : n ≤ 600) (h : RR n σ) (nx : ∀ σ2, RR (n + 1) σ2 → V g A p l e R s m args below meth c Z kc sc 7 1731 (lwL g b (nI i)) [] σ2) : V g A p l e R s m args below meth c Z kc sc 7 464 (lwL g b (nI i)) [] σ := by
  refine v_aload_n C dL_law_464 rfl 2 rfl ?_
  refine v_arg 1 C hX hL (by omega) 1 0 rfl rfl rfl dL_law_465 dL_law_466 dL_law_468 dL_law_469 dL_law_470 ?_
  refine v_i2l C dL_law_471 ?_
  refine v_bipush (v := 32) C dL_law_472 (by decide) ?_
  refine v_lshl C dL_law_474 ?_
  refine v_arg 2 C hX hL (by omega) 1 0 rfl rfl rfl dL_law_475 dL_law_476 dL_law_478 dL_law_479 dL_law_480 ?_
  refine v_i2l C dL_law_481 ?_
  refine v_ldc2 C dL_law_482 u7_230 ?_
  refine v_land C dL_law_485 ?_
  refine v_lor C dL_law_486 ?_
  refine v_callVi (n := 7) (i := 0) (As := [.long ((((xs (i + 1))).toInt64 <<< ((32 : Int32).toInt64 &&& 63)) ||| (((xs (i + 2))).toInt64 &&& (4294967295 : Int64)))]) [] C dL_law_487 w_L_56 (ok_X7_named l g ((((xs (i + 1))).toInt64 <<< ((32 : Int32).toInt64 &&& 63)) ||| (((xs (i + 2))).toInt64 &&& (4294967295 : Int64))) σ _ (k_named h)) (Nat.le_of_ble_eq_true rfl) rfl rfl rfl (by decide) rfl rfl (Nat.le_of_ble_eq_true rfl) (fun r σ1 hq => ?_)
  refine v_aload_n C dL_law_490 rfl 3 rfl ?_
  refine v_arg 1 C hX hL (by omega) 1 0 rfl rfl rfl dL_law_491 dL_law_492 dL_law_494 dL_law_495 dL_law_496 ?_
  refine v_i2l C dL_law_497 ?_
  refine v_bipush (v := 32) C dL_law_498 (by decide) ?_
  refine v_lshl C dL_law_500 ?_
  refine v_arg 2 C hX hL (by omega) 1 0 rfl rfl rfl dL_law_501 dL_law_502 dL_law_504 dL_law_505 dL_law_506 ?_
  refine v_i2l C dL_law_507 ?_
  refine v_ldc2 C dL_law_508 u7_230 ?_
  refine v_land C dL_law_511 ?_
  refine v_lor C dL_law_512 ?_
  refine v_callVi (n := 8) (i := 0) (As := [.long ((((xs (i + 1))).toInt64 <<< ((32 : Int32).toInt64 &&& 63)) ||| (((xs (i + 2))).toInt64 &&& (4294967295 : Int64)))]) [.int r] C dL_law_513 w_L_60 (ok_X8_named l g ((((xs (i + 1))).toInt64 <<< ((32 : Int32).toInt64 &&& 63)) ||| (((xs (i + 2))).toInt64 &&& (4294967295 : Int64))) σ1 _ hq) (Nat.le_of_ble_eq_true rfl) rfl rfl rfl (by decide) rfl rfl (Nat.le_of_ble_eq_true rfl) (fun r2 σ2 hq2 => ?_)
  obtain ⟨rfl, hq2⟩ := hq2
  exact v_icmp_eq (tgt := 1731) C dL_law_516 (by decide) (fun _ => nx σ2 hq2) (fun q => absurd rfl q)
theorem lc_9 (C : CxV g A p R s m args meth c kc sc cL_law 7 RL 70) (hX : Sc A b L xs s) (hL : L < 2 ^ 31) (hi : i + 5 < L) (hn : n ≤ 600) (h : RR n σ) (nx : ∀ σ2, RR (n + 1) σ2 → V g A p l e R s m args below meth c Z kc sc 7 1731 (lwL g b (nI i)) [] σ2) : V g A p l e R s m args below meth c Z kc sc 7 521 (lwL g b (nI i)) [] σ := by
  refine v_aload_n C dL_law_521 rfl 2 rfl ?_
  refine v_arg 1 C hX hL (by omega) 1 0 rfl rfl rfl dL_law_522 dL_law_523 dL_law_525 dL_law_526 dL_law_527 ?_
  refine v_arg 2 C hX hL (by omega) 1 0 rfl rfl rfl dL_law_528 dL_law_529 dL_law_531 dL_law_532 dL_law_533 ?_
  refine v_arg 3 C hX hL (by omega) 1 0 rfl rfl rfl dL_law_534 dL_law_535 dL_law_537 dL_law_538 dL_law_539 ?_
  refine v_callVi (n := 7) (i := 0) (As := [.int (xs (i + 1)), .int (xs (i + 2)), .int (xs (i + 3))]) [] C dL_law_540 w_L_61 (ok_X7_way l g (xs (i + 1)) (xs (i + 2)) (xs (i + 3)) σ _ (k_way h)) (Nat.le_of_ble_eq_true rfl) rfl rfl rfl (by decide) rfl rfl (Nat.le_of_ble_eq_true rfl) (fun r σ1 hq => ?_)
  refine v_aload_n C dL_law_543 rfl 3 rfl ?_
  refine v_arg 1 C hX hL (by omega) 1 0 rfl rfl rfl dL_law_544 dL_law_545 dL_law_547 dL_law_548 dL_law_549 ?_
  refine v_arg 2 C hX hL (by omega) 1 0 rfl rfl rfl dL_law_550 dL_law_551 dL_law_553 dL_law_554 dL_law_555 ?_
  refine v_arg 3 C hX hL (by omega) 1 0 rfl rfl rfl dL_law_556 dL_law_557 dL_law_559 dL_law_560 dL_law_561 ?_
  refine v_callVi (n := 8) (i := 0) (As := [.int (xs (i + 1)), .int (xs (i + 2)), .int (xs (i + 3))]) [.int r] C dL_law_562 w_L_65 (ok_X8_way l g (xs (i + 1)) (xs (i + 2)) (xs (i + 3)) σ1 _ hq) (Nat.le_of_ble_eq_true rfl) rfl rfl rfl (by decide) rfl rfl (Nat.le_of_ble_eq_true rfl) (fun r2 σ2 hq2 => ?_)
  obtain ⟨rfl, hq2⟩ := hq2
  exact v_icmp_eq (tgt := 1731) C dL_law_565 (by decide) (fun _ => nx σ2 hq2) (fun q => absurd rfl q)
theorem lc_10 (C : CxV g A p R s m args meth c kc sc cL_law 7 RL 70) (hX : Sc A b L xs s) (hL : L < 2 ^ 31) (hi : i + 5 < L) (hn : n ≤ 600) (h : RR n σ) (nx : ∀ σ2, RR (n + 1) σ2 → V g A p l e R s m args below meth c Z kc sc 7 1731 (lwL g b (nI i)) [] σ2) : V g A p l e R s m args below meth c Z kc sc 7 570 (lwL g b (nI i)) [] σ := by
  refine v_aload_n C dL_law_570 rfl 2 rfl ?_
  refine v_arg 1 C hX hL (by omega) 1 0 rfl rfl rfl dL_law_571 dL_law_572 dL_law_574 dL_law_575 dL_law_576 ?_
  refine v_arg 2 C hX hL (by omega) 1 0 rfl rfl rfl dL_law_577 dL_law_578 dL_law_580 dL_law_581 dL_law_582 ?_
  refine v_callVi (n := 7) (i := 0) (As := [.int (xs (i + 1)), .int (xs (i + 2))]) [] C dL_law_583 w_L_66 (ok_X7_waits l g (xs (i + 1)) (xs (i + 2)) σ _ (k_waits h)) (Nat.le_of_ble_eq_true rfl) rfl rfl rfl (by decide) rfl rfl (Nat.le_of_ble_eq_true rfl) (fun r σ1 hq => ?_)
  refine v_aload_n C dL_law_586 rfl 3 rfl ?_
  refine v_arg 1 C hX hL (by omega) 1 0 rfl rfl rfl dL_law_587 dL_law_588 dL_law_590 dL_law_591 dL_law_592 ?_
  refine v_arg 2 C hX hL (by omega) 1 0 rfl rfl rfl dL_law_593 dL_law_594 dL_law_596 dL_law_597 dL_law_598 ?_
  refine v_callVi (n := 8) (i := 0) (As := [.int (xs (i + 1)), .int (xs (i + 2))]) [.int r] C dL_law_599 w_L_69 (ok_X8_waits l g (xs (i + 1)) (xs (i + 2)) σ1 _ hq) (Nat.le_of_ble_eq_true rfl) rfl rfl rfl (by decide) rfl rfl (Nat.le_of_ble_eq_true rfl) (fun r2 σ2 hq2 => ?_)
  obtain ⟨rfl, hq2⟩ := hq2
  exact v_icmp_eq (tgt := 1731) C dL_law_602 (by decide) (fun _ => nx σ2 hq2) (fun q => absurd rfl q)
theorem lc_11 (C : CxV g A p R s m args meth c kc sc cL_law 7 RL 70) (hX : Sc A b L xs s) (hL : L < 2 ^ 31) (hi : i + 5 < L) (hn : n ≤ 600) (h : RR n σ) (nx : ∀ σ2, RR (n + 1) σ2 → V g A p l e R s m args below meth c Z kc sc 7 1731 (lwL g b (nI i)) [] σ2) : V g A p l e R s m args below meth c Z kc sc 7 607 (lwL g b (nI i)) [] σ := by
  refine v_aload_n C dL_law_607 rfl 2 rfl ?_
  refine v_arg 1 C hX hL (by omega) 1 0 rfl rfl rfl dL_law_608 dL_law_609 dL_law_611 dL_law_612 dL_law_613 ?_
  refine v_arg 2 C hX hL (by omega) 1 0 rfl rfl rfl dL_law_614 dL_law_615 dL_law_617 dL_law_618 dL_law_619 ?_
  refine v_callVi (n := 7) (i := 0) (As := [.int (xs (i + 1)), .int (xs (i + 2))]) [] C dL_law_620 w_L_70 (ok_X7_credit l g (xs (i + 1)) (xs (i + 2)) σ _ (k_credit h)) (Nat.le_of_ble_eq_true rfl) rfl rfl rfl (by decide) rfl rfl (Nat.le_of_ble_eq_true rfl) (fun r σ1 hq => ?_)
  refine v_aload_n C dL_law_623 rfl 3 rfl ?_
  refine v_arg 1 C hX hL (by omega) 1 0 rfl rfl rfl dL_law_624 dL_law_625 dL_law_627 dL_law_628 dL_law_629 ?_
  refine v_arg 2 C hX hL (by omega) 1 0 rfl rfl rfl dL_law_630 dL_law_631 dL_law_633 dL_law_634 dL_law_635 ?_
  refine v_callVi (n := 8) (i := 0) (As := [.int (xs (i + 1)), .int (xs (i + 2))]) [.int r] C dL_law_636 w_L_73 (ok_X8_credit l g (xs (i + 1)) (xs (i + 2)) σ1 _ hq) (Nat.le_of_ble_eq_true rfl) rfl rfl rfl (by decide) rfl rfl (Nat.le_of_ble_eq_true rfl) (fun r2 σ2 hq2 => ?_)
  obtain ⟨rfl, hq2⟩ := hq2
  exact v_icmp_eq (tgt := 1731) C dL_law_639 (by decide) (fun _ => nx σ2 hq2) (fun q => absurd rfl q)
theorem lc_12 (C : CxV g A p R s m args meth c kc sc cL_law 7 RL 70) (hX : Sc A b L xs s) (hL : L < 2 ^ 31) (hi : i + 5 < L) (hn : n ≤ 600) (h : RR n σ) (nx : ∀ σ2, RR (n + 1) σ2 → V g A p l e R s m args below meth c Z kc sc 7 1731 (lwL g b (nI i)) [] σ2) : V g A p l e R s m args below meth c Z kc sc 7 644 (lwL g b (nI i)) [] σ := by
  refine v_aload_n C dL_law_644 rfl 2 rfl ?_
  refine v_arg 1 C hX hL (by omega) 1 0 rfl rfl rfl dL_law_645 dL_law_646 dL_law_648 dL_law_649 dL_law_650 ?_
  refine v_arg 2 C hX hL (by omega) 1 0 rfl rfl rfl dL_law_651 dL_law_652 dL_law_654 dL_law_655 dL_law_656 ?_
  refine v_arg 3 C hX hL (by omega) 1 0 rfl rfl rfl dL_law_657 dL_law_658 dL_law_660 dL_law_661 dL_law_662 ?_
  refine v_callVi (n := 7) (i := 0) (As := [.int (xs (i + 1)), .int (xs (i + 2)), .int (xs (i + 3))]) [] C dL_law_663 w_L_74 (ok_X7_port l g (xs (i + 1)) (xs (i + 2)) (xs (i + 3)) σ _ (k_port h)) (Nat.le_of_ble_eq_true rfl) rfl rfl rfl (by decide) rfl rfl (Nat.le_of_ble_eq_true rfl) (fun r σ1 hq => ?_)
  refine v_aload_n C dL_law_666 rfl 3 rfl ?_
  refine v_arg 1 C hX hL (by omega) 1 0 rfl rfl rfl dL_law_667 dL_law_668 dL_law_670 dL_law_671 dL_law_672 ?_
  refine v_arg 2 C hX hL (by omega) 1 0 rfl rfl rfl dL_law_673 dL_law_674 dL_law_676 dL_law_677 dL_law_678 ?_
  refine v_arg 3 C hX hL (by omega) 1 0 rfl rfl rfl dL_law_679 dL_law_680 dL_law_682 dL_law_683 dL_law_684 ?_
  refine v_callVi (n := 8) (i := 0) (As := [.int (xs (i + 1)), .int (xs (i + 2)), .int (xs (i + 3))]) [.int r] C dL_law_685 w_L_77 (ok_X8_port l g (xs (i + 1)) (xs (i + 2)) (xs (i + 3)) σ1 _ hq) (Nat.le_of_ble_eq_true rfl) rfl rfl rfl (by decide) rfl rfl (Nat.le_of_ble_eq_true rfl) (fun r2 σ2 hq2 => ?_)
  obtain ⟨rfl, hq2⟩ := hq2
  exact v_icmp_eq (tgt := 1731) C dL_law_688 (by decide) (fun _ => nx σ2 hq2) (fun q => absurd rfl q)
theorem lc_13 (C : CxV g A p R s m args meth c kc sc cL_law 7 RL 70) (hX : Sc A b L xs s) (hL : L < 2 ^ 31) (hi : i + 5 < L) (hn : n ≤ 600) (h : RR n σ) (nx : ∀ σ2, RR (n + 1) σ2 → V g A p l e R s m args below meth c Z kc sc 7 1731 (lwL g b (nI i)) [] σ2) : V g A p l e R s m args below meth c Z kc sc 7 693 (lwL g b (nI i)) [] σ := by
  refine v_aload_n C dL_law_693 rfl 2 rfl ?_
  refine v_arg 1 C hX hL (by omega) 1 0 rfl rfl rfl dL_law_694 dL_law_695 dL_law_697 dL_law_698 dL_law_699 ?_
  refine v_arg 2 C hX hL (by omega) 1 0 rfl rfl rfl dL_law_700 dL_law_701 dL_law_703 dL_law_704 dL_law_705 ?_
  refine v_arg 3 C hX hL (by omega) 1 0 rfl rfl rfl dL_law_706 dL_law_707 dL_law_709 dL_law_710 dL_law_711 ?_
  refine v_arg 4 C hX hL (by omega) 1 0 rfl rfl rfl dL_law_712 dL_law_713 dL_law_715 dL_law_716 dL_law_717 ?_
  refine v_callVi (n := 7) (i := 0) (As := [.int (xs (i + 1)), .int (xs (i + 2)), .int (xs (i + 3)), .int (xs (i + 4))]) [] C dL_law_718 w_L_78 (ok_X7_frame l g (xs (i + 1)) (xs (i + 2)) (xs (i + 3)) (xs (i + 4)) σ _ (k_frame h)) (Nat.le_of_ble_eq_true rfl) rfl rfl rfl (by decide) rfl rfl (Nat.le_of_ble_eq_true rfl) (fun r σ1 hq => ?_)
  refine v_aload_n C dL_law_721 rfl 3 rfl ?_
  refine v_arg 1 C hX hL (by omega) 1 0 rfl rfl rfl dL_law_722 dL_law_723 dL_law_725 dL_law_726 dL_law_727 ?_
  refine v_arg 2 C hX hL (by omega) 1 0 rfl rfl rfl dL_law_728 dL_law_729 dL_law_731 dL_law_732 dL_law_733 ?_
  refine v_arg 3 C hX hL (by omega) 1 0 rfl rfl rfl dL_law_734 dL_law_735 dL_law_737 dL_law_738 dL_law_739 ?_
  refine v_arg 4 C hX hL (by omega) 1 0 rfl rfl rfl dL_law_740 dL_law_741 dL_law_743 dL_law_744 dL_law_745 ?_
  refine v_callVi (n := 8) (i := 0) (As := [.int (xs (i + 1)), .int (xs (i + 2)), .int (xs (i + 3)), .int (xs (i + 4))]) [.int r] C dL_law_746 w_L_82 (ok_X8_frame l g (xs (i + 1)) (xs (i + 2)) (xs (i + 3)) (xs (i + 4)) σ1 _ hq) (Nat.le_of_ble_eq_true rfl) rfl rfl rfl (by decide) rfl rfl (Nat.le_of_ble_eq_true rfl) (fun r2 σ2 hq2 => ?_)
  obtain ⟨rfl, hq2⟩ := hq2
  exact v_icmp_eq (tgt := 1731) C dL_law_749 (by decide) (fun _ => nx σ2 hq2) (fun q => absurd rfl q)
theorem lc_14 (C : CxV g A p R s m args meth c kc sc cL_law 7 RL 70) (hX : Sc A b L xs s) (hL : L < 2 ^ 31) (hi : i + 5 < L) (hn : n ≤ 600) (h : RR n σ) (nx : ∀ σ2, RR (n + 1) σ2 → V g A p l e R s m args below meth c Z kc sc 7 1731 (lwL g b (nI i)) [] σ2) : V g A p l e R s m args below meth c Z kc sc 7 754 (lwL g b (nI i)) [] σ := by
  refine v_aload_n C dL_law_754 rfl 2 rfl ?_
  refine v_arg 1 C hX hL (by omega) 1 0 rfl rfl rfl dL_law_755 dL_law_756 dL_law_758 dL_law_759 dL_law_760 ?_
  refine v_arg 2 C hX hL (by omega) 1 0 rfl rfl rfl dL_law_761 dL_law_762 dL_law_764 dL_law_765 dL_law_766 ?_
  refine v_callVi (n := 7) (i := 0) (As := [.int (xs (i + 1)), .int (xs (i + 2))]) [] C dL_law_767 w_L_83 (ok_X7_lost l g (xs (i + 1)) (xs (i + 2)) σ _ (k_lost h)) (Nat.le_of_ble_eq_true rfl) rfl rfl rfl (by decide) rfl rfl (Nat.le_of_ble_eq_true rfl) (fun r σ1 hq => ?_)
  refine v_aload_n C dL_law_770 rfl 3 rfl ?_
  refine v_arg 1 C hX hL (by omega) 1 0 rfl rfl rfl dL_law_771 dL_law_772 dL_law_774 dL_law_775 dL_law_776 ?_
  refine v_arg 2 C hX hL (by omega) 1 0 rfl rfl rfl dL_law_777 dL_law_778 dL_law_780 dL_law_781 dL_law_782 ?_
  refine v_callVi (n := 8) (i := 0) (As := [.int (xs (i + 1)), .int (xs (i + 2))]) [.int r] C dL_law_783 w_L_86 (ok_X8_lost l g (xs (i + 1)) (xs (i + 2)) σ1 _ hq) (Nat.le_of_ble_eq_true rfl) rfl rfl rfl (by decide) rfl rfl (Nat.le_of_ble_eq_true rfl) (fun r2 σ2 hq2 => ?_)
  obtain ⟨rfl, hq2⟩ := hq2
  exact v_icmp_eq (tgt := 1731) C dL_law_786 (by decide) (fun _ => nx σ2 hq2) (fun q => absurd rfl q)
theorem lc_15 (C : CxV g A p R s m args meth c kc sc cL_law 7 RL 70) (hX : Sc A b L xs s) (hL : L < 2 ^ 31) (hi : i + 5 < L) (hn : n ≤ 600) (h : RR n σ) (nx : ∀ σ2, RR (n + 1) σ2 → V g A p l e R s m args below meth c Z kc sc 7 1731 (lwL g b (nI i)) [] σ2) : V g A p l e R s m args below meth c Z kc sc 7 791 (lwL g b (nI i)) [] σ := by
  refine v_aload_n C dL_law_791 rfl 2 rfl ?_
  refine v_arg 1 C hX hL (by omega) 1 0 rfl rfl rfl dL_law_792 dL_law_793 dL_law_795 dL_law_796 dL_law_797 ?_
  refine v_arg 2 C hX hL (by omega) 1 0 rfl rfl rfl dL_law_798 dL_law_799 dL_law_801 dL_law_802 dL_law_803 ?_
  refine v_callVi (n := 7) (i := 0) (As := [.int (xs (i + 1)), .int (xs (i + 2))]) [] C dL_law_804 w_L_87 (ok_X7_policed l g (xs (i + 1)) (xs (i + 2)) σ _ (k_policed h)) (Nat.le_of_ble_eq_true rfl) rfl rfl rfl (by decide) rfl rfl (Nat.le_of_ble_eq_true rfl) (fun r σ1 hq => ?_)
  refine v_aload_n C dL_law_807 rfl 3 rfl ?_
  refine v_arg 1 C hX hL (by omega) 1 0 rfl rfl rfl dL_law_808 dL_law_809 dL_law_811 dL_law_812 dL_law_813 ?_
  refine v_arg 2 C hX hL (by omega) 1 0 rfl rfl rfl dL_law_814 dL_law_815 dL_law_817 dL_law_818 dL_law_819 ?_
  refine v_callVi (n := 8) (i := 0) (As := [.int (xs (i + 1)), .int (xs (i + 2))]) [.int r] C dL_law_820 w_L_90 (ok_X8_policed l g (xs (i + 1)) (xs (i + 2)) σ1 _ hq) (Nat.le_of_ble_eq_true rfl) rfl rfl rfl (by decide) rfl rfl (Nat.le_of_ble_eq_true rfl) (fun r2 σ2 hq2 => ?_)
  obtain ⟨rfl, hq2⟩ := hq2
  exact v_icmp_eq (tgt := 1731) C dL_law_823 (by decide) (fun _ => nx σ2 hq2) (fun q => absurd rfl q)
theorem lc_16 (C : CxV g A p R s m args meth c kc sc cL_law 7 RL 70) (hX : Sc A b L xs s) (hL : L < 2 ^ 31) (hi : i + 5 < L) (hn : n ≤ 600) (h : RR n σ) (nx : ∀ σ2, RR (n + 1) σ2 → V g A p l e R s m args below meth c Z kc sc 7 1731 (lwL g b (nI i)) [] σ2) : V g A p l e R s m args below meth c Z kc sc 7 828 (lwL g b (nI i)) [] σ := by
  refine v_aload_n C dL_law_828 rfl 2 rfl ?_
  refine v_arg 1 C hX hL (by omega) 1 0 rfl rfl rfl dL_law_829 dL_law_830 dL_law_832 dL_law_833 dL_law_834 ?_
  refine v_arg 2 C hX hL (by omega) 1 0 rfl rfl rfl dL_law_835 dL_law_836 dL_law_838 dL_law_839 dL_law_840 ?_
  refine v_arg 3 C hX hL (by omega) 1 0 rfl rfl rfl dL_law_841 dL_law_842 dL_law_844 dL_law_845 dL_law_846 ?_
  refine v_callVi (n := 7) (i := 0) (As := [.int (xs (i + 1)), .int (xs (i + 2)), .int (xs (i + 3))]) [] C dL_law_847 w_L_91 (ok_X7_heard l g (xs (i + 1)) (xs (i + 2)) (xs (i + 3)) σ _ (k_heard h)) (Nat.le_of_ble_eq_true rfl) rfl rfl rfl (by decide) rfl rfl (Nat.le_of_ble_eq_true rfl) (fun r σ1 hq => ?_)
  refine v_aload_n C dL_law_850 rfl 3 rfl ?_
  refine v_arg 1 C hX hL (by omega) 1 0 rfl rfl rfl dL_law_851 dL_law_852 dL_law_854 dL_law_855 dL_law_856 ?_
  refine v_arg 2 C hX hL (by omega) 1 0 rfl rfl rfl dL_law_857 dL_law_858 dL_law_860 dL_law_861 dL_law_862 ?_
  refine v_arg 3 C hX hL (by omega) 1 0 rfl rfl rfl dL_law_863 dL_law_864 dL_law_866 dL_law_867 dL_law_868 ?_
  refine v_callVi (n := 8) (i := 0) (As := [.int (xs (i + 1)), .int (xs (i + 2)), .int (xs (i + 3))]) [.int r] C dL_law_869 w_L_94 (ok_X8_heard l g (xs (i + 1)) (xs (i + 2)) (xs (i + 3)) σ1 _ hq) (Nat.le_of_ble_eq_true rfl) rfl rfl rfl (by decide) rfl rfl (Nat.le_of_ble_eq_true rfl) (fun r2 σ2 hq2 => ?_)
  obtain ⟨rfl, hq2⟩ := hq2
  exact v_icmp_eq (tgt := 1731) C dL_law_872 (by decide) (fun _ => nx σ2 hq2) (fun q => absurd rfl q)
theorem lc_17 (C : CxV g A p R s m args meth c kc sc cL_law 7 RL 70) (hX : Sc A b L xs s) (hL : L < 2 ^ 31) (hi : i + 5 < L) (hn : n ≤ 600) (h : RR n σ) (nx : ∀ σ2, RR (n + 1) σ2 → V g A p l e R s m args below meth c Z kc sc 7 1731 (lwL g b (nI i)) [] σ2) : V g A p l e R s m args below meth c Z kc sc 7 877 (lwL g b (nI i)) [] σ := by
  refine v_aload_n C dL_law_877 rfl 2 rfl ?_
  refine v_arg 1 C hX hL (by omega) 1 0 rfl rfl rfl dL_law_878 dL_law_879 dL_law_881 dL_law_882 dL_law_883 ?_
  refine v_arg 2 C hX hL (by omega) 1 0 rfl rfl rfl dL_law_884 dL_law_885 dL_law_887 dL_law_888 dL_law_889 ?_
  refine v_arg 3 C hX hL (by omega) 1 0 rfl rfl rfl dL_law_890 dL_law_891 dL_law_893 dL_law_894 dL_law_895 ?_
  refine v_callVi (n := 7) (i := 0) (As := [.int (xs (i + 1)), .int (xs (i + 2)), .int (xs (i + 3))]) [] C dL_law_896 w_L_95 (ok_X7_seen l g (xs (i + 1)) (xs (i + 2)) (xs (i + 3)) σ _ (k_seen h)) (Nat.le_of_ble_eq_true rfl) rfl rfl rfl (by decide) rfl rfl (Nat.le_of_ble_eq_true rfl) (fun r σ1 hq => ?_)
  refine v_aload_n C dL_law_899 rfl 3 rfl ?_
  refine v_arg 1 C hX hL (by omega) 1 0 rfl rfl rfl dL_law_900 dL_law_901 dL_law_903 dL_law_904 dL_law_905 ?_
  refine v_arg 2 C hX hL (by omega) 1 0 rfl rfl rfl dL_law_906 dL_law_907 dL_law_909 dL_law_910 dL_law_911 ?_
  refine v_arg 3 C hX hL (by omega) 1 0 rfl rfl rfl dL_law_912 dL_law_913 dL_law_915 dL_law_916 dL_law_917 ?_
  refine v_callVi (n := 8) (i := 0) (As := [.int (xs (i + 1)), .int (xs (i + 2)), .int (xs (i + 3))]) [.int r] C dL_law_918 w_L_98 (ok_X8_seen l g (xs (i + 1)) (xs (i + 2)) (xs (i + 3)) σ1 _ hq) (Nat.le_of_ble_eq_true rfl) rfl rfl rfl (by decide) rfl rfl (Nat.le_of_ble_eq_true rfl) (fun r2 σ2 hq2 => ?_)
  obtain ⟨rfl, hq2⟩ := hq2
  exact v_icmp_eq (tgt := 1731) C dL_law_921 (by decide) (fun _ => nx σ2 hq2) (fun q => absurd rfl q)
theorem lc_18 (C : CxV g A p R s m args meth c kc sc cL_law 7 RL 70) (hX : Sc A b L xs s) (hL : L < 2 ^ 31) (hi : i + 5 < L) (hn : n ≤ 600) (h : RR n σ) (nx : ∀ σ2, RR (n + 1) σ2 → V g A p l e R s m args below meth c Z kc sc 7 1731 (lwL g b (nI i)) [] σ2) : V g A p l e R s m args below meth c Z kc sc 7 926 (lwL g b (nI i)) [] σ := by
  refine v_aload_n C dL_law_926 rfl 2 rfl ?_
  refine v_arg 1 C hX hL (by omega) 1 0 rfl rfl rfl dL_law_927 dL_law_928 dL_law_930 dL_law_931 dL_law_932 ?_
  refine v_arg 2 C hX hL (by omega) 1 0 rfl rfl rfl dL_law_933 dL_law_934 dL_law_936 dL_law_937 dL_law_938 ?_
  refine v_arg 3 C hX hL (by omega) 1 0 rfl rfl rfl dL_law_939 dL_law_940 dL_law_942 dL_law_943 dL_law_944 ?_
  refine v_callVi (n := 7) (i := 0) (As := [.int (xs (i + 1)), .int (xs (i + 2)), .int (xs (i + 3))]) [] C dL_law_945 w_L_99 (ok_X7_taken l g (xs (i + 1)) (xs (i + 2)) (xs (i + 3)) σ _ (k_taken hn h)) (Nat.le_of_ble_eq_true rfl) rfl rfl rfl (by decide) rfl rfl (Nat.le_of_ble_eq_true rfl) (fun r σ1 hq => ?_)
  refine v_aload_n C dL_law_948 rfl 3 rfl ?_
  refine v_arg 1 C hX hL (by omega) 1 0 rfl rfl rfl dL_law_949 dL_law_950 dL_law_952 dL_law_953 dL_law_954 ?_
  refine v_arg 2 C hX hL (by omega) 1 0 rfl rfl rfl dL_law_955 dL_law_956 dL_law_958 dL_law_959 dL_law_960 ?_
  refine v_arg 3 C hX hL (by omega) 1 0 rfl rfl rfl dL_law_961 dL_law_962 dL_law_964 dL_law_965 dL_law_966 ?_
  refine v_callVi (n := 8) (i := 0) (As := [.int (xs (i + 1)), .int (xs (i + 2)), .int (xs (i + 3))]) [.int r] C dL_law_967 w_L_102 (ok_X8_taken l g (xs (i + 1)) (xs (i + 2)) (xs (i + 3)) σ1 _ hq) (Nat.le_of_ble_eq_true rfl) rfl rfl rfl (by decide) rfl rfl (Nat.le_of_ble_eq_true rfl) (fun r2 σ2 hq2 => ?_)
  obtain ⟨rfl, hq2⟩ := hq2
  exact v_icmp_eq (tgt := 1731) C dL_law_970 (by decide) (fun _ => nx σ2 hq2) (fun q => absurd rfl q)
theorem lc_19 (C : CxV g A p R s m args meth c kc sc cL_law 7 RL 70) (hX : Sc A b L xs s) (hL : L < 2 ^ 31) (hi : i + 5 < L) (hn : n ≤ 600) (h : RR n σ) (nx : ∀ σ2, RR (n + 1) σ2 → V g A p l e R s m args below meth c Z kc sc 7 1731 (lwL g b (nI i)) [] σ2) : V g A p l e R s m args below meth c Z kc sc 7 975 (lwL g b (nI i)) [] σ := by
  refine v_aload_n C dL_law_975 rfl 2 rfl ?_
  refine v_arg 1 C hX hL (by omega) 1 0 rfl rfl rfl dL_law_976 dL_law_977 dL_law_979 dL_law_980 dL_law_981 ?_
  refine v_arg 2 C hX hL (by omega) 1 0 rfl rfl rfl dL_law_982 dL_law_983 dL_law_985 dL_law_986 dL_law_987 ?_
  refine v_bool C dL_law_988 dL_law_991 dL_law_992 dL_law_995 ?_
  refine v_callVl (n := 7) (i := 0) (As := [.int (xs (i + 1)), .int (if (xs (i + 2)) = 0 then 0 else 1)]) [] C dL_law_996 w_L_103 (ok_X7_load l g (xs (i + 1)) (if (xs (i + 2)) = 0 then 0 else 1) σ _ (k_load h)) (Nat.le_of_ble_eq_true rfl) rfl rfl rfl (by decide) rfl rfl (Nat.le_of_ble_eq_true rfl) (fun r σ1 hq => ?_)
  refine v_aload_n C dL_law_999 rfl 3 rfl ?_
  refine v_arg 1 C hX hL (by omega) 1 0 rfl rfl rfl dL_law_1000 dL_law_1001 dL_law_1003 dL_law_1004 dL_law_1005 ?_
  refine v_arg 2 C hX hL (by omega) 1 0 rfl rfl rfl dL_law_1006 dL_law_1007 dL_law_1009 dL_law_1010 dL_law_1011 ?_
  refine v_bool C dL_law_1012 dL_law_1015 dL_law_1016 dL_law_1019 ?_
  refine v_callVl (n := 8) (i := 0) (As := [.int (xs (i + 1)), .int (if (xs (i + 2)) = 0 then 0 else 1)]) [.long r] C dL_law_1020 w_L_107 (ok_X8_load l g (xs (i + 1)) (if (xs (i + 2)) = 0 then 0 else 1) σ1 _ hq) (Nat.le_of_ble_eq_true rfl) rfl rfl rfl (by decide) rfl rfl (Nat.le_of_ble_eq_true rfl) (fun r2 σ2 hq2 => ?_)
  obtain ⟨rfl, hq2⟩ := hq2
  refine v_lcmp C dL_law_1023 ?_
  exact v_if_eq (tgt := 1731) C dL_law_1024 (by decide) (fun _ => nx σ2 hq2) (fun q => absurd (lg_cmp_self r) q)
theorem lc_20 (C : CxV g A p R s m args meth c kc sc cL_law 7 RL 70) (hX : Sc A b L xs s) (hL : L < 2 ^ 31) (hi : i + 5 < L) (hn : n ≤ 600) (h : RR n σ) (nx : ∀ σ2, RR (n + 1) σ2 → V g A p l e R s m args below meth c Z kc sc 7 1731 (lwL g b (nI i)) [] σ2) : V g A p l e R s m args below meth c Z kc sc 7 1029 (lwL g b (nI i)) [] σ := by
  refine v_aload_n C dL_law_1029 rfl 2 rfl ?_
  refine v_arg 1 C hX hL (by omega) 1 0 rfl rfl rfl dL_law_1030 dL_law_1031 dL_law_1033 dL_law_1034 dL_law_1035 ?_
  refine v_arg 2 C hX hL (by omega) 1 0 rfl rfl rfl dL_law_1036 dL_law_1037 dL_law_1039 dL_law_1040 dL_law_1041 ?_
  refine v_bool C dL_law_1042 dL_law_1045 dL_law_1046 dL_law_1049 ?_
  refine v_callVl (n := 7) (i := 0) (As := [.int (xs (i + 1)), .int (if (xs (i + 2)) = 0 then 0 else 1)]) [] C dL_law_1050 w_L_108 (ok_X7_delay l g (xs (i + 1)) (if (xs (i + 2)) = 0 then 0 else 1) σ _ (k_delay h)) (Nat.le_of_ble_eq_true rfl) rfl rfl rfl (by decide) rfl rfl (Nat.le_of_ble_eq_true rfl) (fun r σ1 hq => ?_)
  refine v_aload_n C dL_law_1053 rfl 3 rfl ?_
  refine v_arg 1 C hX hL (by omega) 1 0 rfl rfl rfl dL_law_1054 dL_law_1055 dL_law_1057 dL_law_1058 dL_law_1059 ?_
  refine v_arg 2 C hX hL (by omega) 1 0 rfl rfl rfl dL_law_1060 dL_law_1061 dL_law_1063 dL_law_1064 dL_law_1065 ?_
  refine v_bool C dL_law_1066 dL_law_1069 dL_law_1070 dL_law_1073 ?_
  refine v_callVl (n := 8) (i := 0) (As := [.int (xs (i + 1)), .int (if (xs (i + 2)) = 0 then 0 else 1)]) [.long r] C dL_law_1074 w_L_111 (ok_X8_delay l g (xs (i + 1)) (if (xs (i + 2)) = 0 then 0 else 1) σ1 _ hq) (Nat.le_of_ble_eq_true rfl) rfl rfl rfl (by decide) rfl rfl (Nat.le_of_ble_eq_true rfl) (fun r2 σ2 hq2 => ?_)
  obtain ⟨rfl, hq2⟩ := hq2
  refine v_lcmp C dL_law_1077 ?_
  exact v_if_eq (tgt := 1731) C dL_law_1078 (by decide) (fun _ => nx σ2 hq2) (fun q => absurd (lg_cmp_self r) q)
theorem lc_21 (C : CxV g A p R s m args meth c kc sc cL_law 7 RL 70) (hX : Sc A b L xs s) (hL : L < 2 ^ 31) (hi : i + 5 < L) (hn : n ≤ 600) (h : RR n σ) (nx : ∀ σ2, RR (n + 1) σ2 → V g A p l e R s m args below meth c Z kc sc 7 1731 (lwL g b (nI i)) [] σ2) : V g A p l e R s m args below meth c Z kc sc 7 1083 (lwL g b (nI i)) [] σ := by
  refine v_aload_n C dL_law_1083 rfl 2 rfl ?_
  refine v_arg 1 C hX hL (by omega) 1 0 rfl rfl rfl dL_law_1084 dL_law_1085 dL_law_1087 dL_law_1088 dL_law_1089 ?_
  refine v_arg 2 C hX hL (by omega) 1 0 rfl rfl rfl dL_law_1090 dL_law_1091 dL_law_1093 dL_law_1094 dL_law_1095 ?_
  refine v_arg 3 C hX hL (by omega) 1 0 rfl rfl rfl dL_law_1096 dL_law_1097 dL_law_1099 dL_law_1100 dL_law_1101 ?_
  refine v_arg 4 C hX hL (by omega) 1 0 rfl rfl rfl dL_law_1102 dL_law_1103 dL_law_1105 dL_law_1106 dL_law_1107 ?_
  refine v_bool C dL_law_1108 dL_law_1111 dL_law_1112 dL_law_1115 ?_
  refine v_callVl (n := 7) (i := 0) (As := [.int (xs (i + 1)), .int (xs (i + 2)), .int (xs (i + 3)), .int (if (xs (i + 4)) = 0 then 0 else 1)]) [] C dL_law_1116 w_L_112 (ok_X7_burst l g (xs (i + 1)) (xs (i + 2)) (xs (i + 3)) (if (xs (i + 4)) = 0 then 0 else 1) σ _ (k_burst h)) (Nat.le_of_ble_eq_true rfl) rfl rfl rfl (by decide) rfl rfl (Nat.le_of_ble_eq_true rfl) (fun r σ1 hq => ?_)
  refine v_aload_n C dL_law_1119 rfl 3 rfl ?_
  refine v_arg 1 C hX hL (by omega) 1 0 rfl rfl rfl dL_law_1120 dL_law_1121 dL_law_1123 dL_law_1124 dL_law_1125 ?_
  refine v_arg 2 C hX hL (by omega) 1 0 rfl rfl rfl dL_law_1126 dL_law_1127 dL_law_1129 dL_law_1130 dL_law_1131 ?_
  refine v_arg 3 C hX hL (by omega) 1 0 rfl rfl rfl dL_law_1132 dL_law_1133 dL_law_1135 dL_law_1136 dL_law_1137 ?_
  refine v_arg 4 C hX hL (by omega) 1 0 rfl rfl rfl dL_law_1138 dL_law_1139 dL_law_1141 dL_law_1142 dL_law_1143 ?_
  refine v_bool C dL_law_1144 dL_law_1147 dL_law_1148 dL_law_1151 ?_
  refine v_callVl (n := 8) (i := 0) (As := [.int (xs (i + 1)), .int (xs (i + 2)), .int (xs (i + 3)), .int (if (xs (i + 4)) = 0 then 0 else 1)]) [.long r] C dL_law_1152 w_L_116 (ok_X8_burst l g (xs (i + 1)) (xs (i + 2)) (xs (i + 3)) (if (xs (i + 4)) = 0 then 0 else 1) σ1 _ hq) (Nat.le_of_ble_eq_true rfl) rfl rfl rfl (by decide) rfl rfl (Nat.le_of_ble_eq_true rfl) (fun r2 σ2 hq2 => ?_)
  obtain ⟨rfl, hq2⟩ := hq2
  refine v_lcmp C dL_law_1155 ?_
  exact v_if_eq (tgt := 1731) C dL_law_1156 (by decide) (fun _ => nx σ2 hq2) (fun q => absurd (lg_cmp_self r) q)
theorem lc_22 (C : CxV g A p R s m args meth c kc sc cL_law 7 RL 70) (hX : Sc A b L xs s) (hL : L < 2 ^ 31) (hi : i + 5 < L) (hn : n ≤ 600) (h : RR n σ) (nx : ∀ σ2, RR (n + 1) σ2 → V g A p l e R s m args below meth c Z kc sc 7 1731 (lwL g b (nI i)) [] σ2) : V g A p l e R s m args below meth c Z kc sc 7 1161 (lwL g b (nI i)) [] σ := by
  refine v_aload_n C dL_law_1161 rfl 2 rfl ?_
  refine v_arg 1 C hX hL (by omega) 1 0 rfl rfl rfl dL_law_1162 dL_law_1163 dL_law_1165 dL_law_1166 dL_law_1167 ?_
  refine v_arg 2 C hX hL (by omega) 1 0 rfl rfl rfl dL_law_1168 dL_law_1169 dL_law_1171 dL_law_1172 dL_law_1173 ?_
  refine v_arg 3 C hX hL (by omega) 1 0 rfl rfl rfl dL_law_1174 dL_law_1175 dL_law_1177 dL_law_1178 dL_law_1179 ?_
  refine v_bool C dL_law_1180 dL_law_1183 dL_law_1184 dL_law_1187 ?_
  refine v_callVl (n := 7) (i := 0) (As := [.int (xs (i + 1)), .int (xs (i + 2)), .int (if (xs (i + 3)) = 0 then 0 else 1)]) [] C dL_law_1188 w_L_117 (ok_X7_bound l g (xs (i + 1)) (xs (i + 2)) (if (xs (i + 3)) = 0 then 0 else 1) σ _ (k_bound h)) (Nat.le_of_ble_eq_true rfl) rfl rfl rfl (by decide) rfl rfl (Nat.le_of_ble_eq_true rfl) (fun r σ1 hq => ?_)
  refine v_aload_n C dL_law_1191 rfl 3 rfl ?_
  refine v_arg 1 C hX hL (by omega) 1 0 rfl rfl rfl dL_law_1192 dL_law_1193 dL_law_1195 dL_law_1196 dL_law_1197 ?_
  refine v_arg 2 C hX hL (by omega) 1 0 rfl rfl rfl dL_law_1198 dL_law_1199 dL_law_1201 dL_law_1202 dL_law_1203 ?_
  refine v_arg 3 C hX hL (by omega) 1 0 rfl rfl rfl dL_law_1204 dL_law_1205 dL_law_1207 dL_law_1208 dL_law_1209 ?_
  refine v_bool C dL_law_1210 dL_law_1213 dL_law_1214 dL_law_1217 ?_
  refine v_callVl (n := 8) (i := 0) (As := [.int (xs (i + 1)), .int (xs (i + 2)), .int (if (xs (i + 3)) = 0 then 0 else 1)]) [.long r] C dL_law_1218 w_L_121 (ok_X8_bound l g (xs (i + 1)) (xs (i + 2)) (if (xs (i + 3)) = 0 then 0 else 1) σ1 _ hq) (Nat.le_of_ble_eq_true rfl) rfl rfl rfl (by decide) rfl rfl (Nat.le_of_ble_eq_true rfl) (fun r2 σ2 hq2 => ?_)
  obtain ⟨rfl, hq2⟩ := hq2
  refine v_lcmp C dL_law_1221 ?_
  exact v_if_eq (tgt := 1731) C dL_law_1222 (by decide) (fun _ => nx σ2 hq2) (fun q => absurd (lg_cmp_self r) q)
theorem lc_23 (C : CxV g A p R s m args meth c kc sc cL_law 7 RL 70) (hX : Sc A b L xs s) (hL : L < 2 ^ 31) (hi : i + 5 < L) (hn : n ≤ 600) (h : RR n σ) (nx : ∀ σ2, RR (n + 1) σ2 → V g A p l e R s m args below meth c Z kc sc 7 1731 (lwL g b (nI i)) [] σ2) : V g A p l e R s m args below meth c Z kc sc 7 1227 (lwL g b (nI i)) [] σ := by
  refine v_aload_n C dL_law_1227 rfl 2 rfl ?_
  refine v_arg 1 C hX hL (by omega) 1 0 rfl rfl rfl dL_law_1228 dL_law_1229 dL_law_1231 dL_law_1232 dL_law_1233 ?_
  refine v_arg 2 C hX hL (by omega) 1 0 rfl rfl rfl dL_law_1234 dL_law_1235 dL_law_1237 dL_law_1238 dL_law_1239 ?_
  refine v_callVi (n := 7) (i := 0) (As := [.int (xs (i + 1)), .int (xs (i + 2))]) [] C dL_law_1240 w_L_122 (ok_X7_keeps l g (xs (i + 1)) (xs (i + 2)) σ _ (k_keeps h)) (Nat.le_of_ble_eq_true rfl) rfl rfl rfl (by decide) rfl rfl (Nat.le_of_ble_eq_true rfl) (fun r σ1 hq => ?_)
  refine v_aload_n C dL_law_1243 rfl 3 rfl ?_
  refine v_arg 1 C hX hL (by omega) 1 0 rfl rfl rfl dL_law_1244 dL_law_1245 dL_law_1247 dL_law_1248 dL_law_1249 ?_
  refine v_arg 2 C hX hL (by omega) 1 0 rfl rfl rfl dL_law_1250 dL_law_1251 dL_law_1253 dL_law_1254 dL_law_1255 ?_
  refine v_callVi (n := 8) (i := 0) (As := [.int (xs (i + 1)), .int (xs (i + 2))]) [.int r] C dL_law_1256 w_L_125 (ok_X8_keeps l g (xs (i + 1)) (xs (i + 2)) σ1 _ hq) (Nat.le_of_ble_eq_true rfl) rfl rfl rfl (by decide) rfl rfl (Nat.le_of_ble_eq_true rfl) (fun r2 σ2 hq2 => ?_)
  obtain ⟨rfl, hq2⟩ := hq2
  exact v_icmp_eq (tgt := 1731) C dL_law_1259 (by decide) (fun _ => nx σ2 hq2) (fun q => absurd rfl q)
theorem lc_24 (C : CxV g A p R s m args meth c kc sc cL_law 7 RL 70) (hX : Sc A b L xs s) (hL : L < 2 ^ 31) (hi : i + 5 < L) (hn : n ≤ 600) (h : RR n σ) (nx : ∀ σ2, RR (n + 1) σ2 → V g A p l e R s m args below meth c Z kc sc 7 1731 (lwL g b (nI i)) [] σ2) : V g A p l e R s m args below meth c Z kc sc 7 1264 (lwL g b (nI i)) [] σ := by
  refine v_aload_n C dL_law_1264 rfl 2 rfl ?_
  refine v_callVi (n := 7) (i := 0) (As := []) [] C dL_law_1265 w_L_126 (ok_X7_fullest l g  σ _ (k_fullest h)) (Nat.le_of_ble_eq_true rfl) rfl rfl rfl (by decide) rfl rfl (Nat.le_of_ble_eq_true rfl) (fun r σ1 hq => ?_)
  refine v_aload_n C dL_law_1268 rfl 3 rfl ?_
  refine v_callVi (n := 8) (i := 0) (As := []) [.int r] C dL_law_1269 w_L_129 (ok_X8_fullest l g  σ1 _ hq) (Nat.le_of_ble_eq_true rfl) rfl rfl rfl (by decide) rfl rfl (Nat.le_of_ble_eq_true rfl) (fun r2 σ2 hq2 => ?_)
  obtain ⟨rfl, hq2⟩ := hq2
  exact v_icmp_eq (tgt := 1731) C dL_law_1272 (by decide) (fun _ => nx σ2 hq2) (fun q => absurd rfl q)
theorem lc_25 (C : CxV g A p R s m args meth c kc sc cL_law 7 RL 70) (hX : Sc A b L xs s) (hL : L < 2 ^ 31) (hi : i + 5 < L) (hn : n ≤ 600) (h : RR n σ) (nx : ∀ σ2, RR (n + 1) σ2 → V g A p l e R s m args below meth c Z kc sc 7 1731 (lwL g b (nI i)) [] σ2) : V g A p l e R s m args below meth c Z kc sc 7 1277 (lwL g b (nI i)) [] σ := by
  refine v_aload_n C dL_law_1277 rfl 2 rfl ?_
  refine v_arg 1 C hX hL (by omega) 1 0 rfl rfl rfl dL_law_1278 dL_law_1279 dL_law_1281 dL_law_1282 dL_law_1283 ?_
  refine v_callVi (n := 7) (i := 0) (As := [.int (xs (i + 1))]) [] C dL_law_1284 w_L_130 (ok_X7_leastGap l g (xs (i + 1)) σ _ (k_leastGap h)) (Nat.le_of_ble_eq_true rfl) rfl rfl rfl (by decide) rfl rfl (Nat.le_of_ble_eq_true rfl) (fun r σ1 hq => ?_)
  refine v_aload_n C dL_law_1287 rfl 3 rfl ?_
  refine v_arg 1 C hX hL (by omega) 1 0 rfl rfl rfl dL_law_1288 dL_law_1289 dL_law_1291 dL_law_1292 dL_law_1293 ?_
  refine v_callVi (n := 8) (i := 0) (As := [.int (xs (i + 1))]) [.int r] C dL_law_1294 w_L_133 (ok_X8_leastGap l g (xs (i + 1)) σ1 _ hq) (Nat.le_of_ble_eq_true rfl) rfl rfl rfl (by decide) rfl rfl (Nat.le_of_ble_eq_true rfl) (fun r2 σ2 hq2 => ?_)
  obtain ⟨rfl, hq2⟩ := hq2
  exact v_icmp_eq (tgt := 1731) C dL_law_1297 (by decide) (fun _ => nx σ2 hq2) (fun q => absurd rfl q)
theorem lc_26 (C : CxV g A p R s m args meth c kc sc cL_law 7 RL 70) (hX : Sc A b L xs s) (hL : L < 2 ^ 31) (hi : i + 5 < L) (hn : n ≤ 600) (h : RR n σ) (nx : ∀ σ2, RR (n + 1) σ2 → V g A p l e R s m args below meth c Z kc sc 7 1731 (lwL g b (nI i)) [] σ2) : V g A p l e R s m args below meth c Z kc sc 7 1302 (lwL g b (nI i)) [] σ := by
  refine v_aload_n C dL_law_1302 rfl 2 rfl ?_
  refine v_arg 1 C hX hL (by omega) 1 0 rfl rfl rfl dL_law_1303 dL_law_1304 dL_law_1306 dL_law_1307 dL_law_1308 ?_
  refine v_callVi (n := 7) (i := 0) (As := [.int (xs (i + 1))]) [] C dL_law_1309 w_L_134 (ok_X7_through l g (xs (i + 1)) σ _ (k_through h)) (Nat.le_of_ble_eq_true rfl) rfl rfl rfl (by decide) rfl rfl (Nat.le_of_ble_eq_true rfl) (fun r σ1 hq => ?_)
  refine v_aload_n C dL_law_1312 rfl 3 rfl ?_
  refine v_arg 1 C hX hL (by omega) 1 0 rfl rfl rfl dL_law_1313 dL_law_1314 dL_law_1316 dL_law_1317 dL_law_1318 ?_
  refine v_callVi (n := 8) (i := 0) (As := [.int (xs (i + 1))]) [.int r] C dL_law_1319 w_L_137 (ok_X8_through l g (xs (i + 1)) σ1 _ hq) (Nat.le_of_ble_eq_true rfl) rfl rfl rfl (by decide) rfl rfl (Nat.le_of_ble_eq_true rfl) (fun r2 σ2 hq2 => ?_)
  obtain ⟨rfl, hq2⟩ := hq2
  exact v_icmp_eq (tgt := 1731) C dL_law_1322 (by decide) (fun _ => nx σ2 hq2) (fun q => absurd rfl q)
theorem lc_27 (C : CxV g A p R s m args meth c kc sc cL_law 7 RL 70) (hX : Sc A b L xs s) (hL : L < 2 ^ 31) (hi : i + 5 < L) (hn : n ≤ 600) (h : RR n σ) (nx : ∀ σ2, RR (n + 1) σ2 → V g A p l e R s m args below meth c Z kc sc 7 1731 (lwL g b (nI i)) [] σ2) : V g A p l e R s m args below meth c Z kc sc 7 1327 (lwL g b (nI i)) [] σ := by
  refine v_aload_n C dL_law_1327 rfl 2 rfl ?_
  refine v_arg 1 C hX hL (by omega) 1 0 rfl rfl rfl dL_law_1328 dL_law_1329 dL_law_1331 dL_law_1332 dL_law_1333 ?_
  refine v_arg 2 C hX hL (by omega) 1 0 rfl rfl rfl dL_law_1334 dL_law_1335 dL_law_1337 dL_law_1338 dL_law_1339 ?_
  refine v_callVi (n := 7) (i := 0) (As := [.int (xs (i + 1)), .int (xs (i + 2))]) [] C dL_law_1340 w_L_138 (ok_X7_send l g (xs (i + 1)) (xs (i + 2)) σ _ (k_send h)) (Nat.le_of_ble_eq_true rfl) rfl rfl rfl (by decide) rfl rfl (Nat.le_of_ble_eq_true rfl) (fun r σ1 hq => ?_)
  refine v_aload_n C dL_law_1343 rfl 3 rfl ?_
  refine v_arg 1 C hX hL (by omega) 1 0 rfl rfl rfl dL_law_1344 dL_law_1345 dL_law_1347 dL_law_1348 dL_law_1349 ?_
  refine v_arg 2 C hX hL (by omega) 1 0 rfl rfl rfl dL_law_1350 dL_law_1351 dL_law_1353 dL_law_1354 dL_law_1355 ?_
  refine v_callVi (n := 8) (i := 0) (As := [.int (xs (i + 1)), .int (xs (i + 2))]) [.int r] C dL_law_1356 w_L_141 (ok_X8_send l g (xs (i + 1)) (xs (i + 2)) σ1 _ hq) (Nat.le_of_ble_eq_true rfl) rfl rfl rfl (by decide) rfl rfl (Nat.le_of_ble_eq_true rfl) (fun r2 σ2 hq2 => ?_)
  obtain ⟨rfl, hq2⟩ := hq2
  exact v_icmp_eq (tgt := 1731) C dL_law_1359 (by decide) (fun _ => nx σ2 hq2) (fun q => absurd rfl q)
theorem lc_28 (C : CxV g A p R s m args meth c kc sc cL_law 7 RL 70) (hX : Sc A b L xs s) (hL : L < 2 ^ 31) (hi : i + 5 < L) (hn : n ≤ 600) (h : RR n σ) (nx : ∀ σ2, RR (n + 1) σ2 → V g A p l e R s m args below meth c Z kc sc 7 1731 (lwL g b (nI i)) [] σ2) : V g A p l e R s m args below meth c Z kc sc 7 1364 (lwL g b (nI i)) [] σ := by
  refine v_aload_n C dL_law_1364 rfl 2 rfl ?_
  refine v_arg 1 C hX hL (by omega) 1 0 rfl rfl rfl dL_law_1365 dL_law_1366 dL_law_1368 dL_law_1369 dL_law_1370 ?_
  refine v_arg 2 C hX hL (by omega) 1 0 rfl rfl rfl dL_law_1371 dL_law_1372 dL_law_1374 dL_law_1375 dL_law_1376 ?_
  refine v_callVi (n := 7) (i := 0) (As := [.int (xs (i + 1)), .int (xs (i + 2))]) [] C dL_law_1377 w_L_142 (ok_X7_babble l g (xs (i + 1)) (xs (i + 2)) σ _ (k_babble h)) (Nat.le_of_ble_eq_true rfl) rfl rfl rfl (by decide) rfl rfl (Nat.le_of_ble_eq_true rfl) (fun r σ1 hq => ?_)
  refine v_aload_n C dL_law_1380 rfl 3 rfl ?_
  refine v_arg 1 C hX hL (by omega) 1 0 rfl rfl rfl dL_law_1381 dL_law_1382 dL_law_1384 dL_law_1385 dL_law_1386 ?_
  refine v_arg 2 C hX hL (by omega) 1 0 rfl rfl rfl dL_law_1387 dL_law_1388 dL_law_1390 dL_law_1391 dL_law_1392 ?_
  refine v_callVi (n := 8) (i := 0) (As := [.int (xs (i + 1)), .int (xs (i + 2))]) [.int r] C dL_law_1393 w_L_145 (ok_X8_babble l g (xs (i + 1)) (xs (i + 2)) σ1 _ hq) (Nat.le_of_ble_eq_true rfl) rfl rfl rfl (by decide) rfl rfl (Nat.le_of_ble_eq_true rfl) (fun r2 σ2 hq2 => ?_)
  obtain ⟨rfl, hq2⟩ := hq2
  exact v_icmp_eq (tgt := 1731) C dL_law_1396 (by decide) (fun _ => nx σ2 hq2) (fun q => absurd rfl q)
theorem lc_29 (C : CxV g A p R s m args meth c kc sc cL_law 7 RL 70) (hX : Sc A b L xs s) (hL : L < 2 ^ 31) (hi : i + 5 < L) (hn : n ≤ 600) (h : RR n σ) (nx : ∀ σ2, RR (n + 1) σ2 → V g A p l e R s m args below meth c Z kc sc 7 1731 (lwL g b (nI i)) [] σ2) : V g A p l e R s m args below meth c Z kc sc 7 1401 (lwL g b (nI i)) [] σ := by
  refine v_aload_n C dL_law_1401 rfl 2 rfl ?_
  refine v_arg 1 C hX hL (by omega) 1 0 rfl rfl rfl dL_law_1402 dL_law_1403 dL_law_1405 dL_law_1406 dL_law_1407 ?_
  refine v_arg 2 C hX hL (by omega) 1 0 rfl rfl rfl dL_law_1408 dL_law_1409 dL_law_1411 dL_law_1412 dL_law_1413 ?_
  refine v_callVi (n := 7) (i := 0) (As := [.int (xs (i + 1)), .int (xs (i + 2))]) [] C dL_law_1414 w_L_146 (ok_X7_down l g (xs (i + 1)) (xs (i + 2)) σ _ (k_down h)) (Nat.le_of_ble_eq_true rfl) rfl rfl rfl (by decide) rfl rfl (Nat.le_of_ble_eq_true rfl) (fun r σ1 hq => ?_)
  refine v_aload_n C dL_law_1417 rfl 3 rfl ?_
  refine v_arg 1 C hX hL (by omega) 1 0 rfl rfl rfl dL_law_1418 dL_law_1419 dL_law_1421 dL_law_1422 dL_law_1423 ?_
  refine v_arg 2 C hX hL (by omega) 1 0 rfl rfl rfl dL_law_1424 dL_law_1425 dL_law_1427 dL_law_1428 dL_law_1429 ?_
  refine v_callVi (n := 8) (i := 0) (As := [.int (xs (i + 1)), .int (xs (i + 2))]) [.int r] C dL_law_1430 w_L_149 (ok_X8_down l g (xs (i + 1)) (xs (i + 2)) σ1 _ hq) (Nat.le_of_ble_eq_true rfl) rfl rfl rfl (by decide) rfl rfl (Nat.le_of_ble_eq_true rfl) (fun r2 σ2 hq2 => ?_)
  obtain ⟨rfl, hq2⟩ := hq2
  exact v_icmp_eq (tgt := 1731) C dL_law_1433 (by decide) (fun _ => nx σ2 hq2) (fun q => absurd rfl q)
theorem lc_30 (C : CxV g A p R s m args meth c kc sc cL_law 7 RL 70) (hX : Sc A b L xs s) (hL : L < 2 ^ 31) (hi : i + 5 < L) (hn : n ≤ 600) (h : RR n σ) (nx : ∀ σ2, RR (n + 1) σ2 → V g A p l e R s m args below meth c Z kc sc 7 1731 (lwL g b (nI i)) [] σ2) : V g A p l e R s m args below meth c Z kc sc 7 1438 (lwL g b (nI i)) [] σ := by
  refine v_aload_n C dL_law_1438 rfl 2 rfl ?_
  refine v_arg 1 C hX hL (by omega) 1 0 rfl rfl rfl dL_law_1439 dL_law_1440 dL_law_1442 dL_law_1443 dL_law_1444 ?_
  refine v_callVi (n := 7) (i := 0) (As := [.int (xs (i + 1))]) [] C dL_law_1445 w_L_150 (ok_X7_anew l g (xs (i + 1)) σ _ (k_anew h)) (Nat.le_of_ble_eq_true rfl) rfl rfl rfl (by decide) rfl rfl (Nat.le_of_ble_eq_true rfl) (fun r σ1 hq => ?_)
  refine v_aload_n C dL_law_1448 rfl 3 rfl ?_
  refine v_arg 1 C hX hL (by omega) 1 0 rfl rfl rfl dL_law_1449 dL_law_1450 dL_law_1452 dL_law_1453 dL_law_1454 ?_
  refine v_callVi (n := 8) (i := 0) (As := [.int (xs (i + 1))]) [.int r] C dL_law_1455 w_L_153 (ok_X8_anew l g (xs (i + 1)) σ1 _ hq) (Nat.le_of_ble_eq_true rfl) rfl rfl rfl (by decide) rfl rfl (Nat.le_of_ble_eq_true rfl) (fun r2 σ2 hq2 => ?_)
  obtain ⟨rfl, hq2⟩ := hq2
  exact v_icmp_eq (tgt := 1731) C dL_law_1458 (by decide) (fun _ => nx σ2 hq2) (fun q => absurd rfl q)
theorem lc_31 (C : CxV g A p R s m args meth c kc sc cL_law 7 RL 70) (hX : Sc A b L xs s) (hL : L < 2 ^ 31) (hi : i + 5 < L) (hn : n ≤ 600) (h : RR n σ) (nx : ∀ σ2, RR (n + 1) σ2 → V g A p l e R s m args below meth c Z kc sc 7 1731 (lwL g b (nI i)) [] σ2) : V g A p l e R s m args below meth c Z kc sc 7 1463 (lwL g b (nI i)) [] σ := by
  refine v_aload_n C dL_law_1463 rfl 2 rfl ?_
  refine v_arg 1 C hX hL (by omega) 1 0 rfl rfl rfl dL_law_1464 dL_law_1465 dL_law_1467 dL_law_1468 dL_law_1469 ?_
  refine v_callVi (n := 7) (i := 0) (As := [.int (xs (i + 1))]) [] C dL_law_1470 w_L_154 (ok_X7_ticks l g (xs (i + 1)) σ _ (k_ticks hn h)) (Nat.le_of_ble_eq_true rfl) rfl rfl rfl (by decide) rfl rfl (Nat.le_of_ble_eq_true rfl) (fun r σ1 hq => ?_)
  refine v_aload_n C dL_law_1473 rfl 3 rfl ?_
  refine v_arg 1 C hX hL (by omega) 1 0 rfl rfl rfl dL_law_1474 dL_law_1475 dL_law_1477 dL_law_1478 dL_law_1479 ?_
  refine v_callVi (n := 8) (i := 0) (As := [.int (xs (i + 1))]) [.int r] C dL_law_1480 w_L_157 (ok_X8_ticks l g (xs (i + 1)) σ1 _ hq) (Nat.le_of_ble_eq_true rfl) rfl rfl rfl (by decide) rfl rfl (Nat.le_of_ble_eq_true rfl) (fun r2 σ2 hq2 => ?_)
  obtain ⟨rfl, hq2⟩ := hq2
  exact v_icmp_eq (tgt := 1731) C dL_law_1483 (by decide) (fun _ => nx σ2 hq2) (fun q => absurd rfl q)
theorem lc_32 (C : CxV g A p R s m args meth c kc sc cL_law 7 RL 70) (hX : Sc A b L xs s) (hL : L < 2 ^ 31) (hi : i + 5 < L) (hn : n ≤ 600) (h : RR n σ) (nx : ∀ σ2, RR (n + 1) σ2 → V g A p l e R s m args below meth c Z kc sc 7 1731 (lwL g b (nI i)) [] σ2) : V g A p l e R s m args below meth c Z kc sc 7 1488 (lwL g b (nI i)) [] σ := by
  refine v_aload_n C dL_law_1488 rfl 2 rfl ?_
  refine v_arg 1 C hX hL (by omega) 1 0 rfl rfl rfl dL_law_1489 dL_law_1490 dL_law_1492 dL_law_1493 dL_law_1494 ?_
  refine v_arg 2 C hX hL (by omega) 1 0 rfl rfl rfl dL_law_1495 dL_law_1496 dL_law_1498 dL_law_1499 dL_law_1500 ?_
  refine v_arg 3 C hX hL (by omega) 1 0 rfl rfl rfl dL_law_1501 dL_law_1502 dL_law_1504 dL_law_1505 dL_law_1506 ?_
  refine v_arg 4 C hX hL (by omega) 1 0 rfl rfl rfl dL_law_1507 dL_law_1508 dL_law_1510 dL_law_1511 dL_law_1512 ?_
  refine v_callVi (n := 7) (i := 0) (As := [.int (xs (i + 1)), .int (xs (i + 2)), .int (xs (i + 3)), .int (xs (i + 4))]) [] C dL_law_1513 w_L_158 (ok_X7_willHear l g (xs (i + 1)) (xs (i + 2)) (xs (i + 3)) (xs (i + 4)) σ _ (k_willHear hn h)) (Nat.le_of_ble_eq_true rfl) rfl rfl rfl (by decide) rfl rfl (Nat.le_of_ble_eq_true rfl) (fun r σ1 hq => ?_)
  refine v_aload_n C dL_law_1516 rfl 3 rfl ?_
  refine v_arg 1 C hX hL (by omega) 1 0 rfl rfl rfl dL_law_1517 dL_law_1518 dL_law_1520 dL_law_1521 dL_law_1522 ?_
  refine v_arg 2 C hX hL (by omega) 1 0 rfl rfl rfl dL_law_1523 dL_law_1524 dL_law_1526 dL_law_1527 dL_law_1528 ?_
  refine v_arg 3 C hX hL (by omega) 1 0 rfl rfl rfl dL_law_1529 dL_law_1530 dL_law_1532 dL_law_1533 dL_law_1534 ?_
  refine v_arg 4 C hX hL (by omega) 1 0 rfl rfl rfl dL_law_1535 dL_law_1536 dL_law_1538 dL_law_1539 dL_law_1540 ?_
  refine v_callVi (n := 8) (i := 0) (As := [.int (xs (i + 1)), .int (xs (i + 2)), .int (xs (i + 3)), .int (xs (i + 4))]) [.int r] C dL_law_1541 w_L_161 (ok_X8_willHear l g (xs (i + 1)) (xs (i + 2)) (xs (i + 3)) (xs (i + 4)) σ1 _ hq) (Nat.le_of_ble_eq_true rfl) rfl rfl rfl (by decide) rfl rfl (Nat.le_of_ble_eq_true rfl) (fun r2 σ2 hq2 => ?_)
  obtain ⟨rfl, hq2⟩ := hq2
  exact v_icmp_eq (tgt := 1731) C dL_law_1544 (by decide) (fun _ => nx σ2 hq2) (fun q => absurd rfl q)
theorem lc_33 (C : CxV g A p R s m args meth c kc sc cL_law 7 RL 70) (hX : Sc A b L xs s) (hL : L < 2 ^ 31) (hi : i + 5 < L) (hn : n ≤ 600) (h : RR n σ) (nx : ∀ σ2, RR (n + 1) σ2 → V g A p l e R s m args below meth c Z kc sc 7 1731 (lwL g b (nI i)) [] σ2) : V g A p l e R s m args below meth c Z kc sc 7 1549 (lwL g b (nI i)) [] σ := by
  refine v_aload_n C dL_law_1549 rfl 2 rfl ?_
  refine v_arg 1 C hX hL (by omega) 1 0 rfl rfl rfl dL_law_1550 dL_law_1551 dL_law_1553 dL_law_1554 dL_law_1555 ?_
  refine v_arg 2 C hX hL (by omega) 1 0 rfl rfl rfl dL_law_1556 dL_law_1557 dL_law_1559 dL_law_1560 dL_law_1561 ?_
  refine v_arg 3 C hX hL (by omega) 1 0 rfl rfl rfl dL_law_1562 dL_law_1563 dL_law_1565 dL_law_1566 dL_law_1567 ?_
  refine v_callVi (n := 7) (i := 0) (As := [.int (xs (i + 1)), .int (xs (i + 2)), .int (xs (i + 3))]) [] C dL_law_1568 w_L_162 (ok_X7_willLose l g (xs (i + 1)) (xs (i + 2)) (xs (i + 3)) σ _ (k_willLose hn h)) (Nat.le_of_ble_eq_true rfl) rfl rfl rfl (by decide) rfl rfl (Nat.le_of_ble_eq_true rfl) (fun r σ1 hq => ?_)
  refine v_aload_n C dL_law_1571 rfl 3 rfl ?_
  refine v_arg 1 C hX hL (by omega) 1 0 rfl rfl rfl dL_law_1572 dL_law_1573 dL_law_1575 dL_law_1576 dL_law_1577 ?_
  refine v_arg 2 C hX hL (by omega) 1 0 rfl rfl rfl dL_law_1578 dL_law_1579 dL_law_1581 dL_law_1582 dL_law_1583 ?_
  refine v_arg 3 C hX hL (by omega) 1 0 rfl rfl rfl dL_law_1584 dL_law_1585 dL_law_1587 dL_law_1588 dL_law_1589 ?_
  refine v_callVi (n := 8) (i := 0) (As := [.int (xs (i + 1)), .int (xs (i + 2)), .int (xs (i + 3))]) [.int r] C dL_law_1590 w_L_165 (ok_X8_willLose l g (xs (i + 1)) (xs (i + 2)) (xs (i + 3)) σ1 _ hq) (Nat.le_of_ble_eq_true rfl) rfl rfl rfl (by decide) rfl rfl (Nat.le_of_ble_eq_true rfl) (fun r2 σ2 hq2 => ?_)
  obtain ⟨rfl, hq2⟩ := hq2
  exact v_icmp_eq (tgt := 1731) C dL_law_1593 (by decide) (fun _ => nx σ2 hq2) (fun q => absurd rfl q)
theorem lc_34 (C : CxV g A p R s m args meth c kc sc cL_law 7 RL 70) (hX : Sc A b L xs s) (hL : L < 2 ^ 31) (hi : i + 5 < L) (hn : n ≤ 600) (h : RR n σ) (nx : ∀ σ2, RR (n + 1) σ2 → V g A p l e R s m args below meth c Z kc sc 7 1731 (lwL g b (nI i)) [] σ2) : V g A p l e R s m args below meth c Z kc sc 7 1598 (lwL g b (nI i)) [] σ := by
  refine v_aload_n C dL_law_1598 rfl 2 rfl ?_
  refine v_callVi (n := 7) (i := 0) (As := []) [] C dL_law_1599 w_L_166 (ok_X7_quiet l g  σ _ (k_quiet hn h)) (Nat.le_of_ble_eq_true rfl) rfl rfl rfl (by decide) rfl rfl (Nat.le_of_ble_eq_true rfl) (fun r σ1 hq => ?_)
  refine v_aload_n C dL_law_1602 rfl 3 rfl ?_
  refine v_callVi (n := 8) (i := 0) (As := []) [.int r] C dL_law_1603 w_L_169 (ok_X8_quiet l g  σ1 _ hq) (Nat.le_of_ble_eq_true rfl) rfl rfl rfl (by decide) rfl rfl (Nat.le_of_ble_eq_true rfl) (fun r2 σ2 hq2 => ?_)
  obtain ⟨rfl, hq2⟩ := hq2
  exact v_icmp_eq (tgt := 1731) C dL_law_1606 (by decide) (fun _ => nx σ2 hq2) (fun q => absurd rfl q)
theorem lc_35 (C : CxV g A p R s m args meth c kc sc cL_law 7 RL 70) (hX : Sc A b L xs s) (hL : L < 2 ^ 31) (hi : i + 5 < L) (hn : n ≤ 600) (h : RR n σ) (nx : ∀ σ2, RR (n + 1) σ2 → V g A p l e R s m args below meth c Z kc sc 7 1731 (lwL g b (nI i)) [] σ2) : V g A p l e R s m args below meth c Z kc sc 7 1611 (lwL g b (nI i)) [] σ := by
  refine v_aload_n C dL_law_1611 rfl 2 rfl ?_
  refine v_callVi (n := 7) (i := 0) (As := []) [] C dL_law_1612 w_L_170 (ok_X7_keep l g  σ _ (k_keep h)) (Nat.le_of_ble_eq_true rfl) rfl rfl rfl (by decide) rfl rfl (Nat.le_of_ble_eq_true rfl) (fun r σ1 hq => ?_)
  refine v_aload_n C dL_law_1615 rfl 3 rfl ?_
  refine v_callVi (n := 8) (i := 0) (As := []) [.int r] C dL_law_1616 w_L_174 (ok_X8_keep l g  σ1 _ hq) (Nat.le_of_ble_eq_true rfl) rfl rfl rfl (by decide) rfl rfl (Nat.le_of_ble_eq_true rfl) (fun r2 σ2 hq2 => ?_)
  obtain ⟨rfl, hq2⟩ := hq2
  exact v_icmp_eq (tgt := 1731) C dL_law_1619 (by decide) (fun _ => nx σ2 hq2) (fun q => absurd rfl q)
theorem lc_36 (C : CxV g A p R s m args meth c kc sc cL_law 7 RL 70) (hX : Sc A b L xs s) (hL : L < 2 ^ 31) (hi : i + 5 < L) (hn : n ≤ 600) (h : RR n σ) (nx : ∀ σ2, RR (n + 1) σ2 → V g A p l e R s m args below meth c Z kc sc 7 1731 (lwL g b (nI i)) [] σ2) : V g A p l e R s m args below meth c Z kc sc 7 1624 (lwL g b (nI i)) [] σ := by
  refine v_aload_n C dL_law_1624 rfl 2 rfl ?_
  refine v_callVi (n := 7) (i := 0) (As := []) [] C dL_law_1625 w_L_175 (ok_X7_back l g  σ _ (k_back h)) (Nat.le_of_ble_eq_true rfl) rfl rfl rfl (by decide) rfl rfl (Nat.le_of_ble_eq_true rfl) (fun r σ1 hq => ?_)
  refine v_aload_n C dL_law_1628 rfl 3 rfl ?_
  refine v_callVi (n := 8) (i := 0) (As := []) [.int r] C dL_law_1629 w_L_178 (ok_X8_back l g  σ1 _ hq) (Nat.le_of_ble_eq_true rfl) rfl rfl rfl (by decide) rfl rfl (Nat.le_of_ble_eq_true rfl) (fun r2 σ2 hq2 => ?_)
  obtain ⟨rfl, hq2⟩ := hq2
  exact v_icmp_eq (tgt := 1731) C dL_law_1632 (by decide) (fun _ => nx σ2 hq2) (fun q => absurd rfl q)
theorem lc_38 (C : CxV g A p R s m args meth c kc sc cL_law 7 RL 70) (hX : Sc A b L xs s) (hL : L < 2 ^ 31) (hi : i + 5 < L) (hn : n ≤ 600) (h : RR n σ) (nx : ∀ σ2, RR (n + 1) σ2 → V g A p l e R s m args below meth c Z kc sc 7 1731 (lwL g b (nI i)) [] σ2) : V g A p l e R s m args below meth c Z kc sc 7 1693 (lwL g b (nI i)) [] σ := by
  refine v_aload_n C dL_law_1693 rfl 2 rfl ?_
  refine v_arg 1 C hX hL (by omega) 1 0 rfl rfl rfl dL_law_1694 dL_law_1695 dL_law_1697 dL_law_1698 dL_law_1699 ?_
  refine v_callVi (n := 7) (i := 0) (As := [.int (xs (i + 1))]) [] C dL_law_1700 w_L_188 (ok_X7_size l g (xs (i + 1)) σ _ (k_size h)) (Nat.le_of_ble_eq_true rfl) rfl rfl rfl (by decide) rfl rfl (Nat.le_of_ble_eq_true rfl) (fun r σ1 hq => ?_)
  refine v_aload_n C dL_law_1703 rfl 3 rfl ?_
  refine v_arg 1 C hX hL (by omega) 1 0 rfl rfl rfl dL_law_1704 dL_law_1705 dL_law_1707 dL_law_1708 dL_law_1709 ?_
  refine v_callVi (n := 8) (i := 0) (As := [.int (xs (i + 1))]) [.int r] C dL_law_1710 w_L_191 (ok_X8_size l g (xs (i + 1)) σ1 _ hq) (Nat.le_of_ble_eq_true rfl) rfl rfl rfl (by decide) rfl rfl (Nat.le_of_ble_eq_true rfl) (fun r2 σ2 hq2 => ?_)
  obtain ⟨rfl, hq2⟩ := hq2
  exact v_icmp_eq (tgt := 1731) C dL_law_1713 (by decide) (fun _ => nx σ2 hq2) (fun q => absurd rfl q)
theorem lc_39 (C : CxV g A p R s m args meth c kc sc cL_law 7 RL 70) (hX : Sc A b L xs s) (hL : L < 2 ^ 31) (hi : i + 5 < L) (hn : n ≤ 600) (h : RR n σ) (nx : ∀ σ2, RR (n + 1) σ2 → V g A p l e R s m args below meth c Z kc sc 7 1731 (lwL g b (nI i)) [] σ2) : V g A p l e R s m args below meth c Z kc sc 7 1718 (lwL g b (nI i)) [] σ := by
  refine v_aload_n C dL_law_1718 rfl 2 rfl ?_
  refine v_callVi (n := 7) (i := 0) (As := []) [] C dL_law_1719 w_L_192 (ok_X7_trouble l g  σ _ (k_trouble h)) (Nat.le_of_ble_eq_true rfl) rfl rfl rfl (by decide) rfl rfl (Nat.le_of_ble_eq_true rfl) (fun r σ1 hq => ?_)
  refine v_aload_n C dL_law_1722 rfl 3 rfl ?_
  refine v_callVi (n := 8) (i := 0) (As := []) [.int r] C dL_law_1723 w_L_195 (ok_X8_trouble l g  σ1 _ hq) (Nat.le_of_ble_eq_true rfl) rfl rfl rfl (by decide) rfl rfl (Nat.le_of_ble_eq_true rfl) (fun r2 σ2 hq2 => ?_)
  obtain ⟨rfl, hq2⟩ := hq2
  exact v_icmp_eq (tgt := 1731) C dL_law_1726 (by decide) (fun _ => nx σ2 hq2) (fun q => absurd rfl q)
end Cases
