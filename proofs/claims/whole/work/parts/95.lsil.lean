/-! ===== the law's own silent: it catches ===== -/
section VX
variable {g : Gm} {A : Nat → Prop} {p : Program} {l : Launch} {e : Env} {R : Room} {s : State} {m : MethodId} {args : Array Value} {below : List Frame} {meth : Method} {c : Code} {Z : State → Prop} {kc sc mc ms : Nat} {cc : ByteArray} {nL : Nat} {own : String} {h pc : Nat} {lv lv' : List (Nat × Value)} {st : List Value} {σ : Hp}
theorem v_runX {H : Heap} {locs : List Loc} {ls : Array Slot} {st0 rest : List Value} {Q' : Option Value → Hp → Prop} {X : Hp → Prop} {a : Array Value} (C : CxV g A p R s m args meth c kc sc cc nL own h) (hr : vx_Run p l e R s m args below meth c H locs kc sc mc ms (F0 m pc ls st0) rest (QcOf g Q' a) (XcOf g X) (gA g)) (hS : va_S A s.heap H locs) (hl : lv_has ls nL lv)
    (kx : ∀ σ' H1 locs1 ce q9, X σ' → va_P (gD g) vwCl (WS g σ') H1 → va_S A s.heap H1 locs1 → H1[q9]? = some ce → ce.vm = .none → s.vm.findClass nse = some ce.cls → vx_W p l e R s m args below meth c H1 locs1 (kc + mc) (sc + ms) Z (F0 m pc ls rest) q9)
    (k : ∀ r σ', Q' r σ' → V g A p l e R s m args below meth c Z (kc + mc) (sc + ms) nL (pc + 3) lv (r.toList ++ rest) σ') : W p l e R s m args below meth c H locs kc sc Z (F0 m pc ls st0) := by
  intro T hT X
  rcases hr T hT X with ⟨v, st₀, t, T', L, h0, X', hL, e1, e2, ⟨⟨r, σ', hv, hq, hp⟩, hz, hk⟩, st⟩ | ⟨q, st₀, t, T', L, E, ce, h0, X', hL, e1, e2, ⟨rfl, ⟨σ', hq, hp⟩, hz, hk⟩, hce, hcv, hcl, st⟩
  · cases hv
    rw [h0] at hz hk
    obtain ⟨t2, a1, b1⟩ := k v σ' hq T'.heap (locs ++ L) ls (by rw [e1]; exact hp)
      ⟨Nat.le_trans hS.1 (by rw [e1]; exact hz), fun q h1 h2 => by rw [e1, hk q (Nat.lt_of_lt_of_le h1 hS.1) (fun z => h2 (C.a2 q z))]; exact hS.2.1 q h1 h2, fun q hq => by
        rcases List.mem_append.mp hq with h | h
        · exact hS.2.2 q h
        · exact C.a2 _ (hL q h)⟩ hl T' rfl X'
    exact ⟨t2, st t2 a1, b1⟩
  · rw [h0] at hz hk
    obtain ⟨t2, a1, b1⟩ := kx σ' T'.heap (locs ++ L) ce q hq (by rw [e1]; exact hp)
      ⟨Nat.le_trans hS.1 (by rw [e1]; exact hz), fun q h1 h2 => by rw [e1, hk q (Nat.lt_of_lt_of_le h1 hS.1) (fun z => h2 (C.a2 q z))]; exact hS.2.1 q h1 h2, fun q hq => by
        rcases List.mem_append.mp hq with h | h
        · exact hS.2.2 q h
        · exact C.a2 _ (hL q h)⟩ (by rw [e1]; exact hce) hcv hcl T' rfl X'
    exact ⟨t2, st.trans a1, b1⟩
end VX
def lsW : List Cond := .codeWith yL_silent cL_silent 4 (some .int) [(0, 9, 12, 13)] :: UU
theorem lsW_in : Cond.codeWith yL_silent cL_silent 4 (some .int) [(0, 9, 12, 13)] ∈ UU := tb_5 (List.mem_of_getElem? (i := 49) rfl) rfl
set_option maxHeartbeats 4000000 in
set_option maxRecDepth 100000 in
theorem ok_L_silent (l : Launch) (hlt : l.stackTraces = false) (g : Gm) (x1 : Int32) (σ : Hp) (Q : Int32 → Hp → Prop) (h : S_X7_silent x1 σ (fun r σ1 => Q 0 (sL σ1 64 0 0 r.toInt64)) (fun σ1 => Q 1 σ1)) :
    Met l yL_silent lsW (rmN 9 1 6) (PcX g [.ref (gad g 7 0), .int x1, .ref (gad g 64 0)] σ) (QcOf g (QI Q)) 1 6 (gA g) := by
  refine va_MetW (cc := cL_silent) (maxL := 4) (ret := some .int) (hh := [(0, 9, 12, 13)]) (by decide) rfl ?_
  intro p e s m args below meth c s₁ B hml hv
  obtain ⟨rfl, hP, hSt, hXS⟩ := hv
  have hts := atoms_spec (ws := lsW) B.pre
  have htab := vx_table (x := yL_silent) B (hts _ List.mem_cons_self)
  have hl := lv_entry [.ref (gad g 7 0), .int x1, .ref (gad g 64 0)] (n := 4) (Nat.le_of_ble_eq_true rfl)
  rw [lg_entry_eq]
  have hr := B.returns
  have CC : ∀ kc sc, kc ≤ 1 → sc ≤ 6 → CxV g (gA g) p (rmN 9 1 6) s m ([.ref (gad g 7 0), .int x1, .ref (gad g 64 0)] : List Value).toArray meth c kc sc cL_silent 4 RL 9 := fun kc sc h1 h2 => ⟨B.exec, B.bytes, hml, findClass_of_methodNamed B.named, fun w hw => hts w (List.mem_cons_of_mem _ hw), hSt, ⟨Nat.le_refl _, Nat.le_refl _⟩, ⟨h1, h2⟩, fun _ _ h => h, fun _ h => h, B.notSynchronized⟩
  have C := CC 0 0 (by decide) (by decide)
  have C1 := CC 1 6 (by decide) (by decide)
  have ret : ∀ (pc : Nat) (x : Int32) (lv : List (Nat × Value)) (σ2 : Hp), decode cL_silent pc = .ok (.ireturn, 1) → Q x σ2 → V g (gA g) p l e (rmN 9 1 6) s m ([.ref (gad g 7 0), .int x1, .ref (gad g 64 0)] : List Value).toArray below meth c (MQ below (QcOf g (QI Q)) ([.ref (gad g 7 0), .int x1, .ref (gad g 64 0)] : List Value).toArray s 1 6 (gA g)) 1 6 4 pc lv [.int x] σ2 := fun pc x lv σ2 hd hq H locs ls hP hS hl =>
    W.iret C.ex C.cd hr (fun t ht _ => ⟨⟨_, σ2, rfl, ⟨x, rfl, hq⟩, by rw [ht]; exact hP⟩, hS.F ht⟩) hS.2.2 hd C.lk
  have start : V g (gA g) p l e (rmN 9 1 6) s m ([.ref (gad g 7 0), .int x1, .ref (gad g 64 0)] : List Value).toArray below meth c (MQ below (QcOf g (QI Q)) ([.ref (gad g 7 0), .int x1, .ref (gad g 64 0)] : List Value).toArray s 1 6 (gA g)) 0 0 4 0 (lv_args 0 [.ref (gad g 7 0), .int x1, .ref (gad g 64 0)]) [] σ := by
    refine v_aload_n C dL_silent_0 rfl 2 rfl ?_
    refine v_iconst (v := 0) C dL_silent_1 rfl ?_
    refine v_aload_n C dL_silent_2 rfl 0 rfl ?_
    refine v_iload_n C dL_silent_3 rfl 1 rfl ?_
    intro H locs ls hP hS hl
    obtain ⟨q0, -, hq0⟩ := WS_at g σ (n := 7) (i := 0) (by decide)
    rw [cell_o rfl] at hq0
    refine v_runX (mc := 1) (ms := 6) (a := (Value.ref (gad g 7 0) :: [.int x1]).toArray) (rest := [.int 0, .ref (gad g 64 0)]) C (vx_runV (C := yX7_silent.cls) (b := gad g 7 0) (As := [.int x1]) (Ts := UU) ⟨C.ex, C.cd, C.ml, C.ow, C.ts⟩ (ok_X7_silent l hlt g x1 σ _ _ h) ⟨callB_of 1 C.ts (good_UU u5_54) rfl rfl rfl (C.ts _ u1_1) (C.ts _ u5_51) ⟨by decide, by decide, by decide +kernel⟩ ⟨Nat.le_of_ble_eq_true rfl, Nat.le_of_ble_eq_true rfl⟩, C.ts _ u5_52, C.ts _ u5_53⟩ ⟨PcX.blind, va_recv C.so.2.1 hP (ci := 7) (q0 := q0) rfl hq0, fun U hU hW => ⟨rfl, by rw [hU]; exact hP, C.so.call (C.S hS) hU hW, hXS.call hS hU hW⟩⟩ rfl rfl hl.1 rfl (lv_room (Nat.le_of_ble_eq_true rfl)) dL_silent_4 ⟨Nat.le_refl _, Nat.le_refl _⟩) hS hl (fun σ1 H1 locs1 ce q9 hx hP1 hS1 hce hcv hcl => ?_) (fun r σ1 hq => ?_)
    · refine vx_catch (own := RL) (name := nse) (E := nse) C.ow [] _ [] htab (fun z hz => nomatch hz) rfl (by decide) (C.ts _ u5_50) (va_Nw.use rfl hXS.1.1) hce hcv hcl ?_
      have back : V g (gA g) p l e (rmN 9 1 6) s m ([.ref (gad g 7 0), .int x1, .ref (gad g 64 0)] : List Value).toArray below meth c (MQ below (QcOf g (QI Q)) ([.ref (gad g 7 0), .int x1, .ref (gad g 64 0)] : List Value).toArray s 1 6 (gA g)) 1 6 4 12 (lv_args 0 [.ref (gad g 7 0), .int x1, .ref (gad g 64 0)]) [.ref q9] σ1 := by
        refine v_astore_n (lv' := [(3, .ref q9), (0, .ref (gad g 7 0)), (1, .int x1), (2, .ref (gad g 64 0))]) C1 dL_silent_12 rfl (by decide) rfl ?_
        refine v_iconst (v := 1) C1 dL_silent_13 rfl ?_
        exact ret 14 1 _ σ1 dL_silent_14 hx
      exact back H1 locs1 ls hP1 hS1 hl
    · obtain ⟨x, rfl, hq⟩ := hq
      refine v_i2l C1 dL_silent_7 ?_
      refine v_lastore (n := 64) (i := 0) (N := 1) C1 dL_silent_8 rfl (by decide) rfl (vp_in_nI (n := 0) (by decide) (by decide)) ?_
      refine v_goto (tgt := 15) C1 dL_silent_9 (by decide) ?_
      refine v_iconst (v := 0) C1 dL_silent_15 rfl ?_
      exact ret 16 0 _ _ dL_silent_16 hq
  exact start s.heap [] _ hP va_S.rf hl
