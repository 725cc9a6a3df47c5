/-! ===== the method that throws ===== -/
def nse : String := "java/util/NoSuchElementException"
def nseN : List String := ["java/lang/RuntimeException", "java/lang/Exception"]
def xwl : List Cond := [.castable nse nse, .declares (Bundle.init0 "java/lang/RuntimeException"), .declares (Bundle.init0 "java/lang/Exception"), .declares (Bundle.init0 Bundle.tN)]
set_option maxRecDepth 100000 in
theorem xw_in : ∀ w ∈ vx_at0 "GapLinks" 328 nse nseN, w ∈ tables_1_5 ∨ w ∈ tables_1_1 := by decide +kernel
set_option maxRecDepth 100000 in
theorem xw_bad : ∀ w ∈ (vx_at0 "GapLinks" 328 nse nseN).filter (fun w => !goodWord w), w ∈ xwl := by decide +kernel
set_option maxRecDepth 100000 in
theorem xw_ot : ∀ w ∈ Cond.classLink "GapLinks" 326 nse :: Cond.initialized nse :: vx_at0 "GapLinks" 328 nse nseN, vx_ot w = true := by decide +kernel
theorem xw_tb : ∀ w ∈ xwl, w.onTables = true := by decide +kernel
/-- what a throw needs of the state, beyond St -/
def XS (g : Gm) (V : State) : Prop := (va_Nw (.castable nse nse) V ∧ va_Nw (.declares (Bundle.init0 "java/lang/RuntimeException")) V ∧ va_Nw (.declares (Bundle.init0 "java/lang/Exception")) V ∧ va_Nw (.declares (Bundle.init0 Bundle.tN)) V) ∧ vx_Zq Bundle.tN "UNASSIGNED_STACK" Bundle.steD (gA g) V V.heap ∧ vx_Zq Bundle.tN "SUPPRESSED_SENTINEL" Bundle.listD (gA g) V V.heap
theorem XS.call {g : Gm} {s U : State} {H : Heap} {locs : List Loc} (h : XS g s) (hS : va_S (gA g) s.heap H locs) (hU : U.heap = H) (hW : s.WarmedH U.vm) : XS g U := by
  obtain ⟨⟨h1, h2, h3, h4⟩, h5, h6⟩ := h
  subst hU
  exact ⟨⟨h1.warmC hW, h2.warmD hW, h3.warmD hW, h4.warmD hW⟩, (h5.moved hW.alike).kept hS.2.1, (h6.moved hW.alike).kept hS.2.1⟩
theorem XS.same {g : Gm} {u U : State} (hv : U.vm = u.vm) (hh : U.heap = u.heap) (h : XS g u) : XS g U := by
  obtain ⟨⟨h1, h2, h3, h4⟩, h5, h6⟩ := h
  have ha : u.vm.Alike U.vm := by rw [hv]; exact Vm.Alike.refl _
  exact ⟨⟨h1.same rfl hv.symm, h2.same rfl hv.symm, h3.same rfl hv.symm, h4.same rfl hv.symm⟩, by rw [hh]; exact h5.moved ha, by rw [hh]; exact h6.moved ha⟩
theorem XS.hat {g : Gm} {s : State} {args : Array Value} (h : XS g s) (hts : ∀ w ∈ UU, w.before args s = true) : ∀ w ∈ vx_at0 "GapLinks" 328 nse nseN, w.before args s = true := by
  obtain ⟨⟨h1, h2, h3, h4⟩, -, -⟩ := h
  refine vx_hat (B := xwl) (fun w hw => ?_) xw_bad ?_
  · obtain ⟨hw1, hw2⟩ := List.mem_filter.mp hw
    rcases xw_in w hw1 with q | q
    · exact hts _ (tb_5 q hw2)
    · exact hts _ (tb_1 q hw2)
  · exact vx_c (va_Nw.use rfl h1) (vx_c (va_Nw.use rfl h2) (vx_c (va_Nw.use rfl h3) (vx_c (va_Nw.use rfl h4) vx_n)))
def PcX (g : Gm) (av : List Value) (σ : Hp) : Array Value → State → Prop := va_Pc av (fun V => va_P (gD g) vwCl (WS g σ) V.heap ∧ St g V ∧ XS g V)
theorem PcX.blind {g : Gm} {av : List Value} {σ : Hp} : FrameBlind (PcX g av σ) := by
  intro a U g1 mk q
  obtain ⟨q0, q1, q2, q3⟩ := q
  exact ⟨q0, q1, St.same rfl rfl q2, XS.same rfl rfl q3⟩
def XcOf (g : Gm) (X : Hp → Prop) : String → State → State → Prop := fun E st t => E = nse ∧ (∃ σ, X σ ∧ va_P (gD g) vwCl (WS g σ) t.heap) ∧ va_F (gA g) st t
set_option maxHeartbeats 4000000 in
set_option maxRecDepth 100000 in
theorem ok_X7_silent (l : Launch) (hlt : l.stackTraces = false) (g : Gm) (x1 : Int32) (σ : Hp) (Q : Int32 → Hp → Prop) (X : Hp → Prop) (h : S_X7_silent x1 σ Q X) :
    vx_Met l yX7_silent (.code yX7_silent cX7_silent 4 (some .int) :: UU) (rmN 8 1 6) (PcX g [.ref (gad g 7 0), .int x1] σ) (QcOf g (QI Q)) (XcOf g X) 1 6 (gA g) := by
  refine vx_ofW (cc := cX7_silent) (maxL := 4) (ret := some .int) (by decide) rfl ?_
  intro p e s m args below meth c s₁ B hml htab hv
  obtain ⟨rfl, hP, hSt, hXS⟩ := hv
  have hts := atoms_spec (ws := .code yX7_silent cX7_silent 4 (some .int) :: UU) B.pre
  have hl := lv_entry [.ref (gad g 7 0), .int x1] (n := 4) (Nat.le_of_ble_eq_true rfl)
  rw [lg_entry_eq]
  have C : CxV g (gA g) p (rmN 8 1 6) s m ([.ref (gad g 7 0), .int x1] : List Value).toArray meth c 0 0 cX7_silent 4 RX7 8 := ⟨B.exec, B.bytes, hml, findClass_of_methodNamed B.named, fun w hw => hts w (List.mem_cons_of_mem _ hw), hSt, ⟨Nat.le_refl _, Nat.le_refl _⟩, ⟨Nat.zero_le _, Nat.zero_le _⟩, fun _ _ h => h, fun _ h => h, B.notSynchronized⟩
  have hr := B.returns
  have key : ∀ (n : Nat) (y2 y3 : Int32) (σ : Hp), L_X7_silent Q X n y2 y3 σ → V g (gA g) p l e (rmN 8 1 6) s m ([.ref (gad g 7 0), .int x1] : List Value).toArray below meth c (vx_MQ below (QcOf g (QI Q)) (XcOf g X) ([.ref (gad g 7 0), .int x1] : List Value).toArray s 1 6 (gA g)) 0 0 4 4 [(3, .int y3), (2, .int y2), (0, .ref (gad g 7 0))] [] σ := by
    intro n
    induction n with
    | zero => intro y2 y3 σ h; exact absurd h id
    | succ n ih =>
      intro y2 y3 σ h
      obtain ⟨hp2, hx, hq⟩ := h
      refine v_iload_n C dX7_silent_4 rfl 0 rfl ?_
      refine v_aload_n C dX7_silent_5 rfl 2 rfl ?_
      refine v_get (j := 1) C dX7_silent_6 rfl inU7 rfl (by decide) u2_137 rfl (by decide) rfl ?_
      refine v_get (j := 6) (v := .int (gI σ 2 (gR σ 0) 6)) C dX7_silent_9 rfl inU2 rfl (by decide) u1_100 rfl hp2 rfl ?_
      refine v_icmp_ge (tgt := 53) C dX7_silent_12 (by decide) (fun c1 => ?_) (fun c1 => ?_)
      · intro H locs ls hP hS hl
        refine vx_throw0 (own := "GapLinks") (cls := nse) (names := nseN) (ik := 326) (ic := 328) (A := gA g) C.ex C.cd hlt C.ow (by decide) (by decide) (C.ts _ u5_60) (C.ts _ u1_23) (hXS.hat C.ts) xw_ot hXS.2.1 hXS.2.2 hS (hl.1.trans C.ml.symm) dX7_silent_53 dX7_silent_56 dX7_silent_57 dX7_silent_60 (fun x hx => absurd (htab x hx) id) (Nat.le_of_ble_eq_true rfl) (Nat.le_of_ble_eq_true rfl) (Nat.le_refl _) (Nat.le_refl _) C.lk (fun t hvm hz hk => ⟨rfl, ⟨σ, hx c1, hP.kept (fun k q hq => hk q.1 (hP k q hq).lt)⟩, Nat.le_trans hS.1 hz, fun q h1 h2 => (hk q (Nat.lt_of_lt_of_le h1 hS.1)).trans (hS.2.1 q h1 h2)⟩) hS.2.2 (Nat.le_refl _) (Nat.le_refl _)
      · obtain ⟨hin, ha⟩ := hq c1
        refine v_aload_n C dX7_silent_15 rfl 2 rfl ?_
        refine v_get (j := 3) C dX7_silent_16 rfl inU7 rfl (by decide) u2_139 rfl (by decide) rfl ?_
        refine v_get (j := 11) C dX7_silent_19 rfl inU5 rfl (by decide) u2_110 rfl (by decide) rfl ?_
        refine v_iload_n C dX7_silent_22 rfl 0 rfl ?_
        refine v_aload_n C dX7_silent_23 rfl 2 rfl ?_
        refine v_get (j := 1) C dX7_silent_24 rfl inU7 rfl (by decide) u2_137 rfl (by decide) rfl ?_
        refine v_get (j := 13) C dX7_silent_27 rfl inU2 rfl (by decide) u1_127 rfl hp2 rfl ?_
        refine v_iload_n C dX7_silent_30 rfl 0 rfl ?_
        refine v_iaload (n := 28) (i := gR σ 0) (N := 8) C dX7_silent_31 rfl hp2 rfl hin ?_
        refine v_callVi (n := 0) (i := 0) (As := [.int y3, .int (gI σ 28 (gR σ 0) (ix y3))]) [] C dX7_silent_32 w_7_323 (ok_X0_allTook l g 0 (by decide) y3 (gI σ 28 (gR σ 0) (ix y3)) σ _ ha) (by decide) rfl rfl rfl (by decide) rfl rfl (by decide) (fun r σ2 hr2 => ?_)
        refine v_if_ne (tgt := 47) C dX7_silent_35 (by decide) (fun c2 => ?_) (fun c2 => ?_)
        · refine v_iinc (v := y3 + 1) (lv' := [(3, .int (y3 + 1)), (2, .int y2), (0, .ref (gad g 7 0))]) C dX7_silent_47 0 rfl rfl (by decide) rfl ?_
          exact v_goto (tgt := 4) C dX7_silent_50 (by decide) (ih y2 (y3 + 1) σ2 (hr2.1 c2))
        · refine v_iload_n C dX7_silent_38 rfl 1 rfl ?_
          refine v_if_ne (tgt := 44) C dX7_silent_39 (by decide) (fun c3 => ?_) (fun c3 => ?_)
          · refine v_iinc (v := y2 + (-1)) (lv' := [(2, .int (y2 + (-1))), (3, .int y3), (0, .ref (gad g 7 0))]) C dX7_silent_44 1 rfl rfl (by decide) rfl ?_
            refine v_iinc (v := y3 + 1) (lv' := [(3, .int (y3 + 1)), (2, .int (y2 + (-1))), (0, .ref (gad g 7 0))]) C dX7_silent_47 1 rfl rfl (by decide) rfl ?_
            exact v_goto (tgt := 4) C dX7_silent_50 (by decide) (ih (y2 + (-1)) (y3 + 1) σ2 ((hr2.2 c2).1 c3))
          · refine v_iload_n C dX7_silent_42 rfl 0 rfl ?_
            intro H locs ls hP hS hl
            refine W.widen (k := 1) (n := 6) (Nat.zero_le _) (Nat.zero_le _) (vx_ret ?_)
            exact W.iret C.ex C.cd hr (fun t ht _ => ⟨⟨_, σ2, rfl, ⟨y3, rfl, (hr2.2 c2).2 c3⟩, by rw [ht]; exact hP⟩, hS.F ht⟩) hS.2.2 dX7_silent_43 C.lk
  obtain ⟨n, h⟩ := h
  have start : V g (gA g) p l e (rmN 8 1 6) s m ([.ref (gad g 7 0), .int x1] : List Value).toArray below meth c (vx_MQ below (QcOf g (QI Q)) (XcOf g X) ([.ref (gad g 7 0), .int x1] : List Value).toArray s 1 6 (gA g)) 0 0 4 0 (lv_args 0 [.ref (gad g 7 0), .int x1]) [] σ := by
    refine v_iload_n C dX7_silent_0 rfl 1 rfl ?_
    refine v_istore_n (lv' := [(2, .int x1), (0, .ref (gad g 7 0)), (1, .int x1)]) C dX7_silent_1 rfl (by decide) rfl ?_
    refine v_iconst (v := 0) C dX7_silent_2 rfl ?_
    refine v_istore_n (lv' := [(3, .int 0), (2, .int x1), (0, .ref (gad g 7 0)), (1, .int x1)]) C dX7_silent_3 rfl (by decide) rfl ?_
    exact v_sub [0, 1, 2] rfl (key n x1 0 σ h)
  exact start s.heap [] _ hP va_S.rf hl
