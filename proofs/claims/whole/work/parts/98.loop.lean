/-! ===== the law's loop ===== -/
section Loop
variable {g : Gm} {A : Nat → Prop} {p : Program} {l : Launch} {e : Env} {R : Room} {s : State} {m : MethodId} {args : Array Value} {below : List Frame} {meth : Method} {c : Code} {Z : State → Prop} {kc sc mc ms : Nat} {cc : ByteArray} {nL : Nat} {own : String} {h pc : Nat} {lv lv' : List (Nat × Value)} {st : List Value} {σ : Hp} {b L n i : Nat} {xs : Nat → Int32}
def SQ (n : Nat) (x : Int32) : Int32 → Hp → Prop := fun r σ1 => (r = 0 ∧ S_X8_silent x σ1 (fun r' σ2 => gI σ2 8 0 0 = 0 ∧ gL σ2 64 0 0 = r'.toInt64 ∧ RR (n + 1) σ2)) ∨ (r = 1 ∧ S_X8_silent x σ1 (fun _ σ2 => gI σ2 8 0 0 = 1 ∧ RR (n + 1) σ2))
theorem k_silent2 {x : Int32} (h : RR n σ) : S_X7_silent x σ (fun r σ1 => SQ n x 0 (sL σ1 64 0 0 r.toInt64)) (fun σ1 => SQ n x 1 σ1) := by
  obtain ⟨⟨p, P, hq⟩, hT⟩ := h
  have h8 := hq.nL8
  have st : ∀ τ : Hp, RQ n τ p P → TR τ → ∀ v, RR (n + 1) (sI τ 8 0 0 v) := by
    intro τ h1 h2 v
    refine ⟨⟨p, P, (h1.fr ((Hd.refl τ).s8 (by decide) v)).mono (Nat.le_succ n)⟩, ?_⟩
    unfold TR at h2 ⊢
    simpa [gI_sI] using h2
  refine c_silent hq (fun l hl h1 h2 => Or.inl ⟨rfl, ?_⟩) (fun h1 => Or.inr ⟨rfl, ?_⟩)
  · refine m_silent (((hq.s64 _).fr ((Hd.refl _).s8 (by decide) 0))) (fun l' hl' g1 g2 => ⟨by simp [gI_sI], ?_, st _ (hq.s64 _) hT 0⟩) (fun g1 => absurd h1 (g1 l hl))
    rw [gL_sI, gL_sL, if_pos ⟨rfl, rfl, rfl⟩]
    rcases Nat.lt_trichotomy l l' with e | e | e
    · exact absurd h1 (g2 l e)
    · rw [e]
    · exact absurd g1 (h2 l' e)
  · refine m_silent (hq.fr ((Hd.refl _).s8 (by decide) 0)) (fun l' hl' g1 g2 => absurd g1 (h1 l' hl')) (fun g1 => ⟨by simp [gI_sI], ?_⟩)
    refine st (sI σ 8 0 0 0) (hq.fr ((Hd.refl _).s8 (by decide) 0)) ?_ 1
    unfold TR at hT ⊢
    simpa [gI_sI] using hT
theorem v_widen {kc' sc' : Nat} (h1 : kc ≤ kc') (h2 : sc ≤ sc') (k : V g A p l e R s m args below meth c Z kc' sc' nL pc lv st σ) : V g A p l e R s m args below meth c Z kc sc nL pc lv st σ := fun H locs ls hP hS hl => W.widen h1 h2 (k H locs ls hP hS hl)
theorem v_runM {H : Heap} {locs : List Loc} {ls : Array Slot} {st0 rest : List Value} {Q' : Option Value → Hp → Prop} {a : Array Value} (C : CxV g A p R s m args meth c kc sc cc nL own h) (hr : va_Run p l e R s m args below meth c H locs kc sc mc ms (F0 m pc ls st0) rest (QcOf g Q' a) (gA g)) (hS : va_S A s.heap H locs) (hl : lv_has ls nL lv) (k : ∀ r σ', Q' r σ' → V g A p l e R s m args below meth c Z (kc + mc) (sc + ms) nL (pc + 3) lv (r.toList ++ rest) σ') : W p l e R s m args below meth c H locs kc sc Z (F0 m pc ls st0) := by
  intro T hT X
  obtain ⟨v, st₀, t, T', L, h0, X', hL, e1, e2, ⟨⟨r, σ', hv, hq, hp⟩, hz, hk⟩, st⟩ := hr T hT X
  cases hv
  rw [h0] at hz hk
  obtain ⟨t2, a1, b1⟩ := k v σ' hq T'.heap (locs ++ L) ls (by rw [e1]; exact hp)
    ⟨Nat.le_trans hS.1 (by rw [e1]; exact hz), fun q h1 h2 => by rw [e1, hk q (Nat.lt_of_lt_of_le h1 hS.1) (fun z => h2 (C.a2 q z))]; exact hS.2.1 q h1 h2, fun q hq => by
      rcases List.mem_append.mp hq with h | h
      · exact hS.2.2 q h
      · exact C.a2 _ (hL q h)⟩ hl T' rfl X'
  exact ⟨t2, st t2 a1, b1⟩
theorem good_lsW : GoodIn UU lsW := by
  intro w hw
  rcases List.mem_cons.mp hw with rfl | hw
  · exact ⟨lsW_in, good_of_word (UU_good lsW_in)⟩
  · exact ⟨hw, good_of_word (UU_good hw)⟩
theorem v_lsil {x1 : Int32} {Q : Int32 → Hp → Prop} (hlt : l.stackTraces = false) (C : CxV g A p R s m args meth c kc sc cc nL RL 70) (hXS : XS g s) (hroom : kc + 1 ≤ R.cells ∧ sc + 6 ≤ R.slots) (hd : decode cc pc = .ok (.invokestatic 179, 3)) (hq : S_X7_silent x1 σ (fun r σ1 => Q 0 (sL σ1 64 0 0 r.toInt64)) (fun σ1 => Q 1 σ1)) (k : ∀ r σ', Q r σ' → V g A p l e R s m args below meth c Z (kc + 1) (sc + 6) nL (pc + 3) lv [.int r] σ') : V g A p l e R s m args below meth c Z kc sc nL pc lv [.ref (gad g 64 0), .int x1, .ref (gad g 7 0)] σ := by
  intro H locs ls hP hS hl
  refine v_runM (mc := 1) (ms := 6) (a := ([.ref (gad g 7 0), .int x1, .ref (gad g 64 0)] : List Value).toArray) (rest := []) C (vx_runSW (As := [.ref (gad g 7 0), .int x1, .ref (gad g 64 0)]) (Ts := UU) (hh := [(0, 9, 12, 13)]) ⟨C.ex, C.cd, C.ml, C.ow, C.ts⟩ (ok_L_silent l hlt g x1 σ Q hq) ⟨⟨rfl, rfl, Nat.le_trans (Nat.le_of_ble_eq_true rfl : 9 + 1 ≤ 70) C.fr.1, Nat.le_trans (Nat.le_of_ble_eq_true rfl : 8 + (4 + 11) + 64 * 9 ≤ 64 * 70) C.fr.2, pay_in C.ts good_lsW, List.mem_cons_self⟩, C.ts _ lsW_in, C.ts _ u1_0, ⟨by decide, by decide⟩, fun sig hs => ?_, C.ts _ u5_47, C.ts _ u5_48⟩ ⟨PcX.blind, fun U hU hW => ⟨rfl, by rw [hU]; exact hP, C.so.call (C.S hS) hU hW, hXS.call (C.S hS) hU hW⟩⟩ rfl rfl hl.1 rfl (lv_room (Nat.le_of_ble_eq_true rfl)) hd hroom) hS hl (fun r σ' hq2 => ?_)
  · have h2 : (parseMethodDescriptor yL_silent.desc).map (fun d => d.parameters.length) = some 3 := by decide +kernel
    rw [hs] at h2
    exact (Option.some.inj h2).symm
  · obtain ⟨x, rfl, hq2⟩ := hq2
    exact k x σ' hq2
theorem lc_37 (hlt : l.stackTraces = false) (CC : ∀ a b, a ≤ kc + 1 → b ≤ sc + 6 → CxV g A p R s m args meth c a b cL_law 7 RL 70) (hXS : XS g s) (hX : Sc A b L xs s) (hL : L < 2 ^ 31) (hi : i + 5 < L) (h : RR n σ) (nx : ∀ σ2, RR (n + 1) σ2 → V g A p l e R s m args below meth c Z (kc + 1) (sc + 6) 7 1731 (lwL g b (nI i)) [] σ2) : V g A p l e R s m args below meth c Z kc sc 7 1637 (lwL g b (nI i)) [] σ := by
  have C := CC kc sc (by omega) (by omega)
  have C1 := CC (kc + 1) (sc + 6) (by omega) (by omega)
  refine v_aload_n C dL_law_1637 rfl 2 rfl ?_
  refine v_arg 1 C hX hL (by omega) 1 0 rfl rfl rfl dL_law_1638 dL_law_1639 dL_law_1641 dL_law_1642 dL_law_1643 ?_
  refine v_aload_n C dL_law_1644 rfl 4 rfl ?_
  refine v_lsil (Q := SQ n (xs (i + 1))) hlt C hXS C1.kk dL_law_1645 (k_silent2 h) (fun r σ1 hq => ?_)
  rcases hq with ⟨rfl, hq⟩ | ⟨rfl, hq⟩
  · refine v_istore (lv' := (5, .int 0) :: lwL g b (nI i)) C1 dL_law_1648 (by decide) rfl ?_
    refine v_aload_n C1 dL_law_1650 rfl 4 rfl ?_
    refine v_arg 1 C1 hX hL (by omega) 2 1 rfl rfl rfl dL_law_1651 dL_law_1652 dL_law_1654 dL_law_1655 dL_law_1656 ?_
    refine v_callVi (n := 8) (i := 0) (As := [.int (xs (i + 1))]) [] C1 dL_law_1657 w_L_184 (ok_X8_silent l g (xs (i + 1)) σ1 _ hq) (Nat.le_of_ble_eq_true rfl) rfl rfl rfl (by decide) rfl rfl (Nat.le_of_ble_eq_true rfl) (fun r2 σ2 hq2 => ?_)
    obtain ⟨t0, t1, hR⟩ := hq2
    refine v_istore (lv' := (6, .int r2) :: (5, .int 0) :: lwL g b (nI i)) C1 dL_law_1660 (by decide) rfl ?_
    refine v_aload_n C1 dL_law_1662 rfl 5 rfl ?_
    refine v_callVi (n := 8) (i := 0) (As := []) [] C1 dL_law_1663 w_L_185 (ok_X8_thrown l g σ2 (fun r σ3 => r = gI σ2 8 0 0 ∧ σ3 = σ2) ⟨rfl, rfl⟩) (Nat.le_of_ble_eq_true rfl) rfl rfl rfl (by decide) rfl rfl (Nat.le_of_ble_eq_true rfl) (fun r3 σ3 hq3 => ?_)
    obtain ⟨rfl, rfl⟩ := hq3
    refine v_iload C1 dL_law_1666 1 rfl ?_
    refine v_icmp_eq (tgt := 1673) C1 dL_law_1668 (by decide) (fun _ => ?_) (fun q => absurd t0 q)
    refine v_iload C1 dL_law_1673 1 rfl ?_
    refine v_if_ne (tgt := 1690) C1 dL_law_1675 (by decide) (fun q => absurd rfl q) (fun _ => ?_)
    refine v_aload_n C1 dL_law_1678 rfl 6 rfl ?_
    refine v_iconst (v := 0) C1 dL_law_1679 rfl ?_
    refine v_laload (n := 64) (i := 0) (N := 1) C1 dL_law_1680 rfl (by decide) rfl (vp_in_nI (n := 0) (by decide) (by decide)) ?_
    refine v_iload C1 dL_law_1681 0 rfl ?_
    refine v_i2l C1 dL_law_1683 ?_
    refine v_lcmp C1 dL_law_1684 ?_
    refine v_if_eq (tgt := 1690) C1 dL_law_1685 (by decide) (fun _ => ?_) (fun q => absurd (by rw [show gL σ3 64 0 (0 : Int32).toNatClampNeg = r2.toInt64 from t1]; exact lg_cmp_self _) q)
    refine v_goto (tgt := 1731) C1 dL_law_1690 (by decide) ?_
    exact v_sub [2, 3, 4, 5, 6] rfl (nx _ hR)
  · refine v_istore (lv' := (5, .int 1) :: lwL g b (nI i)) C1 dL_law_1648 (by decide) rfl ?_
    refine v_aload_n C1 dL_law_1650 rfl 4 rfl ?_
    refine v_arg 1 C1 hX hL (by omega) 2 1 rfl rfl rfl dL_law_1651 dL_law_1652 dL_law_1654 dL_law_1655 dL_law_1656 ?_
    refine v_callVi (n := 8) (i := 0) (As := [.int (xs (i + 1))]) [] C1 dL_law_1657 w_L_184 (ok_X8_silent l g (xs (i + 1)) σ1 _ hq) (Nat.le_of_ble_eq_true rfl) rfl rfl rfl (by decide) rfl rfl (Nat.le_of_ble_eq_true rfl) (fun r2 σ2 hq2 => ?_)
    obtain ⟨t0, hR⟩ := hq2
    refine v_istore (lv' := (6, .int r2) :: (5, .int 1) :: lwL g b (nI i)) C1 dL_law_1660 (by decide) rfl ?_
    refine v_aload_n C1 dL_law_1662 rfl 5 rfl ?_
    refine v_callVi (n := 8) (i := 0) (As := []) [] C1 dL_law_1663 w_L_185 (ok_X8_thrown l g σ2 (fun r σ3 => r = gI σ2 8 0 0 ∧ σ3 = σ2) ⟨rfl, rfl⟩) (Nat.le_of_ble_eq_true rfl) rfl rfl rfl (by decide) rfl rfl (Nat.le_of_ble_eq_true rfl) (fun r3 σ3 hq3 => ?_)
    obtain ⟨rfl, rfl⟩ := hq3
    refine v_iload C1 dL_law_1666 1 rfl ?_
    refine v_icmp_eq (tgt := 1673) C1 dL_law_1668 (by decide) (fun _ => ?_) (fun q => absurd t0 q)
    refine v_iload C1 dL_law_1673 1 rfl ?_
    refine v_if_ne (tgt := 1690) C1 dL_law_1675 (by decide) (fun _ => ?_) (fun q => absurd q (by decide))
    refine v_goto (tgt := 1731) C1 dL_law_1690 (by decide) ?_
    exact v_sub [2, 3, 4, 5, 6] rfl (nx _ hR)
theorem and63 (w : Int32) : ∃ t, t < 64 ∧ w &&& 63 = nI t := by
  have hb : w.toBitVec.toNat < 2 ^ 32 := w.toBitVec.isLt
  refine ⟨w.toBitVec.toNat % 64, Nat.mod_lt _ (by decide), ?_⟩
  apply Int32.toBitVec_inj.mp
  apply BitVec.eq_of_toNat_eq
  show (w.toBitVec &&& (63 : Int32).toBitVec).toNat = (BitVec.ofNat 32 _).toNat
  rw [BitVec.toNat_and, BitVec.toNat_ofNat, show (63 : Int32).toBitVec.toNat = 2 ^ 6 - 1 from rfl, Nat.and_two_pow_sub_one_eq_mod]
  omega
theorem sub6 {L k : Nat} (hL : L ≤ 3072) (hk : k ≤ 3072) : (Int32.ofNat L - 6 < nI k) ↔ L < k + 6 := by
  rcases Nat.lt_or_ge L 6 with q | q
  · have e : (Int32.ofNat L - 6).toInt = (L : Int) - 6 := by
      match L, q with
      | 0, _ => rfl
      | 1, _ => rfl
      | 2, _ => rfl
      | 3, _ => rfl
      | 4, _ => rfl
      | 5, _ => rfl
      | L + 6, h => omega
    rw [Int32.lt_iff_toInt_lt, e, nI_toInt (by omega)]
    omega
  · rw [show Int32.ofNat L = nI L from rfl, show (6 : Int32) = nI 6 from rfl, sub_nI q, lt_nI (by omega) (by omega)]
    omega
set_option maxHeartbeats 4000000 in
theorem law_loop (hlt : l.stackTraces = false) (hXS : XS g s) (hX : Sc A b L xs s) (hL3 : L ≤ 3072) {K0 S0 : Nat} (CC : ∀ a b, a ≤ K0 + 513 → b ≤ S0 + 6 * 513 → CxV g A p R s m args meth c a b cL_law 7 RL 70) (fin : ∀ (kc sc : Nat) (lv : List (Nat × Value)) (σ : Hp), kc ≤ K0 + 513 → sc ≤ S0 + 6 * 513 → V g A p l e R s m args below meth c Z kc sc 7 1737 lv [] σ) :
    ∀ (d k : Nat) (σ : Hp), 6 * k ≤ L → L < 6 * (k + d) → RR k σ → V g A p l e R s m args below meth c Z (K0 + k) (S0 + 6 * k) 7 23 (lwL g b (nI (6 * k))) [] σ := by
  intro d
  induction d with
  | zero => intro k σ h1 h2; omega
  | succ d ih =>
    intro k σ h1 h2 h
    have hL : L < 2 ^ 31 := by omega
    have C := CC (K0 + k) (S0 + 6 * k) (by omega) (by omega)
    refine v_iload C dL_law_23 0 rfl ?_
    refine v_aload_n C dL_law_25 rfl 1 rfl ?_
    refine v_slen C hX dL_law_26 ?_
    refine v_bipush (v := 6) C dL_law_27 (by decide) ?_
    refine v_isub C dL_law_29 ?_
    refine v_icmp_gt (tgt := 1737) C dL_law_30 (by decide) (fun _ => fin _ _ _ _ (by omega) (by omega)) (fun c1 => ?_)
    rw [sub6 hL3 (by omega)] at c1
    refine v_aload_n C dL_law_33 rfl 1 rfl ?_
    refine v_iload C dL_law_34 0 rfl ?_
    refine v_sld C hX (vp_in_nI (by omega) hL) dL_law_36 ?_
    refine v_bipush (v := 63) C dL_law_37 (by decide) ?_
    refine v_iand C dL_law_39 ?_
    have nxt : ∀ kc sc, kc ≤ K0 + (k + 1) → sc ≤ S0 + 6 * (k + 1) → ∀ σ2, RR (k + 1) σ2 → V g A p l e R s m args below meth c Z kc sc 7 1731 (lwL g b (nI (6 * k))) [] σ2 := by
      intro kc sc q1 q2 σ2 hR
      refine v_widen q1 q2 ?_
      have C1 := CC (K0 + (k + 1)) (S0 + 6 * (k + 1)) (by omega) (by omega)
      refine v_iinc (v := nI (6 * (k + 1))) (lv' := lwL g b (nI (6 * (k + 1)))) C1 dL_law_1731 0 rfl (by rw [show Int32.ofInt 6 = nI 6 from rfl, add_nI]; rfl) (by decide) rfl ?_
      exact v_goto (tgt := 23) C1 dL_law_1734 (by decide) (ih (k + 1) σ2 (by omega) (by omega) hR)
    have nx := nxt (K0 + k) (S0 + 6 * k) (by omega) (by omega)
    have nx2 := nxt (K0 + k + 1) (S0 + 6 * k + 6) (by omega) (by omega)
    have CC : ∀ a b, a ≤ K0 + k + 1 → b ≤ S0 + 6 * k + 6 → CxV g A p R s m args meth c a b cL_law 7 RL 70 := fun a b q1 q2 => CC a b (by omega) (by omega)
    generalize xs (nI (6 * k)).toNatClampNeg = w
    obtain ⟨t, ht, e⟩ := and63 w
    rw [e]
    clear e
    match t, ht with
    | 0, _ => exact v_tableIn (off := 176) (tgt := 216) C dL_law_40 (by decide) (by decide) rfl (by decide) (lc_0 C hX hL (by omega) (by omega) h nx)
    | 1, _ => exact v_tableIn (off := 249) (tgt := 289) C dL_law_40 (by decide) (by decide) rfl (by decide) (lc_1 C hX hL (by omega) (by omega) h nx)
    | 2, _ => exact v_tableIn (off := 274) (tgt := 314) C dL_law_40 (by decide) (by decide) rfl (by decide) (lc_2 C hX hL (by omega) (by omega) h nx)
    | 3, _ => exact v_tableIn (off := 287) (tgt := 327) C dL_law_40 (by decide) (by decide) rfl (by decide) (lc_3 C hX hL (by omega) (by omega) h nx)
    | 4, _ => exact v_tableIn (off := 300) (tgt := 340) C dL_law_40 (by decide) (by decide) rfl (by decide) (lc_4 C hX hL (by omega) (by omega) h nx)
    | 5, _ => exact v_tableIn (off := 325) (tgt := 365) C dL_law_40 (by decide) (by decide) rfl (by decide) (lc_5 C hX hL (by omega) (by omega) h nx)
    | 6, _ => exact v_tableIn (off := 350) (tgt := 390) C dL_law_40 (by decide) (by decide) rfl (by decide) (lc_6 C hX hL (by omega) (by omega) h nx)
    | 7, _ => exact v_tableIn (off := 387) (tgt := 427) C dL_law_40 (by decide) (by decide) rfl (by decide) (lc_7 C hX hL (by omega) (by omega) h nx)
    | 8, _ => exact v_tableIn (off := 424) (tgt := 464) C dL_law_40 (by decide) (by decide) rfl (by decide) (lc_8 C hX hL (by omega) (by omega) h nx)
    | 9, _ => exact v_tableIn (off := 481) (tgt := 521) C dL_law_40 (by decide) (by decide) rfl (by decide) (lc_9 C hX hL (by omega) (by omega) h nx)
    | 10, _ => exact v_tableIn (off := 530) (tgt := 570) C dL_law_40 (by decide) (by decide) rfl (by decide) (lc_10 C hX hL (by omega) (by omega) h nx)
    | 11, _ => exact v_tableIn (off := 567) (tgt := 607) C dL_law_40 (by decide) (by decide) rfl (by decide) (lc_11 C hX hL (by omega) (by omega) h nx)
    | 12, _ => exact v_tableIn (off := 604) (tgt := 644) C dL_law_40 (by decide) (by decide) rfl (by decide) (lc_12 C hX hL (by omega) (by omega) h nx)
    | 13, _ => exact v_tableIn (off := 653) (tgt := 693) C dL_law_40 (by decide) (by decide) rfl (by decide) (lc_13 C hX hL (by omega) (by omega) h nx)
    | 14, _ => exact v_tableIn (off := 714) (tgt := 754) C dL_law_40 (by decide) (by decide) rfl (by decide) (lc_14 C hX hL (by omega) (by omega) h nx)
    | 15, _ => exact v_tableIn (off := 751) (tgt := 791) C dL_law_40 (by decide) (by decide) rfl (by decide) (lc_15 C hX hL (by omega) (by omega) h nx)
    | 16, _ => exact v_tableIn (off := 788) (tgt := 828) C dL_law_40 (by decide) (by decide) rfl (by decide) (lc_16 C hX hL (by omega) (by omega) h nx)
    | 17, _ => exact v_tableIn (off := 837) (tgt := 877) C dL_law_40 (by decide) (by decide) rfl (by decide) (lc_17 C hX hL (by omega) (by omega) h nx)
    | 18, _ => exact v_tableIn (off := 886) (tgt := 926) C dL_law_40 (by decide) (by decide) rfl (by decide) (lc_18 C hX hL (by omega) (by omega) h nx)
    | 19, _ => exact v_tableIn (off := 935) (tgt := 975) C dL_law_40 (by decide) (by decide) rfl (by decide) (lc_19 C hX hL (by omega) (by omega) h nx)
    | 20, _ => exact v_tableIn (off := 989) (tgt := 1029) C dL_law_40 (by decide) (by decide) rfl (by decide) (lc_20 C hX hL (by omega) (by omega) h nx)
    | 21, _ => exact v_tableIn (off := 1043) (tgt := 1083) C dL_law_40 (by decide) (by decide) rfl (by decide) (lc_21 C hX hL (by omega) (by omega) h nx)
    | 22, _ => exact v_tableIn (off := 1121) (tgt := 1161) C dL_law_40 (by decide) (by decide) rfl (by decide) (lc_22 C hX hL (by omega) (by omega) h nx)
    | 23, _ => exact v_tableIn (off := 1187) (tgt := 1227) C dL_law_40 (by decide) (by decide) rfl (by decide) (lc_23 C hX hL (by omega) (by omega) h nx)
    | 24, _ => exact v_tableIn (off := 1224) (tgt := 1264) C dL_law_40 (by decide) (by decide) rfl (by decide) (lc_24 C hX hL (by omega) (by omega) h nx)
    | 25, _ => exact v_tableIn (off := 1237) (tgt := 1277) C dL_law_40 (by decide) (by decide) rfl (by decide) (lc_25 C hX hL (by omega) (by omega) h nx)
    | 26, _ => exact v_tableIn (off := 1262) (tgt := 1302) C dL_law_40 (by decide) (by decide) rfl (by decide) (lc_26 C hX hL (by omega) (by omega) h nx)
    | 27, _ => exact v_tableIn (off := 1287) (tgt := 1327) C dL_law_40 (by decide) (by decide) rfl (by decide) (lc_27 C hX hL (by omega) (by omega) h nx)
    | 28, _ => exact v_tableIn (off := 1324) (tgt := 1364) C dL_law_40 (by decide) (by decide) rfl (by decide) (lc_28 C hX hL (by omega) (by omega) h nx)
    | 29, _ => exact v_tableIn (off := 1361) (tgt := 1401) C dL_law_40 (by decide) (by decide) rfl (by decide) (lc_29 C hX hL (by omega) (by omega) h nx)
    | 30, _ => exact v_tableIn (off := 1398) (tgt := 1438) C dL_law_40 (by decide) (by decide) rfl (by decide) (lc_30 C hX hL (by omega) (by omega) h nx)
    | 31, _ => exact v_tableIn (off := 1423) (tgt := 1463) C dL_law_40 (by decide) (by decide) rfl (by decide) (lc_31 C hX hL (by omega) (by omega) h nx)
    | 32, _ => exact v_tableIn (off := 1448) (tgt := 1488) C dL_law_40 (by decide) (by decide) rfl (by decide) (lc_32 C hX hL (by omega) (by omega) h nx)
    | 33, _ => exact v_tableIn (off := 1509) (tgt := 1549) C dL_law_40 (by decide) (by decide) rfl (by decide) (lc_33 C hX hL (by omega) (by omega) h nx)
    | 34, _ => exact v_tableIn (off := 1558) (tgt := 1598) C dL_law_40 (by decide) (by decide) rfl (by decide) (lc_34 C hX hL (by omega) (by omega) h nx)
    | 35, _ => exact v_tableIn (off := 1571) (tgt := 1611) C dL_law_40 (by decide) (by decide) rfl (by decide) (lc_35 C hX hL (by omega) (by omega) h nx)
    | 36, _ => exact v_tableIn (off := 1584) (tgt := 1624) C dL_law_40 (by decide) (by decide) rfl (by decide) (lc_36 C hX hL (by omega) (by omega) h nx)
    | 37, _ => exact v_tableIn (off := 1597) (tgt := 1637) C dL_law_40 (by decide) (by decide) rfl (by decide) (lc_37 hlt CC hXS hX hL (by omega) h nx2)
    | 38, _ => exact v_tableIn (off := 1653) (tgt := 1693) C dL_law_40 (by decide) (by decide) rfl (by decide) (lc_38 C hX hL (by omega) (by omega) h nx)
    | 39, _ => exact v_tableIn (off := 1678) (tgt := 1718) C dL_law_40 (by decide) (by decide) rfl (by decide) (lc_39 C hX hL (by omega) (by omega) h nx)
    | t + 40, ht =>
          refine v_tableOut (tgt := 1731) C dL_law_40 (Or.inr ?_) (by decide) (nx σ ?_)
          · rw [nI_toInt (by omega)]
            omega
          · obtain ⟨⟨p, P, hq⟩, hT⟩ := h
            exact ⟨⟨p, P, hq.mono (Nat.le_succ k)⟩, hT⟩
end Loop
