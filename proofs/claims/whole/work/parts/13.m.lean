def S_X7_bound (x1 : Int32) (x2 : Int32) (x3 : Int32) (σ : Hp) (Q : Int64 → Hp → Prop) : Prop :=
  gR σ 0 < 2 ∧ S_X2_hasReceiver (gR σ 0) x1 x2 σ (fun r3 σ2 => ((¬ r3 = 0 → (((gI σ2 1 0 0) = 0 → gR σ2 0 < 2 ∧ S_X7_earOf x1 x2 σ2 (fun r6 σ5 => S_X1_boundOf (gR σ2 0) r6 σ5 (fun r8 σ7 => S_X7_part r8 x3 σ7 (fun r10 σ9 => Q r10 σ9)))) ∧ (¬ (gI σ2 1 0 0) = 0 → S_X7_refuse 5 σ2 (fun r12 σ11 => Q r12.toInt64 σ11)))) ∧ (r3 = 0 → S_X7_refuse 1 σ2 (fun r14 σ13 => Q r14.toInt64 σ13))))
set_option maxHeartbeats 2000000 in
set_option maxRecDepth 20000 in
theorem ok_X7_bound (l : Launch) (g : Gm) (x1 : Int32) (x2 : Int32) (x3 : Int32) (σ : Hp) (Q : Int64 → Hp → Prop) (h : S_X7_bound x1 x2 x3 σ Q) : Ct l g yX7_bound cX7_bound 4 (some .long) 3 [.ref (gad g 7 0), .int x1, .int x2, .int x3] σ (QL Q) := by
  refine Ct.of (by decide +kernel) (Nat.le_of_ble_eq_true rfl) ?_
  intro p e R s m args below meth c C
  have C : Cx g p R s m args meth c cX7_bound 4 RX7 (some .long) 3 := C
  unfold S_X7_bound at h
  show G g p l e R s m args below meth c (QL Q) 4 0 [(0, .ref (gad g 7 0)), (1, .int x1), (2, .int x2), (3, .int x3)] [] σ
  refine r_aload_n C dX7_bound_0 rfl 0 rfl ?_
  refine gf_7_19 C dX7_bound_1 (cn_7 (by decide)) ?_
  obtain ⟨hr1, h⟩ := h
  refine r_iload_n C dX7_bound_4 rfl 1 rfl ?_
  refine r_iload_n C dX7_bound_5 rfl 2 rfl ?_
  refine r_callVi [] C dX7_bound_6 w_7_151 (ok_X2_hasReceiver l g _ hr1 _ _ _ _ h) (Nat.le_of_ble_eq_true rfl) rfl rfl ak_2 (cn_2 hr1) rfl rfl (Nat.le_of_ble_eq_true rfl) (fun r3 σ2 h => ?_)
  refine r_if_ne (tgt := 19) C dX7_bound_9 rfl (fun q => ?_) (fun q => ?_)
  · have h := h.1 q
    refine r_aload_n C dX7_bound_19 rfl 0 rfl ?_
    refine gf_7_26 C dX7_bound_20 (cn_7 (by decide)) ?_
    refine gf_7_264 C dX7_bound_23 (cn_1 (by decide)) ?_
    refine r_if_eq (tgt := 36) C dX7_bound_26 rfl (fun q => ?_) (fun q => ?_)
    · have h := h.1 q
      refine r_aload_n C dX7_bound_36 rfl 0 rfl ?_
      refine r_aload_n C dX7_bound_37 rfl 0 rfl ?_
      refine gf_7_26 C dX7_bound_38 (cn_7 (by decide)) ?_
      refine r_aload_n C dX7_bound_41 rfl 0 rfl ?_
      refine gf_7_19 C dX7_bound_42 (cn_7 (by decide)) ?_
      obtain ⟨hr4, h⟩ := h
      refine r_iload_n C dX7_bound_45 rfl 1 rfl ?_
      refine r_iload_n C dX7_bound_46 rfl 2 rfl ?_
      refine r_callSi [.ref (gad g 2 _), .ref (gad g 1 0), .ref (gad g 7 0)] C dX7_bound_47 w_7_158 (ok_X7_earOf l g _ _ _ _ h) (Nat.le_of_ble_eq_true rfl) rfl rfl (Nat.le_of_ble_eq_true rfl) (fun r6 σ5 h => ?_)
      refine r_callVl [.ref (gad g 7 0)] C dX7_bound_50 w_7_274 (ok_X1_boundOf l g _ hr4 _ _ _ h) (Nat.le_of_ble_eq_true rfl) rfl rfl ak_1 (cn_1 (by decide)) rfl rfl (Nat.le_of_ble_eq_true rfl) (fun r8 σ7 h => ?_)
      refine r_iload_n C dX7_bound_53 rfl 3 rfl ?_
      refine r_callVl [] C dX7_bound_54 w_7_260 (ok_X7_part l g _ _ _ _ h) (Nat.le_of_ble_eq_true rfl) rfl rfl ak_7 (cn_7 (by decide)) rfl rfl (Nat.le_of_ble_eq_true rfl) (fun r10 σ9 h => ?_)
      exact r_lreturn C dX7_bound_57 ⟨_, rfl, h⟩
    · have h := h.2 q
      refine r_aload_n C dX7_bound_29 rfl 0 rfl ?_
      refine r_iconst C dX7_bound_30 ic_5 ?_
      refine r_callVi [] C dX7_bound_31 w_7_64 (ok_X7_refuse l g _ _ _ h) (Nat.le_of_ble_eq_true rfl) rfl rfl ak_7 (cn_7 (by decide)) rfl rfl (Nat.le_of_ble_eq_true rfl) (fun r12 σ11 h => ?_)
      refine r_i2l C dX7_bound_34 ?_
      exact r_lreturn C dX7_bound_35 ⟨_, rfl, h⟩
  · have h := h.2 q
    refine r_aload_n C dX7_bound_12 rfl 0 rfl ?_
    refine r_iconst C dX7_bound_13 ic_1 ?_
    refine r_callVi [] C dX7_bound_14 w_7_64 (ok_X7_refuse l g _ _ _ h) (Nat.le_of_ble_eq_true rfl) rfl rfl ak_7 (cn_7 (by decide)) rfl rfl (Nat.le_of_ble_eq_true rfl) (fun r14 σ13 h => ?_)
    refine r_i2l C dX7_bound_17 ?_
    exact r_lreturn C dX7_bound_18 ⟨_, rfl, h⟩
def J_X7_keeps_83 (Q : Int32 → Hp → Prop) (z0 : Int32) (σ : Hp) : Prop :=
  S_X7_answer z0 σ (fun r10 σ9 => Q r10 σ9)
def S_X7_keeps (x1 : Int32) (x2 : Int32) (σ : Hp) (Q : Int32 → Hp → Prop) : Prop :=
  gR σ 0 < 2 ∧ S_X2_hasReceiver (gR σ 0) x1 x2 σ (fun r3 σ2 => ((¬ r3 = 0 → (((gI σ2 1 0 0) = 0 → S_X7_earOf x1 x2 σ2 (fun r5 σ4 => vp_in r5 24 ∧ gR σ4 0 < 2 ∧ S_X1_boundOf (gR σ4 0) r5 σ4 (fun r8 σ7 => (((0 : Int32) < (lg_cmp (((gI σ4 15 0 (ix r5)).toInt64) * 16777216) r8) → J_X7_keeps_83 Q 0 σ7) ∧ (¬ (0 : Int32) < (lg_cmp (((gI σ4 15 0 (ix r5)).toInt64) * 16777216) r8) → J_X7_keeps_83 Q 1 σ7))))) ∧ (¬ (gI σ2 1 0 0) = 0 → S_X7_refuse 5 σ2 (fun r12 σ11 => Q r12 σ11)))) ∧ (r3 = 0 → S_X7_refuse 1 σ2 (fun r14 σ13 => Q r14 σ13))))
set_option maxHeartbeats 2000000 in
set_option maxRecDepth 20000 in
theorem ok_X7_keeps (l : Launch) (g : Gm) (x1 : Int32) (x2 : Int32) (σ : Hp) (Q : Int32 → Hp → Prop) (h : S_X7_keeps x1 x2 σ Q) : Ct l g yX7_keeps cX7_keeps 6 (some .int) 2 [.ref (gad g 7 0), .int x1, .int x2] σ (QI Q) := by
  refine Ct.of (by decide +kernel) (Nat.le_of_ble_eq_true rfl) ?_
  intro p e R s m args below meth c C
  have C : Cx g p R s m args meth c cX7_keeps 6 RX7 (some .int) 2 := C
  have j83 : ∀ (z0 : Int32) (σ : Hp), J_X7_keeps_83 Q z0 σ → G g p l e R s m args below meth c (QI Q) 6 83 [] [.int z0, .ref (gad g 7 0)] σ := by
    intro z0 σ h
    unfold J_X7_keeps_83 at h
    refine r_callVi [] C dX7_keeps_83 w_7_100 (ok_X7_answer l g _ _ _ h) (Nat.le_of_ble_eq_true rfl) rfl rfl ak_7 (cn_7 (by decide)) rfl rfl (Nat.le_of_ble_eq_true rfl) (fun r10 σ9 h => ?_)
    exact r_ireturn C dX7_keeps_86 ⟨_, rfl, h⟩
  unfold S_X7_keeps at h
  show G g p l e R s m args below meth c (QI Q) 6 0 [(0, .ref (gad g 7 0)), (1, .int x1), (2, .int x2)] [] σ
  refine r_aload_n C dX7_keeps_0 rfl 0 rfl ?_
  refine gf_7_19 C dX7_keeps_1 (cn_7 (by decide)) ?_
  obtain ⟨hr1, h⟩ := h
  refine r_iload_n C dX7_keeps_4 rfl 1 rfl ?_
  refine r_iload_n C dX7_keeps_5 rfl 2 rfl ?_
  refine r_callVi [] C dX7_keeps_6 w_7_151 (ok_X2_hasReceiver l g _ hr1 _ _ _ _ h) (Nat.le_of_ble_eq_true rfl) rfl rfl ak_2 (cn_2 hr1) rfl rfl (Nat.le_of_ble_eq_true rfl) (fun r3 σ2 h => ?_)
  refine r_if_ne (tgt := 18) C dX7_keeps_9 rfl (fun q => ?_) (fun q => ?_)
  · have h := h.1 q
    refine r_aload_n C dX7_keeps_18 rfl 0 rfl ?_
    refine gf_7_26 C dX7_keeps_19 (cn_7 (by decide)) ?_
    refine gf_7_264 C dX7_keeps_22 (cn_1 (by decide)) ?_
    refine r_if_eq (tgt := 34) C dX7_keeps_25 rfl (fun q => ?_) (fun q => ?_)
    · have h := h.1 q
      refine r_iload_n C dX7_keeps_34 rfl 1 rfl ?_
      refine r_iload_n C dX7_keeps_35 rfl 2 rfl ?_
      refine r_callSi [] C dX7_keeps_36 w_7_158 (ok_X7_earOf l g _ _ _ _ h) (Nat.le_of_ble_eq_true rfl) rfl rfl (Nat.le_of_ble_eq_true rfl) (fun r5 σ4 h => ?_)
      refine r_istore_n C dX7_keeps_39 rfl (Nat.le_of_ble_eq_true rfl) rfl ?_
      refine r_aload_n C dX7_keeps_40 rfl 1 rfl ?_
      refine gf_7_33 C dX7_keeps_41 (cn_7 (by decide)) ?_
      refine gf_7_240 C dX7_keeps_44 (cn_5 (by decide)) ?_
      refine gf_7_278 C dX7_keeps_47 (cn_0 (by decide)) ?_
      refine r_iload_n C dX7_keeps_50 rfl 0 rfl ?_
      obtain ⟨h0, h⟩ := h
      refine r_iaload C dX7_keeps_51 ak_15 (cn_15 (by decide)) al_15 h0 ?_
      refine r_i2l C dX7_keeps_52 ?_
      refine r_ldc2 (v := 16777216) C dX7_keeps_53 u4_56 ?_
      refine r_lmul C dX7_keeps_56 ?_
      refine r_lstore C dX7_keeps_57 (Nat.le_of_ble_eq_true rfl) rfl ?_
      refine r_aload_n C dX7_keeps_59 rfl 2 rfl ?_
      refine r_lload C dX7_keeps_60 0 rfl ?_
      refine r_aload_n C dX7_keeps_62 rfl 2 rfl ?_
      refine gf_7_26 C dX7_keeps_63 (cn_7 (by decide)) ?_
      refine r_aload_n C dX7_keeps_66 rfl 2 rfl ?_
      refine gf_7_19 C dX7_keeps_67 (cn_7 (by decide)) ?_
      obtain ⟨hr6, h⟩ := h
      refine r_iload_n C dX7_keeps_70 rfl 1 rfl ?_
      refine r_callVl [.long _, .ref (gad g 7 0)] C dX7_keeps_71 w_7_274 (ok_X1_boundOf l g _ hr6 _ _ _ h) (Nat.le_of_ble_eq_true rfl) rfl rfl ak_1 (cn_1 (by decide)) rfl rfl (Nat.le_of_ble_eq_true rfl) (fun r8 σ7 h => ?_)
      refine r_lcmp C dX7_keeps_74 ?_
      refine r_if_gt (tgt := 82) C dX7_keeps_75 rfl (fun q => ?_) (fun q => ?_)
      · have h := h.1 q
        refine r_iconst C dX7_keeps_82 ic_0 ?_
        refine r_sub [] rfl ?_
        exact j83 _ _ h
      · have h := h.2 q
        refine r_iconst C dX7_keeps_78 ic_1 ?_
        refine r_goto (tgt := 83) C dX7_keeps_79 rfl ?_
        refine r_sub [] rfl ?_
        exact j83 _ _ h
    · have h := h.2 q
      refine r_aload_n C dX7_keeps_28 rfl 0 rfl ?_
      refine r_iconst C dX7_keeps_29 ic_5 ?_
      refine r_callVi [] C dX7_keeps_30 w_7_64 (ok_X7_refuse l g _ _ _ h) (Nat.le_of_ble_eq_true rfl) rfl rfl ak_7 (cn_7 (by decide)) rfl rfl (Nat.le_of_ble_eq_true rfl) (fun r12 σ11 h => ?_)
      exact r_ireturn C dX7_keeps_33 ⟨_, rfl, h⟩
  · have h := h.2 q
    refine r_aload_n C dX7_keeps_12 rfl 0 rfl ?_
    refine r_iconst C dX7_keeps_13 ic_1 ?_
    refine r_callVi [] C dX7_keeps_14 w_7_64 (ok_X7_refuse l g _ _ _ h) (Nat.le_of_ble_eq_true rfl) rfl rfl ak_7 (cn_7 (by decide)) rfl rfl (Nat.le_of_ble_eq_true rfl) (fun r14 σ13 h => ?_)
    exact r_ireturn C dX7_keeps_17 ⟨_, rfl, h⟩
def S_X7_fullest (σ : Hp) (Q : Int32 → Hp → Prop) : Prop :=
  S_X7_noBus σ (fun r2 σ1 => ((r2 = 0 → S_X1_fullestPort σ1 (fun r4 σ3 => S_X7_answer r4 σ3 (fun r6 σ5 => Q r6 σ5))) ∧ (¬ r2 = 0 → S_X7_refuse 1 σ1 (fun r8 σ7 => Q r8 σ7))))
set_option maxHeartbeats 2000000 in
set_option maxRecDepth 20000 in
theorem ok_X7_fullest (l : Launch) (g : Gm) (σ : Hp) (Q : Int32 → Hp → Prop) (h : S_X7_fullest σ Q) : Ct l g yX7_fullest cX7_fullest 1 (some .int) 1 [.ref (gad g 7 0)] σ (QI Q) := by
  refine Ct.of (by decide +kernel) (Nat.le_of_ble_eq_true rfl) ?_
  intro p e R s m args below meth c C
  have C : Cx g p R s m args meth c cX7_fullest 1 RX7 (some .int) 1 := C
  unfold S_X7_fullest at h
  show G g p l e R s m args below meth c (QI Q) 1 0 [(0, .ref (gad g 7 0))] [] σ
  refine r_aload_n C dX7_fullest_0 rfl 0 rfl ?_
  refine r_callVi [] C dX7_fullest_1 w_7_103 (ok_X7_noBus l g _ _ h) (Nat.le_of_ble_eq_true rfl) rfl rfl ak_7 (cn_7 (by decide)) rfl rfl (Nat.le_of_ble_eq_true rfl) (fun r2 σ1 h => ?_)
  refine r_if_eq (tgt := 13) C dX7_fullest_4 rfl (fun q => ?_) (fun q => ?_)
  · have h := h.1 q
    refine r_aload_n C dX7_fullest_13 rfl 0 rfl ?_
    refine r_aload_n C dX7_fullest_14 rfl 0 rfl ?_
    refine gf_7_26 C dX7_fullest_15 (cn_7 (by decide)) ?_
    refine r_callVi [.ref (gad g 7 0)] C dX7_fullest_18 w_7_283 (ok_X1_fullestPort l g _ _ h) (Nat.le_of_ble_eq_true rfl) rfl rfl ak_1 (cn_1 (by decide)) rfl rfl (Nat.le_of_ble_eq_true rfl) (fun r4 σ3 h => ?_)
    refine r_callVi [] C dX7_fullest_21 w_7_100 (ok_X7_answer l g _ _ _ h) (Nat.le_of_ble_eq_true rfl) rfl rfl ak_7 (cn_7 (by decide)) rfl rfl (Nat.le_of_ble_eq_true rfl) (fun r6 σ5 h => ?_)
    exact r_ireturn C dX7_fullest_24 ⟨_, rfl, h⟩
  · have h := h.2 q
    refine r_aload_n C dX7_fullest_7 rfl 0 rfl ?_
    refine r_iconst C dX7_fullest_8 ic_1 ?_
    refine r_callVi [] C dX7_fullest_9 w_7_64 (ok_X7_refuse l g _ _ _ h) (Nat.le_of_ble_eq_true rfl) rfl rfl ak_7 (cn_7 (by decide)) rfl rfl (Nat.le_of_ble_eq_true rfl) (fun r8 σ7 h => ?_)
    exact r_ireturn C dX7_fullest_12 ⟨_, rfl, h⟩
def S_X7_leastGap (x1 : Int32) (σ : Hp) (Q : Int32 → Hp → Prop) : Prop :=
  gR σ 0 < 2 ∧ S_X2_hasLink (gR σ 0) x1 σ (fun r3 σ2 => ((¬ r3 = 0 → gR σ2 0 < 2 ∧ S_X1_leastGapFor (gR σ2 0) x1 σ2 (fun r6 σ5 => S_X7_answer r6 σ5 (fun r8 σ7 => Q r8 σ7))) ∧ (r3 = 0 → S_X7_refuse 1 σ2 (fun r10 σ9 => Q r10 σ9))))
set_option maxHeartbeats 2000000 in
set_option maxRecDepth 20000 in
theorem ok_X7_leastGap (l : Launch) (g : Gm) (x1 : Int32) (σ : Hp) (Q : Int32 → Hp → Prop) (h : S_X7_leastGap x1 σ Q) : Ct l g yX7_leastGap cX7_leastGap 2 (some .int) 4 [.ref (gad g 7 0), .int x1] σ (QI Q) := by
  refine Ct.of (by decide +kernel) (Nat.le_of_ble_eq_true rfl) ?_
  intro p e R s m args below meth c C
  have C : Cx g p R s m args meth c cX7_leastGap 2 RX7 (some .int) 4 := C
  unfold S_X7_leastGap at h
  show G g p l e R s m args below meth c (QI Q) 2 0 [(0, .ref (gad g 7 0)), (1, .int x1)] [] σ
  refine r_aload_n C dX7_leastGap_0 rfl 0 rfl ?_
  refine gf_7_19 C dX7_leastGap_1 (cn_7 (by decide)) ?_
  obtain ⟨hr1, h⟩ := h
  refine r_iload_n C dX7_leastGap_4 rfl 1 rfl ?_
  refine r_callVi [] C dX7_leastGap_5 w_7_136 (ok_X2_hasLink l g _ hr1 _ _ _ h) (Nat.le_of_ble_eq_true rfl) rfl rfl ak_2 (cn_2 hr1) rfl rfl (Nat.le_of_ble_eq_true rfl) (fun r3 σ2 h => ?_)
  refine r_if_ne (tgt := 17) C dX7_leastGap_8 rfl (fun q => ?_) (fun q => ?_)
  · have h := h.1 q
    refine r_aload_n C dX7_leastGap_17 rfl 0 rfl ?_
    refine r_aload_n C dX7_leastGap_18 rfl 0 rfl ?_
    refine gf_7_26 C dX7_leastGap_19 (cn_7 (by decide)) ?_
    refine r_aload_n C dX7_leastGap_22 rfl 0 rfl ?_
    refine gf_7_19 C dX7_leastGap_23 (cn_7 (by decide)) ?_
    obtain ⟨hr4, h⟩ := h
    refine r_iload_n C dX7_leastGap_26 rfl 1 rfl ?_
    refine r_callVi [.ref (gad g 7 0)] C dX7_leastGap_27 w_7_287 (ok_X1_leastGapFor l g _ hr4 _ _ _ h) (Nat.le_of_ble_eq_true rfl) rfl rfl ak_1 (cn_1 (by decide)) rfl rfl (Nat.le_of_ble_eq_true rfl) (fun r6 σ5 h => ?_)
    refine r_callVi [] C dX7_leastGap_30 w_7_100 (ok_X7_answer l g _ _ _ h) (Nat.le_of_ble_eq_true rfl) rfl rfl ak_7 (cn_7 (by decide)) rfl rfl (Nat.le_of_ble_eq_true rfl) (fun r8 σ7 h => ?_)
    exact r_ireturn C dX7_leastGap_33 ⟨_, rfl, h⟩
  · have h := h.2 q
    refine r_aload_n C dX7_leastGap_11 rfl 0 rfl ?_
    refine r_iconst C dX7_leastGap_12 ic_1 ?_
    refine r_callVi [] C dX7_leastGap_13 w_7_64 (ok_X7_refuse l g _ _ _ h) (Nat.le_of_ble_eq_true rfl) rfl rfl ak_7 (cn_7 (by decide)) rfl rfl (Nat.le_of_ble_eq_true rfl) (fun r10 σ9 h => ?_)
    exact r_ireturn C dX7_leastGap_16 ⟨_, rfl, h⟩
def S_X7_through (x1 : Int32) (σ : Hp) (Q : Int32 → Hp → Prop) : Prop :=
  gR σ 0 < 2 ∧ S_X2_hasPort (gR σ 0) x1 σ (fun r3 σ2 => ((¬ r3 = 0 → gR σ2 0 < 2 ∧ vp_in x1 16 ∧ S_X7_answer (gI σ2 49 (gR σ2 0) (ix x1)) σ2 (fun r6 σ5 => Q r6 σ5)) ∧ (r3 = 0 → S_X7_refuse 1 σ2 (fun r8 σ7 => Q r8 σ7))))
set_option maxHeartbeats 2000000 in
set_option maxRecDepth 20000 in
theorem ok_X7_through (l : Launch) (g : Gm) (x1 : Int32) (σ : Hp) (Q : Int32 → Hp → Prop) (h : S_X7_through x1 σ Q) : Ct l g yX7_through cX7_through 2 (some .int) 2 [.ref (gad g 7 0), .int x1] σ (QI Q) := by
  refine Ct.of (by decide +kernel) (Nat.le_of_ble_eq_true rfl) ?_
  intro p e R s m args below meth c C
  have C : Cx g p R s m args meth c cX7_through 2 RX7 (some .int) 2 := C
  unfold S_X7_through at h
  show G g p l e R s m args below meth c (QI Q) 2 0 [(0, .ref (gad g 7 0)), (1, .int x1)] [] σ
  refine r_aload_n C dX7_through_0 rfl 0 rfl ?_
  refine gf_7_19 C dX7_through_1 (cn_7 (by decide)) ?_
  obtain ⟨hr1, h⟩ := h
  refine r_iload_n C dX7_through_4 rfl 1 rfl ?_
  refine r_callVi [] C dX7_through_5 w_7_197 (ok_X2_hasPort l g _ hr1 _ _ _ h) (Nat.le_of_ble_eq_true rfl) rfl rfl ak_2 (cn_2 hr1) rfl rfl (Nat.le_of_ble_eq_true rfl) (fun r3 σ2 h => ?_)
  refine r_if_ne (tgt := 17) C dX7_through_8 rfl (fun q => ?_) (fun q => ?_)
  · have h := h.1 q
    refine r_aload_n C dX7_through_17 rfl 0 rfl ?_
    refine r_aload_n C dX7_through_18 rfl 0 rfl ?_
    refine gf_7_19 C dX7_through_19 (cn_7 (by decide)) ?_
    obtain ⟨hr4, h⟩ := h
    refine gf_7_81 C dX7_through_22 (cn_2 hr4) ?_
    refine gf_7_291 C dX7_through_25 (cn_6 hr4) ?_
    refine r_iload_n C dX7_through_28 rfl 1 rfl ?_
    obtain ⟨h0, h⟩ := h
    refine r_iaload C dX7_through_29 ak_49 (cn_49 hr4) al_49 h0 ?_
    refine r_callVi [] C dX7_through_30 w_7_100 (ok_X7_answer l g _ _ _ h) (Nat.le_of_ble_eq_true rfl) rfl rfl ak_7 (cn_7 (by decide)) rfl rfl (Nat.le_of_ble_eq_true rfl) (fun r6 σ5 h => ?_)
    exact r_ireturn C dX7_through_33 ⟨_, rfl, h⟩
  · have h := h.2 q
    refine r_aload_n C dX7_through_11 rfl 0 rfl ?_
    refine r_iconst C dX7_through_12 ic_1 ?_
    refine r_callVi [] C dX7_through_13 w_7_64 (ok_X7_refuse l g _ _ _ h) (Nat.le_of_ble_eq_true rfl) rfl rfl ak_7 (cn_7 (by decide)) rfl rfl (Nat.le_of_ble_eq_true rfl) (fun r8 σ7 h => ?_)
    exact r_ireturn C dX7_through_16 ⟨_, rfl, h⟩
def J_X7_send_28 (Q : Int32 → Hp → Prop) (σ : Hp) : Prop :=
  S_X7_refuse 2 σ (fun r5 σ4 => Q r5 σ4)
def S_X7_send (x1 : Int32) (x2 : Int32) (σ : Hp) (Q : Int32 → Hp → Prop) : Prop :=
  gR σ 0 < 2 ∧ S_X2_hasLink (gR σ 0) x1 σ (fun r3 σ2 => ((¬ r3 = 0 → ((x2 < 1 → J_X7_send_28 Q σ2) ∧ (¬ x2 < 1 → ((x2 ≤ 16 → vp_in x1 8 ∧ ((((gI σ2 40 0 (ix x1)) + x2) ≤ 16 → vp_in x1 8 ∧ vp_in x1 8 ∧ ∀ σ6, σ6 = sI σ2 40 0 (ix x1) ((gI σ2 40 0 (ix x1)) + x2) → vp_in x1 8 ∧ S_X7_answer (gI σ6 40 0 (ix x1)) σ6 (fun r8 σ7 => Q r8 σ7)) ∧ (¬ ((gI σ2 40 0 (ix x1)) + x2) ≤ 16 → S_X7_refuse 3 σ2 (fun r10 σ9 => Q r10 σ9)))) ∧ (¬ x2 ≤ 16 → J_X7_send_28 Q σ2))))) ∧ (r3 = 0 → S_X7_refuse 1 σ2 (fun r12 σ11 => Q r12 σ11))))
set_option maxHeartbeats 2000000 in
set_option maxRecDepth 20000 in
theorem ok_X7_send (l : Launch) (g : Gm) (x1 : Int32) (x2 : Int32) (σ : Hp) (Q : Int32 → Hp → Prop) (h : S_X7_send x1 x2 σ Q) : Ct l g yX7_send cX7_send 3 (some .int) 1 [.ref (gad g 7 0), .int x1, .int x2] σ (QI Q) := by
  refine Ct.of (by decide +kernel) (Nat.le_of_ble_eq_true rfl) ?_
  intro p e R s m args below meth c C
  have C : Cx g p R s m args meth c cX7_send 3 RX7 (some .int) 1 := C
  have j28 : ∀ (σ : Hp), J_X7_send_28 Q σ → G g p l e R s m args below meth c (QI Q) 3 28 [(0, .ref (gad g 7 0))] [] σ := by
    intro σ h
    unfold J_X7_send_28 at h
    refine r_aload_n C dX7_send_28 rfl 0 rfl ?_
    refine r_iconst C dX7_send_29 ic_2 ?_
    refine r_callVi [] C dX7_send_30 w_7_64 (ok_X7_refuse l g _ _ _ h) (Nat.le_of_ble_eq_true rfl) rfl rfl ak_7 (cn_7 (by decide)) rfl rfl (Nat.le_of_ble_eq_true rfl) (fun r5 σ4 h => ?_)
    exact r_ireturn C dX7_send_33 ⟨_, rfl, h⟩
  unfold S_X7_send at h
  show G g p l e R s m args below meth c (QI Q) 3 0 [(0, .ref (gad g 7 0)), (1, .int x1), (2, .int x2)] [] σ
  refine r_aload_n C dX7_send_0 rfl 0 rfl ?_
  refine gf_7_19 C dX7_send_1 (cn_7 (by decide)) ?_
  obtain ⟨hr1, h⟩ := h
  refine r_iload_n C dX7_send_4 rfl 1 rfl ?_
  refine r_callVi [] C dX7_send_5 w_7_136 (ok_X2_hasLink l g _ hr1 _ _ _ h) (Nat.le_of_ble_eq_true rfl) rfl rfl ak_2 (cn_2 hr1) rfl rfl (Nat.le_of_ble_eq_true rfl) (fun r3 σ2 h => ?_)
  refine r_if_ne (tgt := 17) C dX7_send_8 rfl (fun q => ?_) (fun q => ?_)
  · have h := h.1 q
    refine r_iload_n C dX7_send_17 rfl 2 rfl ?_
    refine r_iconst C dX7_send_18 ic_1 ?_
    refine r_icmp_lt (tgt := 28) C dX7_send_19 rfl (fun q => ?_) (fun q => ?_)
    · have h := h.1 q
      refine r_sub [0] rfl ?_
      exact j28 _ h
    · have h := h.2 q
      refine r_iload_n C dX7_send_22 rfl 2 rfl ?_
      refine r_bipush C dX7_send_23 bi_16 ?_
      refine r_icmp_le (tgt := 34) C dX7_send_25 rfl (fun q => ?_) (fun q => ?_)
      · have h := h.1 q
        refine r_aload_n C dX7_send_34 rfl 0 rfl ?_
        refine gf_7_33 C dX7_send_35 (cn_7 (by decide)) ?_
        refine gf_7_176 C dX7_send_38 (cn_5 (by decide)) ?_
        refine r_iload_n C dX7_send_41 rfl 1 rfl ?_
        obtain ⟨h0, h⟩ := h
        refine r_iaload C dX7_send_42 ak_40 (cn_40 (by decide)) al_40 h0 ?_
        refine r_iload_n C dX7_send_43 rfl 2 rfl ?_
        refine r_iadd C dX7_send_44 ?_
        refine r_bipush C dX7_send_45 bi_16 ?_
        refine r_icmp_le (tgt := 56) C dX7_send_47 rfl (fun q => ?_) (fun q => ?_)
        · have h := h.1 q
          refine r_aload_n C dX7_send_56 rfl 0 rfl ?_
          refine gf_7_33 C dX7_send_57 (cn_7 (by decide)) ?_
          refine gf_7_176 C dX7_send_60 (cn_5 (by decide)) ?_
          refine r_iload_n C dX7_send_63 rfl 1 rfl ?_
          refine r_dup2 C dX7_send_64 rfl rfl ?_
          obtain ⟨h0, h⟩ := h
          refine r_iaload C dX7_send_65 ak_40 (cn_40 (by decide)) al_40 h0 ?_
          refine r_iload_n C dX7_send_66 rfl 2 rfl ?_
          refine r_iadd C dX7_send_67 ?_
          obtain ⟨h0, h⟩ := h
          refine r_iastore C dX7_send_68 ak_40 (cn_40 (by decide)) al_40 h0 ?_
          have h := h _ rfl
          refine r_aload_n C dX7_send_69 rfl 0 rfl ?_
          refine r_aload_n C dX7_send_70 rfl 0 rfl ?_
          refine gf_7_33 C dX7_send_71 (cn_7 (by decide)) ?_
          refine gf_7_176 C dX7_send_74 (cn_5 (by decide)) ?_
          refine r_iload_n C dX7_send_77 rfl 1 rfl ?_
          obtain ⟨h0, h⟩ := h
          refine r_iaload C dX7_send_78 ak_40 (cn_40 (by decide)) al_40 h0 ?_
          refine r_callVi [] C dX7_send_79 w_7_100 (ok_X7_answer l g _ _ _ h) (Nat.le_of_ble_eq_true rfl) rfl rfl ak_7 (cn_7 (by decide)) rfl rfl (Nat.le_of_ble_eq_true rfl) (fun r8 σ7 h => ?_)
          exact r_ireturn C dX7_send_82 ⟨_, rfl, h⟩
        · have h := h.2 q
          refine r_aload_n C dX7_send_50 rfl 0 rfl ?_
          refine r_iconst C dX7_send_51 ic_3 ?_
          refine r_callVi [] C dX7_send_52 w_7_64 (ok_X7_refuse l g _ _ _ h) (Nat.le_of_ble_eq_true rfl) rfl rfl ak_7 (cn_7 (by decide)) rfl rfl (Nat.le_of_ble_eq_true rfl) (fun r10 σ9 h => ?_)
          exact r_ireturn C dX7_send_55 ⟨_, rfl, h⟩
      · have h := h.2 q
        refine r_sub [0] rfl ?_
        exact j28 _ h
  · have h := h.2 q
    refine r_aload_n C dX7_send_11 rfl 0 rfl ?_
    refine r_iconst C dX7_send_12 ic_1 ?_
    refine r_callVi [] C dX7_send_13 w_7_64 (ok_X7_refuse l g _ _ _ h) (Nat.le_of_ble_eq_true rfl) rfl rfl ak_7 (cn_7 (by decide)) rfl rfl (Nat.le_of_ble_eq_true rfl) (fun r12 σ11 h => ?_)
    exact r_ireturn C dX7_send_16 ⟨_, rfl, h⟩
def J_X7_babble_28 (Q : Int32 → Hp → Prop) (σ : Hp) : Prop :=
  S_X7_refuse 2 σ (fun r5 σ4 => Q r5 σ4)
def L_X7_babble_39 (Q : Int32 → Hp → Prop) (K66 : Int32 → Hp → Prop) (y1 : Int32) (y2 : Int32) : Nat → Int32 → Int32 → Hp → Prop
  | 0, _, _, _ => False
  | n + 1, y3, y4, σ =>
  ((y2 ≤ y4 → K66 y3 σ) ∧ (¬ y2 ≤ y4 → gR σ 0 < 2 ∧ S_X5_bear 0 (gR σ 0) y1 σ (fun r8 σ7 => L_X7_babble_39 Q K66 y1 y2 n (y3 + r8) (y4 + 1) σ7)))
def S_X7_babble (x1 : Int32) (x2 : Int32) (σ : Hp) (Q : Int32 → Hp → Prop) : Prop :=
  gR σ 0 < 2 ∧ S_X2_hasLink (gR σ 0) x1 σ (fun r3 σ2 => ((¬ r3 = 0 → ((x2 < 1 → J_X7_babble_28 Q σ2) ∧ (¬ x2 < 1 → ((x2 ≤ 20 → (∃ n9, L_X7_babble_39 Q (fun w11 σ10 => S_X7_answer w11 σ10 (fun r13 σ12 => Q r13 σ12)) x1 x2 n9 0 0 σ2)) ∧ (¬ x2 ≤ 20 → J_X7_babble_28 Q σ2))))) ∧ (r3 = 0 → S_X7_refuse 1 σ2 (fun r15 σ14 => Q r15 σ14))))
set_option maxHeartbeats 2000000 in
set_option maxRecDepth 20000 in
theorem ok_X7_babble (l : Launch) (g : Gm) (x1 : Int32) (x2 : Int32) (σ : Hp) (Q : Int32 → Hp → Prop) (h : S_X7_babble x1 x2 σ Q) : Ct l g yX7_babble cX7_babble 5 (some .int) 3 [.ref (gad g 7 0), .int x1, .int x2] σ (QI Q) := by
  refine Ct.of (by decide +kernel) (Nat.le_of_ble_eq_true rfl) ?_
  intro p e R s m args below meth c C
  have C : Cx g p R s m args meth c cX7_babble 5 RX7 (some .int) 3 := C
  have j28 : ∀ (σ : Hp), J_X7_babble_28 Q σ → G g p l e R s m args below meth c (QI Q) 5 28 [(0, .ref (gad g 7 0))] [] σ := by
    intro σ h
    unfold J_X7_babble_28 at h
    refine r_aload_n C dX7_babble_28 rfl 0 rfl ?_
    refine r_iconst C dX7_babble_29 ic_2 ?_
    refine r_callVi [] C dX7_babble_30 w_7_64 (ok_X7_refuse l g _ _ _ h) (Nat.le_of_ble_eq_true rfl) rfl rfl ak_7 (cn_7 (by decide)) rfl rfl (Nat.le_of_ble_eq_true rfl) (fun r5 σ4 h => ?_)
    exact r_ireturn C dX7_babble_33 ⟨_, rfl, h⟩
  have l39 : ∀ (K66 : Int32 → Hp → Prop) (y1 : Int32) (y2 : Int32) (hK66 : ∀ (v3 : Int32) (σ : Hp), K66 v3 σ → G g p l e R s m args below meth c (QI Q) 5 66 [(0, .ref (gad g 7 0)), (3, .int v3)] [] σ) (n : Nat) (y3 : Int32) (y4 : Int32) (σ : Hp), L_X7_babble_39 Q K66 y1 y2 n y3 y4 σ → G g p l e R s m args below meth c (QI Q) 5 39 [(0, .ref (gad g 7 0)), (1, .int y1), (2, .int y2), (3, .int y3), (4, .int y4)] [] σ := by
    intro K66 y1 y2 hK66 n
    induction n with
    | zero => intro y3 y4 σ h; exact False.elim h
    | succ n ih =>
      intro y3 y4 σ h
      unfold L_X7_babble_39 at h
      refine r_iload C dX7_babble_39 4 rfl ?_
      refine r_iload_n C dX7_babble_41 rfl 2 rfl ?_
      refine r_icmp_ge (tgt := 66) C dX7_babble_42 rfl (fun q => ?_) (fun q => ?_)
      · have h := h.1 q
        refine r_sub [0, 3] rfl ?_
        exact hK66 _ _ h
      · have h := h.2 q
        refine r_iload_n C dX7_babble_45 rfl 3 rfl ?_
        refine r_aload_n C dX7_babble_46 rfl 0 rfl ?_
        refine gf_7_33 C dX7_babble_47 (cn_7 (by decide)) ?_
        refine r_aload_n C dX7_babble_50 rfl 0 rfl ?_
        refine gf_7_19 C dX7_babble_51 (cn_7 (by decide)) ?_
        obtain ⟨hr6, h⟩ := h
        refine r_iload_n C dX7_babble_54 rfl 1 rfl ?_
        refine r_callVi [.int _] C dX7_babble_55 w_7_294 (ok_X5_bear l g 0 _ (by decide) hr6 _ _ _ h) (Nat.le_of_ble_eq_true rfl) rfl rfl ak_5 (cn_5 (by decide)) rfl rfl (Nat.le_of_ble_eq_true rfl) (fun r8 σ7 h => ?_)
        refine r_iadd C dX7_babble_58 ?_
        refine r_istore_n C dX7_babble_59 rfl (Nat.le_of_ble_eq_true rfl) rfl ?_
        refine r_iinc (v := y4 + 1) C dX7_babble_60 4 rfl rfl (Nat.le_of_ble_eq_true rfl) rfl ?_
        refine r_goto (tgt := 39) C dX7_babble_63 rfl ?_
        refine r_sub [2, 3, 4, 1, 0] rfl ?_
        exact ih _ _ _ h
  unfold S_X7_babble at h
  show G g p l e R s m args below meth c (QI Q) 5 0 [(0, .ref (gad g 7 0)), (1, .int x1), (2, .int x2)] [] σ
  refine r_aload_n C dX7_babble_0 rfl 0 rfl ?_
  refine gf_7_19 C dX7_babble_1 (cn_7 (by decide)) ?_
  obtain ⟨hr1, h⟩ := h
  refine r_iload_n C dX7_babble_4 rfl 1 rfl ?_
  refine r_callVi [] C dX7_babble_5 w_7_136 (ok_X2_hasLink l g _ hr1 _ _ _ h) (Nat.le_of_ble_eq_true rfl) rfl rfl ak_2 (cn_2 hr1) rfl rfl (Nat.le_of_ble_eq_true rfl) (fun r3 σ2 h => ?_)
  refine r_if_ne (tgt := 17) C dX7_babble_8 rfl (fun q => ?_) (fun q => ?_)
  · have h := h.1 q
    refine r_iload_n C dX7_babble_17 rfl 2 rfl ?_
    refine r_iconst C dX7_babble_18 ic_1 ?_
    refine r_icmp_lt (tgt := 28) C dX7_babble_19 rfl (fun q => ?_) (fun q => ?_)
    · have h := h.1 q
      refine r_sub [0] rfl ?_
      exact j28 _ h
    · have h := h.2 q
      refine r_iload_n C dX7_babble_22 rfl 2 rfl ?_
      refine r_bipush C dX7_babble_23 bi_20 ?_
      refine r_icmp_le (tgt := 34) C dX7_babble_25 rfl (fun q => ?_) (fun q => ?_)
      · have h := h.1 q
        refine r_iconst C dX7_babble_34 ic_0 ?_
        refine r_istore_n C dX7_babble_35 rfl (Nat.le_of_ble_eq_true rfl) rfl ?_
        refine r_iconst C dX7_babble_36 ic_0 ?_
        refine r_istore C dX7_babble_37 (Nat.le_of_ble_eq_true rfl) rfl ?_
        refine r_sub [2, 3, 4, 1, 0] rfl ?_
        obtain ⟨n9, h⟩ := h
        refine l39 _ _ _ (fun w11 σ10 h => ?_) n9 _ _ _ h
        refine r_aload_n C dX7_babble_66 rfl 0 rfl ?_
        refine r_iload_n C dX7_babble_67 rfl 1 rfl ?_
        refine r_callVi [] C dX7_babble_68 w_7_100 (ok_X7_answer l g _ _ _ h) (Nat.le_of_ble_eq_true rfl) rfl rfl ak_7 (cn_7 (by decide)) rfl rfl (Nat.le_of_ble_eq_true rfl) (fun r13 σ12 h => ?_)
        exact r_ireturn C dX7_babble_71 ⟨_, rfl, h⟩
      · have h := h.2 q
        refine r_sub [0] rfl ?_
        exact j28 _ h
  · have h := h.2 q
    refine r_aload_n C dX7_babble_11 rfl 0 rfl ?_
    refine r_iconst C dX7_babble_12 ic_1 ?_
    refine r_callVi [] C dX7_babble_13 w_7_64 (ok_X7_refuse l g _ _ _ h) (Nat.le_of_ble_eq_true rfl) rfl rfl ak_7 (cn_7 (by decide)) rfl rfl (Nat.le_of_ble_eq_true rfl) (fun r15 σ14 h => ?_)
    exact r_ireturn C dX7_babble_16 ⟨_, rfl, h⟩
def J_X7_down_14 (Q : Int32 → Hp → Prop) (σ : Hp) : Prop :=
  S_X7_refuse 1 σ (fun r4 σ3 => Q r4 σ3)
def J_X7_down_35 (Q : Int32 → Hp → Prop) (y1 : Int32) (y2 : Int32) (σ : Hp) : Prop :=
  vp_in y1 2 ∧ vp_in y1 2 ∧ ∀ σ7, σ7 = sI σ 38 0 (ix y1) y2 → S_X7_answer (gI σ 38 0 (ix y1)) σ7 (fun r9 σ8 => Q r9 σ8)
def S_X7_down (x1 : Int32) (x2 : Int32) (σ : Hp) (Q : Int32 → Hp → Prop) : Prop :=
  S_X7_noBus σ (fun r2 σ1 => ((¬ r2 = 0 → J_X7_down_14 Q σ1) ∧ (r2 = 0 → S_X7_hasNet x1 σ1 (fun r6 σ5 => ((¬ r6 = 0 → ((x2 = 0 → J_X7_down_35 Q x1 x2 σ5) ∧ (¬ x2 = 0 → ((x2 = 1 → J_X7_down_35 Q x1 x2 σ5) ∧ (¬ x2 = 1 → S_X7_refuse 2 σ5 (fun r11 σ10 => Q r11 σ10)))))) ∧ (r6 = 0 → J_X7_down_14 Q σ5))))))
set_option maxHeartbeats 2000000 in
set_option maxRecDepth 20000 in
theorem ok_X7_down (l : Launch) (g : Gm) (x1 : Int32) (x2 : Int32) (σ : Hp) (Q : Int32 → Hp → Prop) (h : S_X7_down x1 x2 σ Q) : Ct l g yX7_down cX7_down 4 (some .int) 1 [.ref (gad g 7 0), .int x1, .int x2] σ (QI Q) := by
  refine Ct.of (by decide +kernel) (Nat.le_of_ble_eq_true rfl) ?_
  intro p e R s m args below meth c C
  have C : Cx g p R s m args meth c cX7_down 4 RX7 (some .int) 1 := C
  have j14 : ∀ (σ : Hp), J_X7_down_14 Q σ → G g p l e R s m args below meth c (QI Q) 4 14 [(0, .ref (gad g 7 0))] [] σ := by
    intro σ h
    unfold J_X7_down_14 at h
    refine r_aload_n C dX7_down_14 rfl 0 rfl ?_
    refine r_iconst C dX7_down_15 ic_1 ?_
    refine r_callVi [] C dX7_down_16 w_7_64 (ok_X7_refuse l g _ _ _ h) (Nat.le_of_ble_eq_true rfl) rfl rfl ak_7 (cn_7 (by decide)) rfl rfl (Nat.le_of_ble_eq_true rfl) (fun r4 σ3 h => ?_)
    exact r_ireturn C dX7_down_19 ⟨_, rfl, h⟩
  have j35 : ∀ (y1 : Int32) (y2 : Int32) (σ : Hp), J_X7_down_35 Q y1 y2 σ → G g p l e R s m args below meth c (QI Q) 4 35 [(0, .ref (gad g 7 0)), (1, .int y1), (2, .int y2)] [] σ := by
    intro y1 y2 σ h
    unfold J_X7_down_35 at h
    refine r_aload_n C dX7_down_35 rfl 0 rfl ?_
    refine gf_7_33 C dX7_down_36 (cn_7 (by decide)) ?_
    refine gf_7_297 C dX7_down_39 (cn_5 (by decide)) ?_
    refine r_iload_n C dX7_down_42 rfl 1 rfl ?_
    obtain ⟨h0, h⟩ := h
    refine r_iaload C dX7_down_43 ak_38 (cn_38 (by decide)) al_38 h0 ?_
    refine r_istore_n C dX7_down_44 rfl (Nat.le_of_ble_eq_true rfl) rfl ?_
    refine r_aload_n C dX7_down_45 rfl 1 rfl ?_
    refine gf_7_33 C dX7_down_46 (cn_7 (by decide)) ?_
    refine gf_7_297 C dX7_down_49 (cn_5 (by decide)) ?_
    refine r_iload_n C dX7_down_52 rfl 2 rfl ?_
    refine r_iload_n C dX7_down_53 rfl 3 rfl ?_
    obtain ⟨h0, h⟩ := h
    refine r_iastore C dX7_down_54 ak_38 (cn_38 (by decide)) al_38 h0 ?_
    have h := h _ rfl
    refine r_aload_n C dX7_down_55 rfl 1 rfl ?_
    refine r_iload_n C dX7_down_56 rfl 0 rfl ?_
    refine r_callVi [] C dX7_down_57 w_7_100 (ok_X7_answer l g _ _ _ h) (Nat.le_of_ble_eq_true rfl) rfl rfl ak_7 (cn_7 (by decide)) rfl rfl (Nat.le_of_ble_eq_true rfl) (fun r9 σ8 h => ?_)
    exact r_ireturn C dX7_down_60 ⟨_, rfl, h⟩
  unfold S_X7_down at h
  show G g p l e R s m args below meth c (QI Q) 4 0 [(0, .ref (gad g 7 0)), (1, .int x1), (2, .int x2)] [] σ
  refine r_aload_n C dX7_down_0 rfl 0 rfl ?_
  refine r_callVi [] C dX7_down_1 w_7_103 (ok_X7_noBus l g _ _ h) (Nat.le_of_ble_eq_true rfl) rfl rfl ak_7 (cn_7 (by decide)) rfl rfl (Nat.le_of_ble_eq_true rfl) (fun r2 σ1 h => ?_)
  refine r_if_ne (tgt := 14) C dX7_down_4 rfl (fun q => ?_) (fun q => ?_)
  · have h := h.1 q
    refine r_sub [0] rfl ?_
    exact j14 _ h
  · have h := h.2 q
    refine r_iload_n C dX7_down_7 rfl 1 rfl ?_
    refine r_callSi [] C dX7_down_8 w_7_191 (ok_X7_hasNet l g _ _ _ h) (Nat.le_of_ble_eq_true rfl) rfl rfl (Nat.le_of_ble_eq_true rfl) (fun r6 σ5 h => ?_)
    refine r_if_ne (tgt := 20) C dX7_down_11 rfl (fun q => ?_) (fun q => ?_)
    · have h := h.1 q
      refine r_iload_n C dX7_down_20 rfl 2 rfl ?_
      refine r_if_eq (tgt := 35) C dX7_down_21 rfl (fun q => ?_) (fun q => ?_)
      · have h := h.1 q
        exact j35 _ _ _ h
      · have h := h.2 q
        refine r_iload_n C dX7_down_24 rfl 2 rfl ?_
        refine r_iconst C dX7_down_25 ic_1 ?_
        refine r_icmp_eq (tgt := 35) C dX7_down_26 rfl (fun q => ?_) (fun q => ?_)
        · have h := h.1 q
          exact j35 _ _ _ h
        · have h := h.2 q
          refine r_aload_n C dX7_down_29 rfl 0 rfl ?_
          refine r_iconst C dX7_down_30 ic_2 ?_
          refine r_callVi [] C dX7_down_31 w_7_64 (ok_X7_refuse l g _ _ _ h) (Nat.le_of_ble_eq_true rfl) rfl rfl ak_7 (cn_7 (by decide)) rfl rfl (Nat.le_of_ble_eq_true rfl) (fun r11 σ10 h => ?_)
          exact r_ireturn C dX7_down_34 ⟨_, rfl, h⟩
    · have h := h.2 q
      refine r_sub [0] rfl ?_
      exact j14 _ h
def S_X7_anew (x1 : Int32) (σ : Hp) (Q : Int32 → Hp → Prop) : Prop :=
  gR σ 0 < 2 ∧ S_X2_hasEnd (gR σ 0) x1 σ (fun r3 σ2 => ((¬ r3 = 0 → gR σ2 0 < 2 ∧ S_X5_beginAnew 0 (gR σ2 0) x1 σ2 (fun r6 σ5 => S_X7_answer r6 σ5 (fun r8 σ7 => Q r8 σ7))) ∧ (r3 = 0 → S_X7_refuse 1 σ2 (fun r10 σ9 => Q r10 σ9))))
set_option maxHeartbeats 2000000 in
set_option maxRecDepth 20000 in
theorem ok_X7_anew (l : Launch) (g : Gm) (x1 : Int32) (σ : Hp) (Q : Int32 → Hp → Prop) (h : S_X7_anew x1 σ Q) : Ct l g yX7_anew cX7_anew 2 (some .int) 1 [.ref (gad g 7 0), .int x1] σ (QI Q) := by
  refine Ct.of (by decide +kernel) (Nat.le_of_ble_eq_true rfl) ?_
  intro p e R s m args below meth c C
  have C : Cx g p R s m args meth c cX7_anew 2 RX7 (some .int) 1 := C
  unfold S_X7_anew at h
  show G g p l e R s m args below meth c (QI Q) 2 0 [(0, .ref (gad g 7 0)), (1, .int x1)] [] σ
  refine r_aload_n C dX7_anew_0 rfl 0 rfl ?_
  refine gf_7_19 C dX7_anew_1 (cn_7 (by decide)) ?_
  obtain ⟨hr1, h⟩ := h
  refine r_iload_n C dX7_anew_4 rfl 1 rfl ?_
  refine r_callVi [] C dX7_anew_5 w_7_128 (ok_X2_hasEnd l g _ hr1 _ _ _ h) (Nat.le_of_ble_eq_true rfl) rfl rfl ak_2 (cn_2 hr1) rfl rfl (Nat.le_of_ble_eq_true rfl) (fun r3 σ2 h => ?_)
  refine r_if_ne (tgt := 17) C dX7_anew_8 rfl (fun q => ?_) (fun q => ?_)
  · have h := h.1 q
    refine r_aload_n C dX7_anew_17 rfl 0 rfl ?_
    refine r_aload_n C dX7_anew_18 rfl 0 rfl ?_
    refine gf_7_33 C dX7_anew_19 (cn_7 (by decide)) ?_
    refine r_aload_n C dX7_anew_22 rfl 0 rfl ?_
    refine gf_7_19 C dX7_anew_23 (cn_7 (by decide)) ?_
    obtain ⟨hr4, h⟩ := h
    refine r_iload_n C dX7_anew_26 rfl 1 rfl ?_
    refine r_callVi [.ref (gad g 7 0)] C dX7_anew_27 w_7_300 (ok_X5_beginAnew l g 0 _ (by decide) hr4 _ _ _ h) (Nat.le_of_ble_eq_true rfl) rfl rfl ak_5 (cn_5 (by decide)) rfl rfl (Nat.le_of_ble_eq_true rfl) (fun r6 σ5 h => ?_)
    refine r_callVi [] C dX7_anew_30 w_7_100 (ok_X7_answer l g _ _ _ h) (Nat.le_of_ble_eq_true rfl) rfl rfl ak_7 (cn_7 (by decide)) rfl rfl (Nat.le_of_ble_eq_true rfl) (fun r8 σ7 h => ?_)
    exact r_ireturn C dX7_anew_33 ⟨_, rfl, h⟩
  · have h := h.2 q
    refine r_aload_n C dX7_anew_11 rfl 0 rfl ?_
    refine r_iconst C dX7_anew_12 ic_1 ?_
    refine r_callVi [] C dX7_anew_13 w_7_64 (ok_X7_refuse l g _ _ _ h) (Nat.le_of_ble_eq_true rfl) rfl rfl ak_7 (cn_7 (by decide)) rfl rfl (Nat.le_of_ble_eq_true rfl) (fun r10 σ9 h => ?_)
    exact r_ireturn C dX7_anew_16 ⟨_, rfl, h⟩
def S_X7_isTicks (x0 : Int32) (σ : Hp) (Q : Int32 → Hp → Prop) : Prop :=
  ((x0 < 1 → Q 0 σ) ∧ (¬ x0 < 1 → (((600 : Int32) < x0 → Q 0 σ) ∧ (¬ (600 : Int32) < x0 → Q 1 σ))))
set_option maxHeartbeats 2000000 in
set_option maxRecDepth 20000 in
theorem ok_X7_isTicks (l : Launch) (g : Gm) (x0 : Int32) (σ : Hp) (Q : Int32 → Hp → Prop) (h : S_X7_isTicks x0 σ Q) : Ct l g yX7_isTicks cX7_isTicks 1 (some .boolean) 0 [.int x0] σ (QI Q) := by
  refine Ct.of (by decide +kernel) (Nat.le_of_ble_eq_true rfl) ?_
  intro p e R s m args below meth c C
  have C : Cx g p R s m args meth c cX7_isTicks 1 RX7 (some .boolean) 0 := C
  unfold S_X7_isTicks at h
  show G g p l e R s m args below meth c (QI Q) 1 0 [(0, .int x0)] [] σ
  refine r_iload_n C dX7_isTicks_0 rfl 0 rfl ?_
  refine r_iconst C dX7_isTicks_1 ic_1 ?_
  refine r_icmp_lt (tgt := 16) C dX7_isTicks_2 rfl (fun q => ?_) (fun q => ?_)
  · have h := h.1 q
    refine r_iconst C dX7_isTicks_16 ic_0 ?_
    exact r_zreturn C dX7_isTicks_17 zb0.1 ⟨_, rfl, h⟩
  · have h := h.2 q
    refine r_iload_n C dX7_isTicks_5 rfl 0 rfl ?_
    refine r_sipush C dX7_isTicks_6 si_600 ?_
    refine r_icmp_gt (tgt := 16) C dX7_isTicks_9 rfl (fun q => ?_) (fun q => ?_)
    · have h := h.1 q
      refine r_iconst C dX7_isTicks_16 ic_0 ?_
      exact r_zreturn C dX7_isTicks_17 zb0.1 ⟨_, rfl, h⟩
    · have h := h.2 q
      refine r_iconst C dX7_isTicks_12 ic_1 ?_
      refine r_goto (tgt := 17) C dX7_isTicks_13 rfl ?_
      exact r_zreturn C dX7_isTicks_17 zb1.1 ⟨_, rfl, h⟩
def S_X7_ticks (x1 : Int32) (σ : Hp) (Q : Int32 → Hp → Prop) : Prop :=
  S_X7_noBus σ (fun r2 σ1 => ((r2 = 0 → S_X7_isTicks x1 σ1 (fun r4 σ3 => ((¬ r4 = 0 → gR σ3 0 < 2 ∧ S_X5_advance 0 (gR σ3 0) x1 σ3 (fun σ6 => S_X7_answer ((gI σ6 0 0 0) - (gI σ3 0 0 0)) σ6 (fun r8 σ7 => Q r8 σ7))) ∧ (r4 = 0 → S_X7_refuse 2 σ3 (fun r10 σ9 => Q r10 σ9))))) ∧ (¬ r2 = 0 → S_X7_refuse 1 σ1 (fun r12 σ11 => Q r12 σ11))))
set_option maxHeartbeats 2000000 in
set_option maxRecDepth 20000 in
theorem ok_X7_ticks (l : Launch) (g : Gm) (x1 : Int32) (σ : Hp) (Q : Int32 → Hp → Prop) (h : S_X7_ticks x1 σ Q) : Ct l g yX7_ticks cX7_ticks 3 (some .int) 7 [.ref (gad g 7 0), .int x1] σ (QI Q) := by
  refine Ct.of (by decide +kernel) (Nat.le_of_ble_eq_true rfl) ?_
  intro p e R s m args below meth c C
  have C : Cx g p R s m args meth c cX7_ticks 3 RX7 (some .int) 7 := C
  unfold S_X7_ticks at h
  show G g p l e R s m args below meth c (QI Q) 3 0 [(0, .ref (gad g 7 0)), (1, .int x1)] [] σ
  refine r_aload_n C dX7_ticks_0 rfl 0 rfl ?_
  refine r_callVi [] C dX7_ticks_1 w_7_103 (ok_X7_noBus l g _ _ h) (Nat.le_of_ble_eq_true rfl) rfl rfl ak_7 (cn_7 (by decide)) rfl rfl (Nat.le_of_ble_eq_true rfl) (fun r2 σ1 h => ?_)
  refine r_if_eq (tgt := 13) C dX7_ticks_4 rfl (fun q => ?_) (fun q => ?_)
  · have h := h.1 q
    refine r_iload_n C dX7_ticks_13 rfl 1 rfl ?_
    refine r_callSi [] C dX7_ticks_14 w_7_303 (ok_X7_isTicks l g _ _ _ h) (Nat.le_of_ble_eq_true rfl) rfl rfl (Nat.le_of_ble_eq_true rfl) (fun r4 σ3 h => ?_)
    refine r_if_ne (tgt := 26) C dX7_ticks_17 rfl (fun q => ?_) (fun q => ?_)
    · have h := h.1 q
      refine r_aload_n C dX7_ticks_26 rfl 0 rfl ?_
      refine gf_7_33 C dX7_ticks_27 (cn_7 (by decide)) ?_
      refine gf_7_240 C dX7_ticks_30 (cn_5 (by decide)) ?_
      refine gf_7_306 C dX7_ticks_33 (cn_0 (by decide)) ?_
      refine r_istore_n C dX7_ticks_36 rfl (Nat.le_of_ble_eq_true rfl) rfl ?_
      refine r_aload_n C dX7_ticks_37 rfl 1 rfl ?_
      refine gf_7_33 C dX7_ticks_38 (cn_7 (by decide)) ?_
      refine r_aload_n C dX7_ticks_41 rfl 1 rfl ?_
      refine gf_7_19 C dX7_ticks_42 (cn_7 (by decide)) ?_
      obtain ⟨hr5, h⟩ := h
      refine r_iload_n C dX7_ticks_45 rfl 2 rfl ?_
      refine r_callVv [] C dX7_ticks_46 w_7_309 (ok_X5_advance l g 0 _ (by decide) hr5 _ _ _ h) (Nat.le_of_ble_eq_true rfl) rfl rfl ak_5 (cn_5 (by decide)) rfl rfl (Nat.le_of_ble_eq_true rfl) (fun σ6 h => ?_)
      refine r_aload_n C dX7_ticks_49 rfl 1 rfl ?_
      refine r_aload_n C dX7_ticks_50 rfl 1 rfl ?_
      refine gf_7_33 C dX7_ticks_51 (cn_7 (by decide)) ?_
      refine gf_7_240 C dX7_ticks_54 (cn_5 (by decide)) ?_
      refine gf_7_306 C dX7_ticks_57 (cn_0 (by decide)) ?_
      refine r_iload_n C dX7_ticks_60 rfl 0 rfl ?_
      refine r_isub C dX7_ticks_61 ?_
      refine r_callVi [] C dX7_ticks_62 w_7_100 (ok_X7_answer l g _ _ _ h) (Nat.le_of_ble_eq_true rfl) rfl rfl ak_7 (cn_7 (by decide)) rfl rfl (Nat.le_of_ble_eq_true rfl) (fun r8 σ7 h => ?_)
      exact r_ireturn C dX7_ticks_65 ⟨_, rfl, h⟩
    · have h := h.2 q
      refine r_aload_n C dX7_ticks_20 rfl 0 rfl ?_
      refine r_iconst C dX7_ticks_21 ic_2 ?_
      refine r_callVi [] C dX7_ticks_22 w_7_64 (ok_X7_refuse l g _ _ _ h) (Nat.le_of_ble_eq_true rfl) rfl rfl ak_7 (cn_7 (by decide)) rfl rfl (Nat.le_of_ble_eq_true rfl) (fun r10 σ9 h => ?_)
      exact r_ireturn C dX7_ticks_25 ⟨_, rfl, h⟩
  · have h := h.2 q
    refine r_aload_n C dX7_ticks_7 rfl 0 rfl ?_
    refine r_iconst C dX7_ticks_8 ic_1 ?_
    refine r_callVi [] C dX7_ticks_9 w_7_64 (ok_X7_refuse l g _ _ _ h) (Nat.le_of_ble_eq_true rfl) rfl rfl ak_7 (cn_7 (by decide)) rfl rfl (Nat.le_of_ble_eq_true rfl) (fun r12 σ11 h => ?_)
    exact r_ireturn C dX7_ticks_12 ⟨_, rfl, h⟩
def J_X7_willHear_20 (Q : Int32 → Hp → Prop) (σ : Hp) : Prop :=
  S_X7_refuse 1 σ (fun r5 σ4 => Q r5 σ4)
def S_X7_willHear (x1 : Int32) (x2 : Int32) (x3 : Int32) (x4 : Int32) (σ : Hp) (Q : Int32 → Hp → Prop) : Prop :=
  gR σ 0 < 2 ∧ S_X2_hasReceiver (gR σ 0) x2 x3 σ (fun r3 σ2 => ((r3 = 0 → J_X7_willHear_20 Q σ2) ∧ (¬ r3 = 0 → S_X0_tells x4 σ2 (fun r7 σ6 => ((¬ r7 = 0 → S_X7_isTicks x1 σ6 (fun r9 σ8 => ((¬ r9 = 0 → S_X5_copy 2 0 σ8 (fun σ10 => gR σ10 0 < 2 ∧ S_X5_advance 2 (gR σ10 0) x1 σ10 (fun σ12 => S_X7_earOf x2 x3 σ12 (fun r14 σ13 => S_X0_told 2 r14 x4 σ13 (fun r16 σ15 => S_X7_answer r16 σ15 (fun r18 σ17 => Q r18 σ17)))))) ∧ (r9 = 0 → S_X7_refuse 2 σ8 (fun r20 σ19 => Q r20 σ19))))) ∧ (r7 = 0 → J_X7_willHear_20 Q σ6))))))
set_option maxHeartbeats 2000000 in
set_option maxRecDepth 20000 in
theorem ok_X7_willHear (l : Launch) (g : Gm) (x1 : Int32) (x2 : Int32) (x3 : Int32) (x4 : Int32) (σ : Hp) (Q : Int32 → Hp → Prop) (h : S_X7_willHear x1 x2 x3 x4 σ Q) : Ct l g yX7_willHear cX7_willHear 5 (some .int) 7 [.ref (gad g 7 0), .int x1, .int x2, .int x3, .int x4] σ (QI Q) := by
  refine Ct.of (by decide +kernel) (Nat.le_of_ble_eq_true rfl) ?_
  intro p e R s m args below meth c C
  have C : Cx g p R s m args meth c cX7_willHear 5 RX7 (some .int) 7 := C
  have j20 : ∀ (σ : Hp), J_X7_willHear_20 Q σ → G g p l e R s m args below meth c (QI Q) 5 20 [(0, .ref (gad g 7 0))] [] σ := by
    intro σ h
    unfold J_X7_willHear_20 at h
    refine r_aload_n C dX7_willHear_20 rfl 0 rfl ?_
    refine r_iconst C dX7_willHear_21 ic_1 ?_
    refine r_callVi [] C dX7_willHear_22 w_7_64 (ok_X7_refuse l g _ _ _ h) (Nat.le_of_ble_eq_true rfl) rfl rfl ak_7 (cn_7 (by decide)) rfl rfl (Nat.le_of_ble_eq_true rfl) (fun r5 σ4 h => ?_)
    exact r_ireturn C dX7_willHear_25 ⟨_, rfl, h⟩
  unfold S_X7_willHear at h
  show G g p l e R s m args below meth c (QI Q) 5 0 [(0, .ref (gad g 7 0)), (1, .int x1), (2, .int x2), (3, .int x3), (4, .int x4)] [] σ
  refine r_aload_n C dX7_willHear_0 rfl 0 rfl ?_
  refine gf_7_19 C dX7_willHear_1 (cn_7 (by decide)) ?_
  obtain ⟨hr1, h⟩ := h
  refine r_iload_n C dX7_willHear_4 rfl 2 rfl ?_
  refine r_iload_n C dX7_willHear_5 rfl 3 rfl ?_
  refine r_callVi [] C dX7_willHear_6 w_7_151 (ok_X2_hasReceiver l g _ hr1 _ _ _ _ h) (Nat.le_of_ble_eq_true rfl) rfl rfl ak_2 (cn_2 hr1) rfl rfl (Nat.le_of_ble_eq_true rfl) (fun r3 σ2 h => ?_)
  refine r_if_eq (tgt := 20) C dX7_willHear_9 rfl (fun q => ?_) (fun q => ?_)
  · have h := h.1 q
    refine r_sub [0] rfl ?_
    exact j20 _ h
  · have h := h.2 q
    refine r_iload C dX7_willHear_12 4 rfl ?_
    refine r_callSi [] C dX7_willHear_14 w_7_235 (ok_X0_tells l g _ _ _ h) (Nat.le_of_ble_eq_true rfl) rfl rfl (Nat.le_of_ble_eq_true rfl) (fun r7 σ6 h => ?_)
    refine r_if_ne (tgt := 26) C dX7_willHear_17 rfl (fun q => ?_) (fun q => ?_)
    · have h := h.1 q
      refine r_iload_n C dX7_willHear_26 rfl 1 rfl ?_
      refine r_callSi [] C dX7_willHear_27 w_7_303 (ok_X7_isTicks l g _ _ _ h) (Nat.le_of_ble_eq_true rfl) rfl rfl (Nat.le_of_ble_eq_true rfl) (fun r9 σ8 h => ?_)
      refine r_if_ne (tgt := 39) C dX7_willHear_30 rfl (fun q => ?_) (fun q => ?_)
      · have h := h.1 q
        refine r_aload_n C dX7_willHear_39 rfl 0 rfl ?_
        refine gf_7_40 C dX7_willHear_40 (cn_7 (by decide)) ?_
        refine r_aload_n C dX7_willHear_43 rfl 0 rfl ?_
        refine gf_7_33 C dX7_willHear_44 (cn_7 (by decide)) ?_
        refine r_callVv [] C dX7_willHear_47 w_7_313 (ok_X5_copy l g 2 0 (by decide) (by decide) _ _ h) (Nat.le_of_ble_eq_true rfl) rfl rfl ak_5 (cn_5 (by decide)) rfl rfl (Nat.le_of_ble_eq_true rfl) (fun σ10 h => ?_)
        refine r_aload_n C dX7_willHear_50 rfl 0 rfl ?_
        refine gf_7_40 C dX7_willHear_51 (cn_7 (by decide)) ?_
        refine r_aload_n C dX7_willHear_54 rfl 0 rfl ?_
        refine gf_7_19 C dX7_willHear_55 (cn_7 (by decide)) ?_
        obtain ⟨hr11, h⟩ := h
        refine r_iload_n C dX7_willHear_58 rfl 1 rfl ?_
        refine r_callVv [] C dX7_willHear_59 w_7_309 (ok_X5_advance l g 2 _ (by decide) hr11 _ _ _ h) (Nat.le_of_ble_eq_true rfl) rfl rfl ak_5 (cn_5 (by decide)) rfl rfl (Nat.le_of_ble_eq_true rfl) (fun σ12 h => ?_)
        refine r_aload_n C dX7_willHear_62 rfl 0 rfl ?_
        refine r_aload_n C dX7_willHear_63 rfl 0 rfl ?_
        refine gf_7_40 C dX7_willHear_64 (cn_7 (by decide)) ?_
        refine gf_7_240 C dX7_willHear_67 (cn_5 (by decide)) ?_
        refine r_iload_n C dX7_willHear_70 rfl 2 rfl ?_
        refine r_iload_n C dX7_willHear_71 rfl 3 rfl ?_
        refine r_callSi [.ref (gad g 0 2), .ref (gad g 7 0)] C dX7_willHear_72 w_7_158 (ok_X7_earOf l g _ _ _ _ h) (Nat.le_of_ble_eq_true rfl) rfl rfl (Nat.le_of_ble_eq_true rfl) (fun r14 σ13 h => ?_)
        refine r_iload C dX7_willHear_75 4 rfl ?_
        refine r_callVi [.ref (gad g 7 0)] C dX7_willHear_77 w_7_244 (ok_X0_told l g 2 (by decide) _ _ _ _ h) (Nat.le_of_ble_eq_true rfl) rfl rfl ak_0 (cn_0 (by decide)) rfl rfl (Nat.le_of_ble_eq_true rfl) (fun r16 σ15 h => ?_)
        refine r_callVi [] C dX7_willHear_80 w_7_100 (ok_X7_answer l g _ _ _ h) (Nat.le_of_ble_eq_true rfl) rfl rfl ak_7 (cn_7 (by decide)) rfl rfl (Nat.le_of_ble_eq_true rfl) (fun r18 σ17 h => ?_)
        exact r_ireturn C dX7_willHear_83 ⟨_, rfl, h⟩
      · have h := h.2 q
        refine r_aload_n C dX7_willHear_33 rfl 0 rfl ?_
        refine r_iconst C dX7_willHear_34 ic_2 ?_
        refine r_callVi [] C dX7_willHear_35 w_7_64 (ok_X7_refuse l g _ _ _ h) (Nat.le_of_ble_eq_true rfl) rfl rfl ak_7 (cn_7 (by decide)) rfl rfl (Nat.le_of_ble_eq_true rfl) (fun r20 σ19 h => ?_)
        exact r_ireturn C dX7_willHear_38 ⟨_, rfl, h⟩
    · have h := h.2 q
      refine r_sub [0] rfl ?_
      exact j20 _ h
def J_X7_willLose_21 (Q : Int32 → Hp → Prop) (σ : Hp) : Prop :=
  S_X7_refuse 1 σ (fun r4 σ3 => Q r4 σ3)
def S_X7_willLose (x1 : Int32) (x2 : Int32) (x3 : Int32) (σ : Hp) (Q : Int32 → Hp → Prop) : Prop :=
  S_X7_noBus σ (fun r2 σ1 => ((¬ r2 = 0 → J_X7_willLose_21 Q σ1) ∧ (r2 = 0 → S_X7_hasNet x2 σ1 (fun r6 σ5 => ((r6 = 0 → J_X7_willLose_21 Q σ5) ∧ (¬ r6 = 0 → S_X7_isLostSort x3 σ5 (fun r8 σ7 => ((¬ r8 = 0 → S_X7_isTicks x1 σ7 (fun r10 σ9 => ((¬ r10 = 0 → S_X5_copy 2 0 σ9 (fun σ11 => gR σ11 0 < 2 ∧ S_X5_advance 2 (gR σ11 0) x1 σ11 (fun σ13 => vp_in ((x2 * 3) + x3) 6 ∧ S_X7_answer (gI σ13 39 2 (ix ((x2 * 3) + x3))) σ13 (fun r15 σ14 => Q r15 σ14)))) ∧ (r10 = 0 → S_X7_refuse 2 σ9 (fun r17 σ16 => Q r17 σ16))))) ∧ (r8 = 0 → J_X7_willLose_21 Q σ7)))))))))
set_option maxHeartbeats 2000000 in
set_option maxRecDepth 20000 in
theorem ok_X7_willLose (l : Launch) (g : Gm) (x1 : Int32) (x2 : Int32) (x3 : Int32) (σ : Hp) (Q : Int32 → Hp → Prop) (h : S_X7_willLose x1 x2 x3 σ Q) : Ct l g yX7_willLose cX7_willLose 4 (some .int) 7 [.ref (gad g 7 0), .int x1, .int x2, .int x3] σ (QI Q) := by
  refine Ct.of (by decide +kernel) (Nat.le_of_ble_eq_true rfl) ?_
  intro p e R s m args below meth c C
  have C : Cx g p R s m args meth c cX7_willLose 4 RX7 (some .int) 7 := C
  have j21 : ∀ (σ : Hp), J_X7_willLose_21 Q σ → G g p l e R s m args below meth c (QI Q) 4 21 [(0, .ref (gad g 7 0))] [] σ := by
    intro σ h
    unfold J_X7_willLose_21 at h
    refine r_aload_n C dX7_willLose_21 rfl 0 rfl ?_
    refine r_iconst C dX7_willLose_22 ic_1 ?_
    refine r_callVi [] C dX7_willLose_23 w_7_64 (ok_X7_refuse l g _ _ _ h) (Nat.le_of_ble_eq_true rfl) rfl rfl ak_7 (cn_7 (by decide)) rfl rfl (Nat.le_of_ble_eq_true rfl) (fun r4 σ3 h => ?_)
    exact r_ireturn C dX7_willLose_26 ⟨_, rfl, h⟩
  unfold S_X7_willLose at h
  show G g p l e R s m args below meth c (QI Q) 4 0 [(0, .ref (gad g 7 0)), (1, .int x1), (2, .int x2), (3, .int x3)] [] σ
  refine r_aload_n C dX7_willLose_0 rfl 0 rfl ?_
  refine r_callVi [] C dX7_willLose_1 w_7_103 (ok_X7_noBus l g _ _ h) (Nat.le_of_ble_eq_true rfl) rfl rfl ak_7 (cn_7 (by decide)) rfl rfl (Nat.le_of_ble_eq_true rfl) (fun r2 σ1 h => ?_)
  refine r_if_ne (tgt := 21) C dX7_willLose_4 rfl (fun q => ?_) (fun q => ?_)
  · have h := h.1 q
    refine r_sub [0] rfl ?_
    exact j21 _ h
  · have h := h.2 q
    refine r_iload_n C dX7_willLose_7 rfl 2 rfl ?_
    refine r_callSi [] C dX7_willLose_8 w_7_191 (ok_X7_hasNet l g _ _ _ h) (Nat.le_of_ble_eq_true rfl) rfl rfl (Nat.le_of_ble_eq_true rfl) (fun r6 σ5 h => ?_)
    refine r_if_eq (tgt := 21) C dX7_willLose_11 rfl (fun q => ?_) (fun q => ?_)
    · have h := h.1 q
      refine r_sub [0] rfl ?_
      exact j21 _ h
    · have h := h.2 q
      refine r_iload_n C dX7_willLose_14 rfl 3 rfl ?_
      refine r_callSi [] C dX7_willLose_15 w_7_226 (ok_X7_isLostSort l g _ _ _ h) (Nat.le_of_ble_eq_true rfl) rfl rfl (Nat.le_of_ble_eq_true rfl) (fun r8 σ7 h => ?_)
      refine r_if_ne (tgt := 27) C dX7_willLose_18 rfl (fun q => ?_) (fun q => ?_)
      · have h := h.1 q
        refine r_iload_n C dX7_willLose_27 rfl 1 rfl ?_
        refine r_callSi [] C dX7_willLose_28 w_7_303 (ok_X7_isTicks l g _ _ _ h) (Nat.le_of_ble_eq_true rfl) rfl rfl (Nat.le_of_ble_eq_true rfl) (fun r10 σ9 h => ?_)
        refine r_if_ne (tgt := 40) C dX7_willLose_31 rfl (fun q => ?_) (fun q => ?_)
        · have h := h.1 q
          refine r_aload_n C dX7_willLose_40 rfl 0 rfl ?_
          refine gf_7_40 C dX7_willLose_41 (cn_7 (by decide)) ?_
          refine r_aload_n C dX7_willLose_44 rfl 0 rfl ?_
          refine gf_7_33 C dX7_willLose_45 (cn_7 (by decide)) ?_
          refine r_callVv [] C dX7_willLose_48 w_7_313 (ok_X5_copy l g 2 0 (by decide) (by decide) _ _ h) (Nat.le_of_ble_eq_true rfl) rfl rfl ak_5 (cn_5 (by decide)) rfl rfl (Nat.le_of_ble_eq_true rfl) (fun σ11 h => ?_)
          refine r_aload_n C dX7_willLose_51 rfl 0 rfl ?_
          refine gf_7_40 C dX7_willLose_52 (cn_7 (by decide)) ?_
          refine r_aload_n C dX7_willLose_55 rfl 0 rfl ?_
          refine gf_7_19 C dX7_willLose_56 (cn_7 (by decide)) ?_
          obtain ⟨hr12, h⟩ := h
          refine r_iload_n C dX7_willLose_59 rfl 1 rfl ?_
          refine r_callVv [] C dX7_willLose_60 w_7_309 (ok_X5_advance l g 2 _ (by decide) hr12 _ _ _ h) (Nat.le_of_ble_eq_true rfl) rfl rfl ak_5 (cn_5 (by decide)) rfl rfl (Nat.le_of_ble_eq_true rfl) (fun σ13 h => ?_)
          refine r_aload_n C dX7_willLose_63 rfl 0 rfl ?_
          refine r_aload_n C dX7_willLose_64 rfl 0 rfl ?_
          refine gf_7_40 C dX7_willLose_65 (cn_7 (by decide)) ?_
          refine gf_7_229 C dX7_willLose_68 (cn_5 (by decide)) ?_
          refine r_iload_n C dX7_willLose_71 rfl 2 rfl ?_
          refine r_iconst C dX7_willLose_72 ic_3 ?_
          refine r_imul C dX7_willLose_73 ?_
          refine r_iload_n C dX7_willLose_74 rfl 3 rfl ?_
          refine r_iadd C dX7_willLose_75 ?_
          obtain ⟨h0, h⟩ := h
          refine r_iaload C dX7_willLose_76 ak_39 (cn_39 (by decide)) al_39 h0 ?_
          refine r_callVi [] C dX7_willLose_77 w_7_100 (ok_X7_answer l g _ _ _ h) (Nat.le_of_ble_eq_true rfl) rfl rfl ak_7 (cn_7 (by decide)) rfl rfl (Nat.le_of_ble_eq_true rfl) (fun r15 σ14 h => ?_)
          exact r_ireturn C dX7_willLose_80 ⟨_, rfl, h⟩
        · have h := h.2 q
          refine r_aload_n C dX7_willLose_34 rfl 0 rfl ?_
          refine r_iconst C dX7_willLose_35 ic_2 ?_
          refine r_callVi [] C dX7_willLose_36 w_7_64 (ok_X7_refuse l g _ _ _ h) (Nat.le_of_ble_eq_true rfl) rfl rfl ak_7 (cn_7 (by decide)) rfl rfl (Nat.le_of_ble_eq_true rfl) (fun r17 σ16 h => ?_)
          exact r_ireturn C dX7_willLose_39 ⟨_, rfl, h⟩
      · have h := h.2 q
        refine r_sub [0] rfl ?_
        exact j21 _ h
def L_X7_quiet_38 (Q : Int32 → Hp → Prop) (K84 : Hp → Prop) (y1 : Int32) : Nat → Int32 → Hp → Prop
  | 0, _, _ => False
  | n + 1, y2, σ =>
  (((2000 : Int32) ≤ y2 → K84 σ) ∧ (¬ (2000 : Int32) ≤ y2 → ((y1 ≤ (gI σ 5 2 0) → K84 σ) ∧ (¬ y1 ≤ (gI σ 5 2 0) → S_X5_isQuiet 2 σ (fun r5 σ4 => ((¬ r5 = 0 → K84 σ4) ∧ (r5 = 0 → gR σ4 0 < 2 ∧ S_X5_step 2 (gR σ4 0) y1 σ4 (fun σ7 => L_X7_quiet_38 Q K84 y1 n (y2 + 1) σ7))))))))
def J_X7_quiet_115 (Q : Int32 → Hp → Prop) (z0 : Int32) (σ : Hp) : Prop :=
  S_X7_answer z0 σ (fun r13 σ12 => Q r13 σ12)
def J_X7_quiet_84 (Q : Int32 → Hp → Prop) (σ : Hp) : Prop :=
  S_X5_isQuiet 2 σ (fun r11 σ10 => ((r11 = 0 → J_X7_quiet_115 Q (-2) σ10) ∧ (¬ r11 = 0 → J_X7_quiet_115 Q ((gI σ10 5 2 0) - (gI σ10 5 0 0)) σ10)))
def S_X7_quiet (σ : Hp) (Q : Int32 → Hp → Prop) : Prop :=
  S_X7_noBus σ (fun r2 σ1 => ((r2 = 0 → S_X5_copy 2 0 σ1 (fun σ3 => (∃ n8, L_X7_quiet_38 Q (fun σ9 => J_X7_quiet_84 Q σ9) ((gI σ3 5 0 0) + 2000) n8 0 σ3))) ∧ (¬ r2 = 0 → S_X7_refuse 1 σ1 (fun r15 σ14 => Q r15 σ14))))
set_option maxHeartbeats 2000000 in
set_option maxRecDepth 20000 in
theorem ok_X7_quiet (l : Launch) (g : Gm) (σ : Hp) (Q : Int32 → Hp → Prop) (h : S_X7_quiet σ Q) : Ct l g yX7_quiet cX7_quiet 3 (some .int) 6 [.ref (gad g 7 0)] σ (QI Q) := by
  refine Ct.of (by decide +kernel) (Nat.le_of_ble_eq_true rfl) ?_
  intro p e R s m args below meth c C
  have C : Cx g p R s m args meth c cX7_quiet 3 RX7 (some .int) 6 := C
  have l38 : ∀ (K84 : Hp → Prop) (y1 : Int32) (hK84 : ∀ (σ : Hp), K84 σ → G g p l e R s m args below meth c (QI Q) 3 84 [(0, .ref (gad g 7 0))] [] σ) (n : Nat) (y2 : Int32) (σ : Hp), L_X7_quiet_38 Q K84 y1 n y2 σ → G g p l e R s m args below meth c (QI Q) 3 38 [(0, .ref (gad g 7 0)), (1, .int y1), (2, .int y2)] [] σ := by
    intro K84 y1 hK84 n
    induction n with
    | zero => intro y2 σ h; exact False.elim h
    | succ n ih =>
      intro y2 σ h
      unfold L_X7_quiet_38 at h
      refine r_iload_n C dX7_quiet_38 rfl 2 rfl ?_
      refine r_sipush C dX7_quiet_39 si_2000 ?_
      refine r_icmp_ge (tgt := 84) C dX7_quiet_42 rfl (fun q => ?_) (fun q => ?_)
      · have h := h.1 q
        refine r_sub [0] rfl ?_
        exact hK84 _ h
      · have h := h.2 q
        refine r_aload_n C dX7_quiet_45 rfl 0 rfl ?_
        refine gf_7_40 C dX7_quiet_46 (cn_7 (by decide)) ?_
        refine gf_7_125 C dX7_quiet_49 (cn_5 (by decide)) ?_
        refine r_iload_n C dX7_quiet_52 rfl 1 rfl ?_
        refine r_icmp_ge (tgt := 84) C dX7_quiet_53 rfl (fun q => ?_) (fun q => ?_)
        · have h := h.1 q
          refine r_sub [0] rfl ?_
          exact hK84 _ h
        · have h := h.2 q
          refine r_aload_n C dX7_quiet_56 rfl 0 rfl ?_
          refine gf_7_40 C dX7_quiet_57 (cn_7 (by decide)) ?_
          refine r_callVi [] C dX7_quiet_60 w_7_317 (ok_X5_isQuiet l g 2 (by decide) _ _ h) (Nat.le_of_ble_eq_true rfl) rfl rfl ak_5 (cn_5 (by decide)) rfl rfl (Nat.le_of_ble_eq_true rfl) (fun r5 σ4 h => ?_)
          refine r_if_ne (tgt := 84) C dX7_quiet_63 rfl (fun q => ?_) (fun q => ?_)
          · have h := h.1 q
            refine r_sub [0] rfl ?_
            exact hK84 _ h
          · have h := h.2 q
            refine r_aload_n C dX7_quiet_66 rfl 0 rfl ?_
            refine gf_7_40 C dX7_quiet_67 (cn_7 (by decide)) ?_
            refine r_aload_n C dX7_quiet_70 rfl 0 rfl ?_
            refine gf_7_19 C dX7_quiet_71 (cn_7 (by decide)) ?_
            obtain ⟨hr6, h⟩ := h
            refine r_iload_n C dX7_quiet_74 rfl 1 rfl ?_
            refine r_callVv [] C dX7_quiet_75 w_7_320 (ok_X5_step l g 2 _ (by decide) hr6 _ _ _ h) (Nat.le_of_ble_eq_true rfl) rfl rfl ak_5 (cn_5 (by decide)) rfl rfl (Nat.le_of_ble_eq_true rfl) (fun σ7 h => ?_)
            refine r_iinc (v := y2 + 1) C dX7_quiet_78 2 rfl rfl (Nat.le_of_ble_eq_true rfl) rfl ?_
            refine r_goto (tgt := 38) C dX7_quiet_81 rfl ?_
            refine r_sub [1, 2, 0] rfl ?_
            exact ih _ _ h
  have j115 : ∀ (z0 : Int32) (σ : Hp), J_X7_quiet_115 Q z0 σ → G g p l e R s m args below meth c (QI Q) 3 115 [] [.int z0, .ref (gad g 7 0)] σ := by
    intro z0 σ h
    unfold J_X7_quiet_115 at h
    refine r_callVi [] C dX7_quiet_115 w_7_100 (ok_X7_answer l g _ _ _ h) (Nat.le_of_ble_eq_true rfl) rfl rfl ak_7 (cn_7 (by decide)) rfl rfl (Nat.le_of_ble_eq_true rfl) (fun r13 σ12 h => ?_)
    exact r_ireturn C dX7_quiet_118 ⟨_, rfl, h⟩
  have j84 : ∀ (σ : Hp), J_X7_quiet_84 Q σ → G g p l e R s m args below meth c (QI Q) 3 84 [(0, .ref (gad g 7 0))] [] σ := by
    intro σ h
    unfold J_X7_quiet_84 at h
    refine r_aload_n C dX7_quiet_84 rfl 0 rfl ?_
    refine r_aload_n C dX7_quiet_85 rfl 0 rfl ?_
    refine gf_7_40 C dX7_quiet_86 (cn_7 (by decide)) ?_
    refine r_callVi [.ref (gad g 7 0)] C dX7_quiet_89 w_7_317 (ok_X5_isQuiet l g 2 (by decide) _ _ h) (Nat.le_of_ble_eq_true rfl) rfl rfl ak_5 (cn_5 (by decide)) rfl rfl (Nat.le_of_ble_eq_true rfl) (fun r11 σ10 h => ?_)
    refine r_if_eq (tgt := 113) C dX7_quiet_92 rfl (fun q => ?_) (fun q => ?_)
    · have h := h.1 q
      refine r_bipush C dX7_quiet_113 bi_m2 ?_
      refine r_sub [] rfl ?_
      exact j115 _ _ h
    · have h := h.2 q
      refine r_aload_n C dX7_quiet_95 rfl 0 rfl ?_
      refine gf_7_40 C dX7_quiet_96 (cn_7 (by decide)) ?_
      refine gf_7_125 C dX7_quiet_99 (cn_5 (by decide)) ?_
      refine r_aload_n C dX7_quiet_102 rfl 0 rfl ?_
      refine gf_7_33 C dX7_quiet_103 (cn_7 (by decide)) ?_
      refine gf_7_125 C dX7_quiet_106 (cn_5 (by decide)) ?_
      refine r_isub C dX7_quiet_109 ?_
      refine r_goto (tgt := 115) C dX7_quiet_110 rfl ?_
      refine r_sub [] rfl ?_
      exact j115 _ _ h
  unfold S_X7_quiet at h
  show G g p l e R s m args below meth c (QI Q) 3 0 [(0, .ref (gad g 7 0))] [] σ
  refine r_aload_n C dX7_quiet_0 rfl 0 rfl ?_
  refine r_callVi [] C dX7_quiet_1 w_7_103 (ok_X7_noBus l g _ _ h) (Nat.le_of_ble_eq_true rfl) rfl rfl ak_7 (cn_7 (by decide)) rfl rfl (Nat.le_of_ble_eq_true rfl) (fun r2 σ1 h => ?_)
  refine r_if_eq (tgt := 13) C dX7_quiet_4 rfl (fun q => ?_) (fun q => ?_)
  · have h := h.1 q
    refine r_aload_n C dX7_quiet_13 rfl 0 rfl ?_
    refine gf_7_40 C dX7_quiet_14 (cn_7 (by decide)) ?_
    refine r_aload_n C dX7_quiet_17 rfl 0 rfl ?_
    refine gf_7_33 C dX7_quiet_18 (cn_7 (by decide)) ?_
    refine r_callVv [] C dX7_quiet_21 w_7_313 (ok_X5_copy l g 2 0 (by decide) (by decide) _ _ h) (Nat.le_of_ble_eq_true rfl) rfl rfl ak_5 (cn_5 (by decide)) rfl rfl (Nat.le_of_ble_eq_true rfl) (fun σ3 h => ?_)
    refine r_aload_n C dX7_quiet_24 rfl 0 rfl ?_
    refine gf_7_33 C dX7_quiet_25 (cn_7 (by decide)) ?_
    refine gf_7_125 C dX7_quiet_28 (cn_5 (by decide)) ?_
    refine r_sipush C dX7_quiet_31 si_2000 ?_
    refine r_iadd C dX7_quiet_34 ?_
    refine r_istore_n C dX7_quiet_35 rfl (Nat.le_of_ble_eq_true rfl) rfl ?_
    refine r_iconst C dX7_quiet_36 ic_0 ?_
    refine r_istore_n C dX7_quiet_37 rfl (Nat.le_of_ble_eq_true rfl) rfl ?_
    refine r_sub [2, 1, 0] rfl ?_
    obtain ⟨n8, h⟩ := h
    refine l38 _ _ (fun σ9 h => ?_) n8 _ _ h
    exact j84 _ h
  · have h := h.2 q
    refine r_aload_n C dX7_quiet_7 rfl 0 rfl ?_
    refine r_iconst C dX7_quiet_8 ic_1 ?_
    refine r_callVi [] C dX7_quiet_9 w_7_64 (ok_X7_refuse l g _ _ _ h) (Nat.le_of_ble_eq_true rfl) rfl rfl ak_7 (cn_7 (by decide)) rfl rfl (Nat.le_of_ble_eq_true rfl) (fun r15 σ14 h => ?_)
    exact r_ireturn C dX7_quiet_12 ⟨_, rfl, h⟩
def S_X7_keep (σ : Hp) (Q : Int32 → Hp → Prop) : Prop :=
  S_X7_noBus σ (fun r2 σ1 => ((r2 = 0 → S_X5_copy 1 0 σ1 (fun σ3 => ∀ σ4, σ4 = sI σ3 7 0 6 1 → ∀ σ5, σ5 = sI σ4 7 0 7 0 → Q 1 σ5)) ∧ (¬ r2 = 0 → S_X7_refuse 1 σ1 (fun r7 σ6 => Q 0 σ6))))
set_option maxHeartbeats 2000000 in
set_option maxRecDepth 20000 in
theorem ok_X7_keep (l : Launch) (g : Gm) (σ : Hp) (Q : Int32 → Hp → Prop) (h : S_X7_keep σ Q) : Ct l g yX7_keep cX7_keep 1 (some .boolean) 4 [.ref (gad g 7 0)] σ (QI Q) := by
  refine Ct.of (by decide +kernel) (Nat.le_of_ble_eq_true rfl) ?_
  intro p e R s m args below meth c C
  have C : Cx g p R s m args meth c cX7_keep 1 RX7 (some .boolean) 4 := C
  unfold S_X7_keep at h
  show G g p l e R s m args below meth c (QI Q) 1 0 [(0, .ref (gad g 7 0))] [] σ
  refine r_aload_n C dX7_keep_0 rfl 0 rfl ?_
  refine r_callVi [] C dX7_keep_1 w_7_103 (ok_X7_noBus l g _ _ h) (Nat.le_of_ble_eq_true rfl) rfl rfl ak_7 (cn_7 (by decide)) rfl rfl (Nat.le_of_ble_eq_true rfl) (fun r2 σ1 h => ?_)
  refine r_if_eq (tgt := 15) C dX7_keep_4 rfl (fun q => ?_) (fun q => ?_)
  · have h := h.1 q
    refine r_aload_n C dX7_keep_15 rfl 0 rfl ?_
    refine gf_7_37 C dX7_keep_16 (cn_7 (by decide)) ?_
    refine r_aload_n C dX7_keep_19 rfl 0 rfl ?_
    refine gf_7_33 C dX7_keep_20 (cn_7 (by decide)) ?_
    refine r_callVv [] C dX7_keep_23 w_7_313 (ok_X5_copy l g 1 0 (by decide) (by decide) _ _ h) (Nat.le_of_ble_eq_true rfl) rfl rfl ak_5 (cn_5 (by decide)) rfl rfl (Nat.le_of_ble_eq_true rfl) (fun σ3 h => ?_)
    refine r_aload_n C dX7_keep_26 rfl 0 rfl ?_
    refine r_iconst C dX7_keep_27 ic_1 ?_
    refine pf_7_43 C dX7_keep_28 zb1 (cn_7 (by decide)) ?_
    have h := h _ rfl
    refine r_aload_n C dX7_keep_31 rfl 0 rfl ?_
    refine r_iconst C dX7_keep_32 ic_0 ?_
    refine pf_7_47 C dX7_keep_33 (cn_7 (by decide)) ?_
    have h := h _ rfl
    refine r_iconst C dX7_keep_36 ic_1 ?_
    exact r_zreturn C dX7_keep_37 zb1.1 ⟨_, rfl, h⟩
  · have h := h.2 q
    refine r_aload_n C dX7_keep_7 rfl 0 rfl ?_
    refine r_iconst C dX7_keep_8 ic_1 ?_
    refine r_callVi [] C dX7_keep_9 w_7_64 (ok_X7_refuse l g _ _ _ h) (Nat.le_of_ble_eq_true rfl) rfl rfl ak_7 (cn_7 (by decide)) rfl rfl (Nat.le_of_ble_eq_true rfl) (fun r7 σ6 h => ?_)
    refine r_pop C dX7_keep_12 rfl ?_
    refine r_iconst C dX7_keep_13 ic_0 ?_
    exact r_zreturn C dX7_keep_14 zb0.1 ⟨_, rfl, h⟩
def S_X7_back (σ : Hp) (Q : Int32 → Hp → Prop) : Prop :=
  ((¬ (gI σ 7 0 6) = 0 → S_X5_copy 0 1 σ (fun σ1 => ∀ σ2, σ2 = sI σ1 7 0 7 0 → Q 1 σ2)) ∧ ((gI σ 7 0 6) = 0 → S_X7_refuse 1 σ (fun r4 σ3 => Q 0 σ3)))
set_option maxHeartbeats 2000000 in
set_option maxRecDepth 20000 in
theorem ok_X7_back (l : Launch) (g : Gm) (σ : Hp) (Q : Int32 → Hp → Prop) (h : S_X7_back σ Q) : Ct l g yX7_back cX7_back 1 (some .boolean) 4 [.ref (gad g 7 0)] σ (QI Q) := by
  refine Ct.of (by decide +kernel) (Nat.le_of_ble_eq_true rfl) ?_
  intro p e R s m args below meth c C
  have C : Cx g p R s m args meth c cX7_back 1 RX7 (some .boolean) 4 := C
  unfold S_X7_back at h
  show G g p l e R s m args below meth c (QI Q) 1 0 [(0, .ref (gad g 7 0))] [] σ
  refine r_aload_n C dX7_back_0 rfl 0 rfl ?_
  refine gf_7_43 C dX7_back_1 (cn_7 (by decide)) ?_
  refine r_if_ne (tgt := 15) C dX7_back_4 rfl (fun q => ?_) (fun q => ?_)
  · have h := h.1 q
    refine r_aload_n C dX7_back_15 rfl 0 rfl ?_
    refine gf_7_33 C dX7_back_16 (cn_7 (by decide)) ?_
    refine r_aload_n C dX7_back_19 rfl 0 rfl ?_
    refine gf_7_37 C dX7_back_20 (cn_7 (by decide)) ?_
    refine r_callVv [] C dX7_back_23 w_7_313 (ok_X5_copy l g 0 1 (by decide) (by decide) _ _ h) (Nat.le_of_ble_eq_true rfl) rfl rfl ak_5 (cn_5 (by decide)) rfl rfl (Nat.le_of_ble_eq_true rfl) (fun σ1 h => ?_)
    refine r_aload_n C dX7_back_26 rfl 0 rfl ?_
    refine r_iconst C dX7_back_27 ic_0 ?_
    refine pf_7_47 C dX7_back_28 (cn_7 (by decide)) ?_
    have h := h _ rfl
    refine r_iconst C dX7_back_31 ic_1 ?_
    exact r_zreturn C dX7_back_32 zb1.1 ⟨_, rfl, h⟩
  · have h := h.2 q
    refine r_aload_n C dX7_back_7 rfl 0 rfl ?_
    refine r_iconst C dX7_back_8 ic_1 ?_
    refine r_callVi [] C dX7_back_9 w_7_64 (ok_X7_refuse l g _ _ _ h) (Nat.le_of_ble_eq_true rfl) rfl rfl ak_7 (cn_7 (by decide)) rfl rfl (Nat.le_of_ble_eq_true rfl) (fun r4 σ3 h => ?_)
    refine r_pop C dX7_back_12 rfl ?_
    refine r_iconst C dX7_back_13 ic_0 ?_
    exact r_zreturn C dX7_back_14 zb0.1 ⟨_, rfl, h⟩
def S_X7_size (x1 : Int32) (σ : Hp) (Q : Int32 → Hp → Prop) : Prop :=
  ((x1 = 0 → Q (gI σ 4 0 1) σ) ∧ (x1 = 1 → gR σ 0 < 2 ∧ S_X2_allReceivers (gR σ 0) σ (fun r3 σ2 => Q r3 σ2)) ∧ (x1 = 2 → S_X5_allWaiting 0 σ (fun r5 σ4 => Q r5 σ4)) ∧ (x1 = 3 → Q (gI σ 3 0 0) σ) ∧ (x1 = 4 → (((gI σ 7 0 6) = 0 → Q 0 σ) ∧ (¬ (gI σ 7 0 6) = 0 → Q 1 σ))) ∧ (¬ x1 = 0 → ¬ x1 = 1 → ¬ x1 = 2 → ¬ x1 = 3 → ¬ x1 = 4 → Q (-1) σ))
set_option maxHeartbeats 2000000 in
set_option maxRecDepth 20000 in
theorem ok_X7_size (l : Launch) (g : Gm) (x1 : Int32) (σ : Hp) (Q : Int32 → Hp → Prop) (h : S_X7_size x1 σ Q) : Ct l g yX7_size cX7_size 2 (some .int) 1 [.ref (gad g 7 0), .int x1] σ (QI Q) := by
  refine Ct.of (by decide +kernel) (Nat.le_of_ble_eq_true rfl) ?_
  intro p e R s m args below meth c C
  have C : Cx g p R s m args meth c cX7_size 2 RX7 (some .int) 1 := C
  unfold S_X7_size at h
  show G g p l e R s m args below meth c (QI Q) 2 0 [(0, .ref (gad g 7 0)), (1, .int x1)] [] σ
  refine r_iload_n C dX7_size_0 rfl 1 rfl ?_
  obtain ⟨h0, h1, h2, h3, h4, h⟩ := h
  by_cases q0 : x1 = 0
  · have h := h0 q0
    refine r_tableIn (off := 35) (tgt := 36) C dX7_size_1 (by rw [q0]; decide) (by rw [q0]; decide) (by rw [q0]; rfl) rfl ?_
    refine r_aload_n C dX7_size_36 rfl 0 rfl ?_
    refine gf_7_12 C dX7_size_37 (cn_7 (by decide)) ?_
    refine gf_7_57 C dX7_size_40 (cn_4 (by decide)) ?_
    exact r_ireturn C dX7_size_43 ⟨_, rfl, h⟩
  by_cases q1 : x1 = 1
  · have h := h1 q1
    refine r_tableIn (off := 43) (tgt := 44) C dX7_size_1 (by rw [q1]; decide) (by rw [q1]; decide) (by rw [q1]; rfl) rfl ?_
    refine r_aload_n C dX7_size_44 rfl 0 rfl ?_
    refine gf_7_19 C dX7_size_45 (cn_7 (by decide)) ?_
    obtain ⟨hr1, h⟩ := h
    refine r_callVi [] C dX7_size_48 w_7_329 (ok_X2_allReceivers l g _ hr1 _ _ h) (Nat.le_of_ble_eq_true rfl) rfl rfl ak_2 (cn_2 hr1) rfl rfl (Nat.le_of_ble_eq_true rfl) (fun r3 σ2 h => ?_)
    exact r_ireturn C dX7_size_51 ⟨_, rfl, h⟩
  by_cases q2 : x1 = 2
  · have h := h2 q2
    refine r_tableIn (off := 51) (tgt := 52) C dX7_size_1 (by rw [q2]; decide) (by rw [q2]; decide) (by rw [q2]; rfl) rfl ?_
    refine r_aload_n C dX7_size_52 rfl 0 rfl ?_
    refine gf_7_33 C dX7_size_53 (cn_7 (by decide)) ?_
    refine r_callVi [] C dX7_size_56 w_7_332 (ok_X5_allWaiting l g 0 (by decide) _ _ h) (Nat.le_of_ble_eq_true rfl) rfl rfl ak_5 (cn_5 (by decide)) rfl rfl (Nat.le_of_ble_eq_true rfl) (fun r5 σ4 h => ?_)
    exact r_ireturn C dX7_size_59 ⟨_, rfl, h⟩
  by_cases q3 : x1 = 3
  · have h := h3 q3
    refine r_tableIn (off := 59) (tgt := 60) C dX7_size_1 (by rw [q3]; decide) (by rw [q3]; decide) (by rw [q3]; rfl) rfl ?_
    refine r_aload_n C dX7_size_60 rfl 0 rfl ?_
    refine gf_7_33 C dX7_size_61 (cn_7 (by decide)) ?_
    refine gf_7_200 C dX7_size_64 (cn_5 (by decide)) ?_
    refine gf_7_335 C dX7_size_67 (cn_3 (by decide)) ?_
    exact r_ireturn C dX7_size_70 ⟨_, rfl, h⟩
  by_cases q4 : x1 = 4
  · have h := h4 q4
    refine r_tableIn (off := 70) (tgt := 71) C dX7_size_1 (by rw [q4]; decide) (by rw [q4]; decide) (by rw [q4]; rfl) rfl ?_
    refine r_aload_n C dX7_size_71 rfl 0 rfl ?_
    refine gf_7_43 C dX7_size_72 (cn_7 (by decide)) ?_
    refine r_if_eq (tgt := 82) C dX7_size_75 rfl (fun q => ?_) (fun q => ?_)
    · have h := h.1 q
      refine r_iconst C dX7_size_82 ic_0 ?_
      exact r_ireturn C dX7_size_83 ⟨_, rfl, h⟩
    · have h := h.2 q
      refine r_iconst C dX7_size_78 ic_1 ?_
      refine r_goto (tgt := 83) C dX7_size_79 rfl ?_
      exact r_ireturn C dX7_size_83 ⟨_, rfl, h⟩
  have h := h q0 q1 q2 q3 q4
  refine r_tableOut (tgt := 84) C dX7_size_1 (sw_out4 q0 q1 q2 q3 q4) rfl ?_
  refine r_iconst C dX7_size_84 ic_m1 ?_
  exact r_ireturn C dX7_size_85 ⟨_, rfl, h⟩
def S_X7_trouble (σ : Hp) (Q : Int32 → Hp → Prop) : Prop :=
  Q (gI σ 7 0 7) σ
set_option maxHeartbeats 2000000 in
set_option maxRecDepth 20000 in
theorem ok_X7_trouble (l : Launch) (g : Gm) (σ : Hp) (Q : Int32 → Hp → Prop) (h : S_X7_trouble σ Q) : Ct l g yX7_trouble cX7_trouble 1 (some .int) 0 [.ref (gad g 7 0)] σ (QI Q) := by
  refine Ct.of (by decide +kernel) (Nat.le_of_ble_eq_true rfl) ?_
  intro p e R s m args below meth c C
  have C : Cx g p R s m args meth c cX7_trouble 1 RX7 (some .int) 0 := C
  unfold S_X7_trouble at h
  show G g p l e R s m args below meth c (QI Q) 1 0 [(0, .ref (gad g 7 0))] [] σ
  refine r_aload_n C dX7_trouble_0 rfl 0 rfl ?_
  refine gf_7_47 C dX7_trouble_1 (cn_7 (by decide)) ?_
  exact r_ireturn C dX7_trouble_4 ⟨_, rfl, h⟩
def S_X8_thrown (σ : Hp) (Q : Int32 → Hp → Prop) : Prop :=
  Q (gI σ 8 0 0) σ
set_option maxHeartbeats 2000000 in
set_option maxRecDepth 20000 in
theorem ok_X8_thrown (l : Launch) (g : Gm) (σ : Hp) (Q : Int32 → Hp → Prop) (h : S_X8_thrown σ Q) : Ct l g yX8_thrown cX8_thrown 1 (some .int) 0 [.ref (gad g 8 0)] σ (QI Q) := by
  refine Ct.of (by decide +kernel) (Nat.le_of_ble_eq_true rfl) ?_
  intro p e R s m args below meth c C
  have C : Cx g p R s m args meth c cX8_thrown 1 RX8 (some .int) 0 := C
  unfold S_X8_thrown at h
  show G g p l e R s m args below meth c (QI Q) 1 0 [(0, .ref (gad g 8 0))] [] σ
  refine r_aload_n C dX8_thrown_0 rfl 0 rfl ?_
  refine gf_8_51 C dX8_thrown_1 (cn_8 (by decide)) ?_
  exact r_ireturn C dX8_thrown_4 ⟨_, rfl, h⟩
def S_X8_in (x0 : Int32) (x1 : Int32) (x2 : Int32) (σ : Hp) (Q : Int32 → Hp → Prop) : Prop :=
  ((x0 < x1 → Q 0 σ) ∧ (¬ x0 < x1 → ((x2 < x0 → Q 0 σ) ∧ (¬ x2 < x0 → Q 1 σ))))
set_option maxHeartbeats 2000000 in
set_option maxRecDepth 20000 in
theorem ok_X8_in (l : Launch) (g : Gm) (x0 : Int32) (x1 : Int32) (x2 : Int32) (σ : Hp) (Q : Int32 → Hp → Prop) (h : S_X8_in x0 x1 x2 σ Q) : Ct l g yX8_in cX8_in 3 (some .boolean) 0 [.int x0, .int x1, .int x2] σ (QI Q) := by
  refine Ct.of (by decide +kernel) (Nat.le_of_ble_eq_true rfl) ?_
  intro p e R s m args below meth c C
  have C : Cx g p R s m args meth c cX8_in 3 RX8 (some .boolean) 0 := C
  unfold S_X8_in at h
  show G g p l e R s m args below meth c (QI Q) 3 0 [(0, .int x0), (1, .int x1), (2, .int x2)] [] σ
  refine r_iload_n C dX8_in_0 rfl 0 rfl ?_
  refine r_iload_n C dX8_in_1 rfl 1 rfl ?_
  refine r_icmp_lt (tgt := 14) C dX8_in_2 rfl (fun q => ?_) (fun q => ?_)
  · have h := h.1 q
    refine r_iconst C dX8_in_14 ic_0 ?_
    exact r_zreturn C dX8_in_15 zb0.1 ⟨_, rfl, h⟩
  · have h := h.2 q
    refine r_iload_n C dX8_in_5 rfl 0 rfl ?_
    refine r_iload_n C dX8_in_6 rfl 2 rfl ?_
    refine r_icmp_gt (tgt := 14) C dX8_in_7 rfl (fun q => ?_) (fun q => ?_)
    · have h := h.1 q
      refine r_iconst C dX8_in_14 ic_0 ?_
      exact r_zreturn C dX8_in_15 zb0.1 ⟨_, rfl, h⟩
    · have h := h.2 q
      refine r_iconst C dX8_in_10 ic_1 ?_
      refine r_goto (tgt := 15) C dX8_in_11 rfl ?_
      exact r_zreturn C dX8_in_15 zb1.1 ⟨_, rfl, h⟩
def S_X8_fresh (σ : Hp) (Q : Hp → Prop) : Prop :=
  ∀ σ1, σ1 = sI σ 8 0 0 0 → ∀ σ2, σ2 = sI σ1 8 0 1 0 → ∀ σ3, σ3 = sI σ2 8 0 3 (-1) → Q σ3
set_option maxHeartbeats 2000000 in
set_option maxRecDepth 20000 in
theorem ok_X8_fresh (l : Launch) (g : Gm) (σ : Hp) (Q : Hp → Prop) (h : S_X8_fresh σ Q) : Ct l g yX8_fresh cX8_fresh 1 none 0 [.ref (gad g 8 0)] σ (QV Q) := by
  refine Ct.of (by decide +kernel) (Nat.le_of_ble_eq_true rfl) ?_
  intro p e R s m args below meth c C
  have C : Cx g p R s m args meth c cX8_fresh 1 RX8 none 0 := C
  unfold S_X8_fresh at h
  show G g p l e R s m args below meth c (QV Q) 1 0 [(0, .ref (gad g 8 0))] [] σ
  refine r_aload_n C dX8_fresh_0 rfl 0 rfl ?_
  refine r_iconst C dX8_fresh_1 ic_0 ?_
  refine pf_8_51 C dX8_fresh_2 (cn_8 (by decide)) ?_
  have h := h _ rfl
  refine r_aload_n C dX8_fresh_5 rfl 0 rfl ?_
  refine r_iconst C dX8_fresh_6 ic_0 ?_
  refine pf_8_54 C dX8_fresh_7 (cn_8 (by decide)) ?_
  have h := h _ rfl
  refine r_aload_n C dX8_fresh_10 rfl 0 rfl ?_
  refine r_iconst C dX8_fresh_11 ic_m1 ?_
  refine pf_8_9 C dX8_fresh_12 (cn_8 (by decide)) ?_
  have h := h _ rfl
  exact r_return C dX8_fresh_15 ⟨rfl, h⟩
def S_X8_no (x1 : Int32) (σ : Hp) (Q : Int32 → Hp → Prop) : Prop :=
  ∀ σ1, σ1 = sI σ 8 0 1 x1 → Q (-1) σ1
set_option maxHeartbeats 2000000 in
set_option maxRecDepth 20000 in
theorem ok_X8_no (l : Launch) (g : Gm) (x1 : Int32) (σ : Hp) (Q : Int32 → Hp → Prop) (h : S_X8_no x1 σ Q) : Ct l g yX8_no cX8_no 2 (some .int) 0 [.ref (gad g 8 0), .int x1] σ (QI Q) := by
  refine Ct.of (by decide +kernel) (Nat.le_of_ble_eq_true rfl) ?_
  intro p e R s m args below meth c C
  have C : Cx g p R s m args meth c cX8_no 2 RX8 (some .int) 0 := C
  unfold S_X8_no at h
  show G g p l e R s m args below meth c (QI Q) 2 0 [(0, .ref (gad g 8 0)), (1, .int x1)] [] σ
  refine r_aload_n C dX8_no_0 rfl 0 rfl ?_
  refine r_iload_n C dX8_no_1 rfl 1 rfl ?_
  refine pf_8_54 C dX8_no_2 (cn_8 (by decide)) ?_
  have h := h _ rfl
  refine r_iconst C dX8_no_5 ic_m1 ?_
  exact r_ireturn C dX8_no_6 ⟨_, rfl, h⟩
def L_X8_laysWord_2 (Q : Hp → Prop) (K37 : Hp → Prop) (y1 : Int32) : Nat → Int32 → Hp → Prop
  | 0, _, _ => False
  | n + 1, y2, σ =>
  (((4 : Int32) ≤ y2 → K37 σ) ∧ (¬ (4 : Int32) ≤ y2 → vp_in ((gI σ 8 0 5) + y2) 900 ∧ ∀ σ1, σ1 = sI σ 52 0 (ix ((gI σ 8 0 5) + y2)) ((y1 >>> ((24 - (8 * y2)) &&& 31)) &&& 255) → L_X8_laysWord_2 Q K37 y1 n (y2 + 1) σ1))
def S_X8_laysWord (x1 : Int32) (σ : Hp) (Q : Hp → Prop) : Prop :=
  (∃ n2, L_X8_laysWord_2 Q (fun σ3 => ∀ σ4, σ4 = sI σ3 8 0 5 ((gI σ3 8 0 5) + 4) → Q σ4) x1 n2 0 σ)
set_option maxHeartbeats 2000000 in
set_option maxRecDepth 20000 in
theorem ok_X8_laysWord (l : Launch) (g : Gm) (x1 : Int32) (σ : Hp) (Q : Hp → Prop) (h : S_X8_laysWord x1 σ Q) : Ct l g yX8_laysWord cX8_laysWord 3 none 0 [.ref (gad g 8 0), .int x1] σ (QV Q) := by
  refine Ct.of (by decide +kernel) (Nat.le_of_ble_eq_true rfl) ?_
  intro p e R s m args below meth c C
  have C : Cx g p R s m args meth c cX8_laysWord 3 RX8 none 0 := C
  have l2 : ∀ (K37 : Hp → Prop) (y1 : Int32) (hK37 : ∀ (σ : Hp), K37 σ → G g p l e R s m args below meth c (QV Q) 3 37 [(0, .ref (gad g 8 0))] [] σ) (n : Nat) (y2 : Int32) (σ : Hp), L_X8_laysWord_2 Q K37 y1 n y2 σ → G g p l e R s m args below meth c (QV Q) 3 2 [(0, .ref (gad g 8 0)), (1, .int y1), (2, .int y2)] [] σ := by
    intro K37 y1 hK37 n
    induction n with
    | zero => intro y2 σ h; exact False.elim h
    | succ n ih =>
      intro y2 σ h
      unfold L_X8_laysWord_2 at h
      refine r_iload_n C dX8_laysWord_2 rfl 2 rfl ?_
      refine r_iconst C dX8_laysWord_3 ic_4 ?_
      refine r_icmp_ge (tgt := 37) C dX8_laysWord_4 rfl (fun q => ?_) (fun q => ?_)
      · have h := h.1 q
        refine r_sub [0] rfl ?_
        exact hK37 _ h
      · have h := h.2 q
        refine r_aload_n C dX8_laysWord_7 rfl 0 rfl ?_
        refine gf_8_13 C dX8_laysWord_8 (cn_8 (by decide)) ?_
        refine r_aload_n C dX8_laysWord_11 rfl 0 rfl ?_
        refine gf_8_57 C dX8_laysWord_12 (cn_8 (by decide)) ?_
        refine r_iload_n C dX8_laysWord_15 rfl 2 rfl ?_
        refine r_iadd C dX8_laysWord_16 ?_
        refine r_iload_n C dX8_laysWord_17 rfl 1 rfl ?_
        refine r_bipush C dX8_laysWord_18 bi_24 ?_
        refine r_bipush C dX8_laysWord_20 bi_8 ?_
        refine r_iload_n C dX8_laysWord_22 rfl 2 rfl ?_
        refine r_imul C dX8_laysWord_23 ?_
        refine r_isub C dX8_laysWord_24 ?_
        refine r_ishr C dX8_laysWord_25 ?_
        refine r_sipush C dX8_laysWord_26 si_255 ?_
        refine r_iand C dX8_laysWord_29 ?_
        obtain ⟨h0, h⟩ := h
        refine r_iastore C dX8_laysWord_30 ak_52 (cn_52 (by decide)) al_52 h0 ?_
        have h := h _ rfl
        refine r_iinc (v := y2 + 1) C dX8_laysWord_31 2 rfl rfl (Nat.le_of_ble_eq_true rfl) rfl ?_
        refine r_goto (tgt := 2) C dX8_laysWord_34 rfl ?_
        refine r_sub [1, 2, 0] rfl ?_
        exact ih _ _ h
  unfold S_X8_laysWord at h
  show G g p l e R s m args below meth c (QV Q) 3 0 [(0, .ref (gad g 8 0)), (1, .int x1)] [] σ
  refine r_iconst C dX8_laysWord_0 ic_0 ?_
  refine r_istore_n C dX8_laysWord_1 rfl (Nat.le_of_ble_eq_true rfl) rfl ?_
  refine r_sub [1, 2, 0] rfl ?_
  obtain ⟨n2, h⟩ := h
  refine l2 _ _ (fun σ3 h => ?_) n2 _ _ h
  refine r_aload_n C dX8_laysWord_37 rfl 0 rfl ?_
  refine r_dup C dX8_laysWord_38 rfl ?_
  refine gf_8_57 C dX8_laysWord_39 (cn_8 (by decide)) ?_
  refine r_iconst C dX8_laysWord_42 ic_4 ?_
  refine r_iadd C dX8_laysWord_43 ?_
  refine pf_8_57 C dX8_laysWord_44 (cn_8 (by decide)) ?_
  have h := h _ rfl
  exact r_return C dX8_laysWord_47 ⟨rfl, h⟩
def S_X8_feed (x1 : Int32) (x2 : Int32) (x3 : Int32) (x4 : Int32) (x5 : Int32) (σ : Hp) (Q : Int32 → Hp → Prop) : Prop :=
  ∀ σ1, σ1 = sI σ 8 0 0 0 → (((gI σ1 8 0 5) ≤ 880 → S_X8_laysWord x1 σ1 (fun σ2 => S_X8_laysWord x2 σ2 (fun σ3 => S_X8_laysWord x3 σ3 (fun σ4 => S_X8_laysWord x4 σ4 (fun σ5 => S_X8_laysWord x5 σ5 (fun σ6 => Q (gI σ6 8 0 5) σ6)))))) ∧ (¬ (gI σ1 8 0 5) ≤ 880 → Q (-1) σ1))
set_option maxHeartbeats 2000000 in
set_option maxRecDepth 20000 in
theorem ok_X8_feed (l : Launch) (g : Gm) (x1 : Int32) (x2 : Int32) (x3 : Int32) (x4 : Int32) (x5 : Int32) (σ : Hp) (Q : Int32 → Hp → Prop) (h : S_X8_feed x1 x2 x3 x4 x5 σ Q) : Ct l g yX8_feed cX8_feed 6 (some .int) 1 [.ref (gad g 8 0), .int x1, .int x2, .int x3, .int x4, .int x5] σ (QI Q) := by
  refine Ct.of (by decide +kernel) (Nat.le_of_ble_eq_true rfl) ?_
  intro p e R s m args below meth c C
  have C : Cx g p R s m args meth c cX8_feed 6 RX8 (some .int) 1 := C
  unfold S_X8_feed at h
  show G g p l e R s m args below meth c (QI Q) 6 0 [(0, .ref (gad g 8 0)), (1, .int x1), (2, .int x2), (3, .int x3), (4, .int x4), (5, .int x5)] [] σ
  refine r_aload_n C dX8_feed_0 rfl 0 rfl ?_
  refine r_iconst C dX8_feed_1 ic_0 ?_
  refine pf_8_51 C dX8_feed_2 (cn_8 (by decide)) ?_
  have h := h _ rfl
  refine r_aload_n C dX8_feed_5 rfl 0 rfl ?_
  refine gf_8_57 C dX8_feed_6 (cn_8 (by decide)) ?_
  refine r_sipush C dX8_feed_9 si_880 ?_
  refine r_icmp_le (tgt := 17) C dX8_feed_12 rfl (fun q => ?_) (fun q => ?_)
  · have h := h.1 q
    refine r_aload_n C dX8_feed_17 rfl 0 rfl ?_
    refine r_iload_n C dX8_feed_18 rfl 1 rfl ?_
    refine r_callVv [] C dX8_feed_19 w_8_60 (ok_X8_laysWord l g _ _ _ h) (Nat.le_of_ble_eq_true rfl) rfl rfl ak_8 (cn_8 (by decide)) rfl rfl (Nat.le_of_ble_eq_true rfl) (fun σ2 h => ?_)
    refine r_aload_n C dX8_feed_22 rfl 0 rfl ?_
    refine r_iload_n C dX8_feed_23 rfl 2 rfl ?_
    refine r_callVv [] C dX8_feed_24 w_8_60 (ok_X8_laysWord l g _ _ _ h) (Nat.le_of_ble_eq_true rfl) rfl rfl ak_8 (cn_8 (by decide)) rfl rfl (Nat.le_of_ble_eq_true rfl) (fun σ3 h => ?_)
    refine r_aload_n C dX8_feed_27 rfl 0 rfl ?_
    refine r_iload_n C dX8_feed_28 rfl 3 rfl ?_
    refine r_callVv [] C dX8_feed_29 w_8_60 (ok_X8_laysWord l g _ _ _ h) (Nat.le_of_ble_eq_true rfl) rfl rfl ak_8 (cn_8 (by decide)) rfl rfl (Nat.le_of_ble_eq_true rfl) (fun σ4 h => ?_)
    refine r_aload_n C dX8_feed_32 rfl 0 rfl ?_
    refine r_iload C dX8_feed_33 4 rfl ?_
    refine r_callVv [] C dX8_feed_35 w_8_60 (ok_X8_laysWord l g _ _ _ h) (Nat.le_of_ble_eq_true rfl) rfl rfl ak_8 (cn_8 (by decide)) rfl rfl (Nat.le_of_ble_eq_true rfl) (fun σ5 h => ?_)
    refine r_aload_n C dX8_feed_38 rfl 0 rfl ?_
    refine r_iload C dX8_feed_39 5 rfl ?_
    refine r_callVv [] C dX8_feed_41 w_8_60 (ok_X8_laysWord l g _ _ _ h) (Nat.le_of_ble_eq_true rfl) rfl rfl ak_8 (cn_8 (by decide)) rfl rfl (Nat.le_of_ble_eq_true rfl) (fun σ6 h => ?_)
    refine r_aload_n C dX8_feed_44 rfl 0 rfl ?_
    refine gf_8_57 C dX8_feed_45 (cn_8 (by decide)) ?_
    exact r_ireturn C dX8_feed_48 ⟨_, rfl, h⟩
  · have h := h.2 q
    refine r_iconst C dX8_feed_15 ic_m1 ?_
    exact r_ireturn C dX8_feed_16 ⟨_, rfl, h⟩
def S_X8_see (x1 : Int32) (σ : Hp) (Q : Int32 → Hp → Prop) : Prop :=
  (((gI σ 8 0 15) ≤ x1 → Q (-1) σ) ∧ (¬ (gI σ 8 0 15) ≤ x1 → vp_in x1 900 ∧ Q (gI σ 52 0 (ix x1)) σ))
set_option maxHeartbeats 2000000 in
set_option maxRecDepth 20000 in
theorem ok_X8_see (l : Launch) (g : Gm) (x1 : Int32) (σ : Hp) (Q : Int32 → Hp → Prop) (h : S_X8_see x1 σ Q) : Ct l g yX8_see cX8_see 2 (some .int) 0 [.ref (gad g 8 0), .int x1] σ (QI Q) := by
  refine Ct.of (by decide +kernel) (Nat.le_of_ble_eq_true rfl) ?_
  intro p e R s m args below meth c C
  have C : Cx g p R s m args meth c cX8_see 2 RX8 (some .int) 0 := C
  unfold S_X8_see at h
  show G g p l e R s m args below meth c (QI Q) 2 0 [(0, .ref (gad g 8 0)), (1, .int x1)] [] σ
  refine r_iload_n C dX8_see_0 rfl 1 rfl ?_
  refine r_aload_n C dX8_see_1 rfl 0 rfl ?_
  refine gf_8_64 C dX8_see_2 (cn_8 (by decide)) ?_
  refine r_icmp_ge (tgt := 17) C dX8_see_5 rfl (fun q => ?_) (fun q => ?_)
  · have h := h.1 q
    refine r_iconst C dX8_see_17 ic_m1 ?_
    exact r_ireturn C dX8_see_18 ⟨_, rfl, h⟩
  · have h := h.2 q
    refine r_aload_n C dX8_see_8 rfl 0 rfl ?_
    refine gf_8_13 C dX8_see_9 (cn_8 (by decide)) ?_
    refine r_iload_n C dX8_see_12 rfl 1 rfl ?_
    obtain ⟨h0, h⟩ := h
    refine r_iaload C dX8_see_13 ak_52 (cn_52 (by decide)) al_52 h0 ?_
    refine r_goto (tgt := 18) C dX8_see_14 rfl ?_
    exact r_ireturn C dX8_see_18 ⟨_, rfl, h⟩
def J_X8_readsWord_63 (Q : Hp → Prop) (kb : Hp → Prop) (K79 : Hp → Prop) (z0 : Int64) (σ : Hp) : Prop :=
  ∀ σ6, σ6 = sL σ 8 0 20 z0 → ∀ σ7, σ7 = sI σ6 8 0 17 ((gI σ6 8 0 17) + 1) → kb σ7
def L_X8_readsWord_5 (Q : Hp → Prop) (K79 : Hp → Prop) : Nat → Hp → Prop
  | 0, _ => False
  | n + 1, σ =>
  S_X8_see (gI σ 8 0 17) σ (fun r3 σ2 => S_X8_in r3 97 122 σ2 (fun r5 σ4 => ((r5 = 0 → K79 σ4) ∧ (¬ r5 = 0 → (((8 : Int32) ≤ ((gI σ4 8 0 17) - (gI σ4 8 0 16)) → J_X8_readsWord_63 Q (L_X8_readsWord_5 Q K79 n) K79 (gL σ4 8 0 20) σ4) ∧ (¬ (8 : Int32) ≤ ((gI σ4 8 0 17) - (gI σ4 8 0 16)) → S_X8_see (gI σ4 8 0 17) σ4 (fun r9 σ8 => J_X8_readsWord_63 Q (L_X8_readsWord_5 Q K79 n) K79 ((256 * (gL σ4 8 0 20)) + r9.toInt64) σ8)))))))
def L_X8_readsWord_112 (Q : Hp → Prop) (K140 : Hp → Prop) : Nat → Int32 → Hp → Prop
  | 0, _, _ => False
  | n + 1, y1, σ =>
  (((8 : Int32) ≤ y1 → K140 σ) ∧ (¬ (8 : Int32) ≤ y1 → ∀ σ13, σ13 = sL σ 8 0 20 ((256 * (gL σ 8 0 20)) + 32) → L_X8_readsWord_112 Q K140 n (y1 + 1) σ13))
def J_X8_readsWord_99 (Q : Hp → Prop) (z0 : Int32) (σ : Hp) : Prop :=
  ∀ σ12, σ12 = sI σ 8 0 18 z0 → (∃ n14, L_X8_readsWord_112 Q (fun σ15 => Q σ15) n14 ((gI σ12 8 0 17) - (gI σ12 8 0 16)) σ12)
def S_X8_readsWord (σ : Hp) (Q : Hp → Prop) : Prop :=
  ∀ σ1, σ1 = sL σ 8 0 20 0 → (∃ n10, L_X8_readsWord_5 Q (fun σ11 => ((((gI σ11 8 0 17) - (gI σ11 8 0 16)) ≤ 8 → J_X8_readsWord_99 Q 2 σ11) ∧ (¬ ((gI σ11 8 0 17) - (gI σ11 8 0 16)) ≤ 8 → J_X8_readsWord_99 Q 1 σ11))) n10 σ1)
set_option maxHeartbeats 2000000 in
set_option maxRecDepth 20000 in
theorem ok_X8_readsWord (l : Launch) (g : Gm) (σ : Hp) (Q : Hp → Prop) (h : S_X8_readsWord σ Q) : Ct l g yX8_readsWord cX8_readsWord 2 none 1 [.ref (gad g 8 0)] σ (QV Q) := by
  refine Ct.of (by decide +kernel) (Nat.le_of_ble_eq_true rfl) ?_
  intro p e R s m args below meth c C
  have C : Cx g p R s m args meth c cX8_readsWord 2 RX8 none 1 := C
  have j63 : ∀ (kb : Hp → Prop) (K79 : Hp → Prop) (z0 : Int64) (hkb : ∀ (σ : Hp), kb σ → G g p l e R s m args below meth c (QV Q) 2 5 [(0, .ref (gad g 8 0))] [] σ) (hK79 : ∀ (σ : Hp), K79 σ → G g p l e R s m args below meth c (QV Q) 2 79 [(0, .ref (gad g 8 0))] [] σ) (σ : Hp), J_X8_readsWord_63 Q kb K79 z0 σ → G g p l e R s m args below meth c (QV Q) 2 63 [(0, .ref (gad g 8 0))] [.long z0, .ref (gad g 8 0)] σ := by
    intro kb K79 z0 hkb hK79 σ h
    unfold J_X8_readsWord_63 at h
    refine pf_8_90 C dX8_readsWord_63 (cn_8 (by decide)) ?_
    have h := h _ rfl
    refine r_aload_n C dX8_readsWord_66 rfl 0 rfl ?_
    refine r_dup C dX8_readsWord_67 rfl ?_
    refine gf_8_67 C dX8_readsWord_68 (cn_8 (by decide)) ?_
    refine r_iconst C dX8_readsWord_71 ic_1 ?_
    refine r_iadd C dX8_readsWord_72 ?_
    refine pf_8_67 C dX8_readsWord_73 (cn_8 (by decide)) ?_
    have h := h _ rfl
    refine r_goto (tgt := 5) C dX8_readsWord_76 rfl ?_
    exact hkb _ h
  have l5 : ∀ (K79 : Hp → Prop) (hK79 : ∀ (σ : Hp), K79 σ → G g p l e R s m args below meth c (QV Q) 2 79 [(0, .ref (gad g 8 0))] [] σ) (n : Nat) (σ : Hp), L_X8_readsWord_5 Q K79 n σ → G g p l e R s m args below meth c (QV Q) 2 5 [(0, .ref (gad g 8 0))] [] σ := by
    intro K79 hK79 n
    induction n with
    | zero => intro σ h; exact False.elim h
    | succ n ih =>
      intro σ h
      unfold L_X8_readsWord_5 at h
      refine r_aload_n C dX8_readsWord_5 rfl 0 rfl ?_
      refine r_aload_n C dX8_readsWord_6 rfl 0 rfl ?_
      refine gf_8_67 C dX8_readsWord_7 (cn_8 (by decide)) ?_
      refine r_callVi [] C dX8_readsWord_10 w_8_70 (ok_X8_see l g _ _ _ h) (Nat.le_of_ble_eq_true rfl) rfl rfl ak_8 (cn_8 (by decide)) rfl rfl (Nat.le_of_ble_eq_true rfl) (fun r3 σ2 h => ?_)
      refine r_bipush C dX8_readsWord_13 bi_97 ?_
      refine r_bipush C dX8_readsWord_15 bi_122 ?_
      refine r_callSi [] C dX8_readsWord_17 w_8_80 (ok_X8_in l g _ _ _ _ _ h) (Nat.le_of_ble_eq_true rfl) rfl rfl (Nat.le_of_ble_eq_true rfl) (fun r5 σ4 h => ?_)
      refine r_if_eq (tgt := 79) C dX8_readsWord_20 rfl (fun q => ?_) (fun q => ?_)
      · have h := h.1 q
        exact hK79 _ h
      · have h := h.2 q
        refine r_aload_n C dX8_readsWord_23 rfl 0 rfl ?_
        refine r_aload_n C dX8_readsWord_24 rfl 0 rfl ?_
        refine gf_8_67 C dX8_readsWord_25 (cn_8 (by decide)) ?_
        refine r_aload_n C dX8_readsWord_28 rfl 0 rfl ?_
        refine gf_8_74 C dX8_readsWord_29 (cn_8 (by decide)) ?_
        refine r_isub C dX8_readsWord_32 ?_
        refine r_bipush C dX8_readsWord_33 bi_8 ?_
        refine r_icmp_ge (tgt := 59) C dX8_readsWord_35 rfl (fun q => ?_) (fun q => ?_)
        · have h := h.1 q
          refine r_aload_n C dX8_readsWord_59 rfl 0 rfl ?_
          refine gf_8_90 C dX8_readsWord_60 (cn_8 (by decide)) ?_
          exact j63 _ _ _ ih hK79 _ h
        · have h := h.2 q
          refine r_ldc2 (v := 256) C dX8_readsWord_38 u6_18 ?_
          refine r_aload_n C dX8_readsWord_41 rfl 0 rfl ?_
          refine gf_8_90 C dX8_readsWord_42 (cn_8 (by decide)) ?_
          refine r_lmul C dX8_readsWord_45 ?_
          refine r_aload_n C dX8_readsWord_46 rfl 0 rfl ?_
          refine r_aload_n C dX8_readsWord_47 rfl 0 rfl ?_
          refine gf_8_67 C dX8_readsWord_48 (cn_8 (by decide)) ?_
          refine r_callVi [.long _, .ref (gad g 8 0)] C dX8_readsWord_51 w_8_70 (ok_X8_see l g _ _ _ h) (Nat.le_of_ble_eq_true rfl) rfl rfl ak_8 (cn_8 (by decide)) rfl rfl (Nat.le_of_ble_eq_true rfl) (fun r9 σ8 h => ?_)
          refine r_i2l C dX8_readsWord_54 ?_
          refine r_ladd C dX8_readsWord_55 ?_
          refine r_goto (tgt := 63) C dX8_readsWord_56 rfl ?_
          exact j63 _ _ _ ih hK79 _ h
  have l112 : ∀ (K140 : Hp → Prop) (hK140 : ∀ (σ : Hp), K140 σ → G g p l e R s m args below meth c (QV Q) 2 140 [] [] σ) (n : Nat) (y1 : Int32) (σ : Hp), L_X8_readsWord_112 Q K140 n y1 σ → G g p l e R s m args below meth c (QV Q) 2 112 [(0, .ref (gad g 8 0)), (1, .int y1)] [] σ := by
    intro K140 hK140 n
    induction n with
    | zero => intro y1 σ h; exact False.elim h
    | succ n ih =>
      intro y1 σ h
      unfold L_X8_readsWord_112 at h
      refine r_iload_n C dX8_readsWord_112 rfl 1 rfl ?_
      refine r_bipush C dX8_readsWord_113 bi_8 ?_
      refine r_icmp_ge (tgt := 140) C dX8_readsWord_115 rfl (fun q => ?_) (fun q => ?_)
      · have h := h.1 q
        refine r_sub [] rfl ?_
        exact hK140 _ h
      · have h := h.2 q
        refine r_aload_n C dX8_readsWord_118 rfl 0 rfl ?_
        refine r_ldc2 (v := 256) C dX8_readsWord_119 u6_18 ?_
        refine r_aload_n C dX8_readsWord_122 rfl 0 rfl ?_
        refine gf_8_90 C dX8_readsWord_123 (cn_8 (by decide)) ?_
        refine r_lmul C dX8_readsWord_126 ?_
        refine r_ldc2 (v := 32) C dX8_readsWord_127 u6_19 ?_
        refine r_ladd C dX8_readsWord_130 ?_
        refine pf_8_90 C dX8_readsWord_131 (cn_8 (by decide)) ?_
        have h := h _ rfl
        refine r_iinc (v := y1 + 1) C dX8_readsWord_134 1 rfl rfl (Nat.le_of_ble_eq_true rfl) rfl ?_
        refine r_goto (tgt := 112) C dX8_readsWord_137 rfl ?_
        refine r_sub [1, 0] rfl ?_
        exact ih _ _ h
  have j99 : ∀ (z0 : Int32) (σ : Hp), J_X8_readsWord_99 Q z0 σ → G g p l e R s m args below meth c (QV Q) 2 99 [(0, .ref (gad g 8 0))] [.int z0, .ref (gad g 8 0)] σ := by
    intro z0 σ h
    unfold J_X8_readsWord_99 at h
    refine pf_8_77 C dX8_readsWord_99 (cn_8 (by decide)) ?_
    have h := h _ rfl
    refine r_aload_n C dX8_readsWord_102 rfl 0 rfl ?_
    refine gf_8_67 C dX8_readsWord_103 (cn_8 (by decide)) ?_
    refine r_aload_n C dX8_readsWord_106 rfl 0 rfl ?_
    refine gf_8_74 C dX8_readsWord_107 (cn_8 (by decide)) ?_
    refine r_isub C dX8_readsWord_110 ?_
    refine r_istore_n C dX8_readsWord_111 rfl (Nat.le_of_ble_eq_true rfl) rfl ?_
    refine r_sub [1, 0] rfl ?_
    obtain ⟨n14, h⟩ := h
    refine l112 _ (fun σ15 h => ?_) n14 _ _ h
    exact r_return C dX8_readsWord_140 ⟨rfl, h⟩
  unfold S_X8_readsWord at h
  show G g p l e R s m args below meth c (QV Q) 2 0 [(0, .ref (gad g 8 0))] [] σ
  refine r_aload_n C dX8_readsWord_0 rfl 0 rfl ?_
  refine r_lconst (v := 0) C dX8_readsWord_1 rfl ?_
  refine pf_8_90 C dX8_readsWord_2 (cn_8 (by decide)) ?_
  have h := h _ rfl
  obtain ⟨n10, h⟩ := h
  refine l5 _ (fun σ11 h => ?_) n10 _ h
  refine r_aload_n C dX8_readsWord_79 rfl 0 rfl ?_
  refine r_aload_n C dX8_readsWord_80 rfl 0 rfl ?_
  refine gf_8_67 C dX8_readsWord_81 (cn_8 (by decide)) ?_
  refine r_aload_n C dX8_readsWord_84 rfl 0 rfl ?_
  refine gf_8_74 C dX8_readsWord_85 (cn_8 (by decide)) ?_
  refine r_isub C dX8_readsWord_88 ?_
  refine r_bipush C dX8_readsWord_89 bi_8 ?_
  refine r_icmp_le (tgt := 98) C dX8_readsWord_91 rfl (fun q => ?_) (fun q => ?_)
  · have h := h.1 q
    refine r_iconst C dX8_readsWord_98 ic_2 ?_
    exact j99 _ _ h
  · have h := h.2 q
    refine r_iconst C dX8_readsWord_94 ic_1 ?_
    refine r_goto (tgt := 99) C dX8_readsWord_95 rfl ?_
    exact j99 _ _ h
def L_X8_goesOn_0 (Q : Hp → Prop) (K26 : Hp → Prop) : Nat → Hp → Prop
  | 0, _ => False
  | n + 1, σ =>
  S_X8_see (gI σ 8 0 17) σ (fun r2 σ1 => ((¬ r2 = 32 → K26 σ1) ∧ (r2 = 32 → ∀ σ3, σ3 = sI σ1 8 0 17 ((gI σ1 8 0 17) + 1) → L_X8_goesOn_0 Q K26 n σ3)))
def J_X8_goesOn_144 (Q : Hp → Prop) (kb : Hp → Prop) (K160 : Hp → Prop) (z0 : Int32) (σ : Hp) : Prop :=
  ∀ σ21, σ21 = sI σ 8 0 19 z0 → ∀ σ22, σ22 = sI σ21 8 0 17 ((gI σ21 8 0 17) + 1) → kb σ22
def L_X8_goesOn_86 (Q : Hp → Prop) (K160 : Hp → Prop) : Nat → Hp → Prop
  | 0, _ => False
  | n + 1, σ =>
  S_X8_see (gI σ 8 0 17) σ (fun r18 σ17 => S_X8_in r18 48 57 σ17 (fun r20 σ19 => ((r20 = 0 → K160 σ19) ∧ (¬ r20 = 0 → (((3 : Int32) ≤ ((gI σ19 8 0 17) - (gI σ19 8 0 16)) → J_X8_goesOn_144 Q (L_X8_goesOn_86 Q K160 n) K160 (gI σ19 8 0 19) σ19) ∧ (¬ (3 : Int32) ≤ ((gI σ19 8 0 17) - (gI σ19 8 0 16)) → S_X8_see (gI σ19 8 0 17) σ19 (fun r24 σ23 => J_X8_goesOn_144 Q (L_X8_goesOn_86 Q K160 n) K160 (((10 * (gI σ19 8 0 19)) + r24) - 48) σ23)))))))
def S_X8_goesOn (σ : Hp) (Q : Hp → Prop) : Prop :=
  (∃ n4, L_X8_goesOn_0 Q (fun σ5 => ∀ σ6, σ6 = sI σ5 8 0 16 (gI σ5 8 0 17) → S_X8_see (gI σ6 8 0 17) σ6 (fun r8 σ7 => ((¬ r8 = (-1) → S_X8_in r8 97 122 σ7 (fun r10 σ9 => ((r10 = 0 → S_X8_in r8 48 57 σ9 (fun r12 σ11 => ((r12 = 0 → ∀ σ13, σ13 = sI σ11 8 0 17 ((gI σ11 8 0 17) + 1) → ((¬ r8 = 59 → ∀ σ14, σ14 = sI σ13 8 0 18 1 → Q σ14) ∧ (r8 = 59 → ∀ σ15, σ15 = sI σ13 8 0 18 r8 → Q σ15))) ∧ (¬ r12 = 0 → ∀ σ16, σ16 = sI σ11 8 0 19 0 → (∃ n25, L_X8_goesOn_86 Q (fun σ26 => ((((gI σ26 8 0 17) - (gI σ26 8 0 16)) ≤ 3 → ∀ σ27, σ27 = sI σ26 8 0 18 3 → Q σ27) ∧ (¬ ((gI σ26 8 0 17) - (gI σ26 8 0 16)) ≤ 3 → ∀ σ28, σ28 = sI σ26 8 0 18 1 → Q σ28))) n25 σ16))))) ∧ (¬ r10 = 0 → S_X8_readsWord σ9 (fun σ29 => Q σ29))))) ∧ (r8 = (-1) → ∀ σ30, σ30 = sI σ7 8 0 18 0 → Q σ30)))) n4 σ)
set_option maxHeartbeats 2000000 in
set_option maxRecDepth 20000 in
theorem ok_X8_goesOn (l : Launch) (g : Gm) (σ : Hp) (Q : Hp → Prop) (h : S_X8_goesOn σ Q) : Ct l g yX8_goesOn cX8_goesOn 2 none 2 [.ref (gad g 8 0)] σ (QV Q) := by
  refine Ct.of (by decide +kernel) (Nat.le_of_ble_eq_true rfl) ?_
  intro p e R s m args below meth c C
  have C : Cx g p R s m args meth c cX8_goesOn 2 RX8 none 2 := C
  have l0 : ∀ (K26 : Hp → Prop) (hK26 : ∀ (σ : Hp), K26 σ → G g p l e R s m args below meth c (QV Q) 2 26 [(0, .ref (gad g 8 0))] [] σ) (n : Nat) (σ : Hp), L_X8_goesOn_0 Q K26 n σ → G g p l e R s m args below meth c (QV Q) 2 0 [(0, .ref (gad g 8 0))] [] σ := by
    intro K26 hK26 n
    induction n with
    | zero => intro σ h; exact False.elim h
    | succ n ih =>
      intro σ h
      unfold L_X8_goesOn_0 at h
      refine r_aload_n C dX8_goesOn_0 rfl 0 rfl ?_
      refine r_aload_n C dX8_goesOn_1 rfl 0 rfl ?_
      refine gf_8_67 C dX8_goesOn_2 (cn_8 (by decide)) ?_
      refine r_callVi [] C dX8_goesOn_5 w_8_70 (ok_X8_see l g _ _ _ h) (Nat.le_of_ble_eq_true rfl) rfl rfl ak_8 (cn_8 (by decide)) rfl rfl (Nat.le_of_ble_eq_true rfl) (fun r2 σ1 h => ?_)
      refine r_bipush C dX8_goesOn_8 bi_32 ?_
      refine r_icmp_ne (tgt := 26) C dX8_goesOn_10 rfl (fun q => ?_) (fun q => ?_)
      · have h := h.1 q
        exact hK26 _ h
      · have h := h.2 q
        refine r_aload_n C dX8_goesOn_13 rfl 0 rfl ?_
        refine r_dup C dX8_goesOn_14 rfl ?_
        refine gf_8_67 C dX8_goesOn_15 (cn_8 (by decide)) ?_
        refine r_iconst C dX8_goesOn_18 ic_1 ?_
        refine r_iadd C dX8_goesOn_19 ?_
        refine pf_8_67 C dX8_goesOn_20 (cn_8 (by decide)) ?_
        have h := h _ rfl
        refine r_goto (tgt := 0) C dX8_goesOn_23 rfl ?_
        exact ih _ h
  have j144 : ∀ (kb : Hp → Prop) (K160 : Hp → Prop) (z0 : Int32) (hkb : ∀ (σ : Hp), kb σ → G g p l e R s m args below meth c (QV Q) 2 86 [(0, .ref (gad g 8 0))] [] σ) (hK160 : ∀ (σ : Hp), K160 σ → G g p l e R s m args below meth c (QV Q) 2 160 [(0, .ref (gad g 8 0))] [] σ) (σ : Hp), J_X8_goesOn_144 Q kb K160 z0 σ → G g p l e R s m args below meth c (QV Q) 2 144 [(0, .ref (gad g 8 0))] [.int z0, .ref (gad g 8 0)] σ := by
    intro kb K160 z0 hkb hK160 σ h
    unfold J_X8_goesOn_144 at h
    refine pf_8_87 C dX8_goesOn_144 (cn_8 (by decide)) ?_
    have h := h _ rfl
    refine r_aload_n C dX8_goesOn_147 rfl 0 rfl ?_
    refine r_dup C dX8_goesOn_148 rfl ?_
    refine gf_8_67 C dX8_goesOn_149 (cn_8 (by decide)) ?_
    refine r_iconst C dX8_goesOn_152 ic_1 ?_
    refine r_iadd C dX8_goesOn_153 ?_
    refine pf_8_67 C dX8_goesOn_154 (cn_8 (by decide)) ?_
    have h := h _ rfl
    refine r_goto (tgt := 86) C dX8_goesOn_157 rfl ?_
    exact hkb _ h
  have l86 : ∀ (K160 : Hp → Prop) (hK160 : ∀ (σ : Hp), K160 σ → G g p l e R s m args below meth c (QV Q) 2 160 [(0, .ref (gad g 8 0))] [] σ) (n : Nat) (σ : Hp), L_X8_goesOn_86 Q K160 n σ → G g p l e R s m args below meth c (QV Q) 2 86 [(0, .ref (gad g 8 0))] [] σ := by
    intro K160 hK160 n
    induction n with
    | zero => intro σ h; exact False.elim h
    | succ n ih =>
      intro σ h
      unfold L_X8_goesOn_86 at h
      refine r_aload_n C dX8_goesOn_86 rfl 0 rfl ?_
      refine r_aload_n C dX8_goesOn_87 rfl 0 rfl ?_
      refine gf_8_67 C dX8_goesOn_88 (cn_8 (by decide)) ?_
      refine r_callVi [] C dX8_goesOn_91 w_8_70 (ok_X8_see l g _ _ _ h) (Nat.le_of_ble_eq_true rfl) rfl rfl ak_8 (cn_8 (by decide)) rfl rfl (Nat.le_of_ble_eq_true rfl) (fun r18 σ17 h => ?_)
      refine r_bipush C dX8_goesOn_94 bi_48 ?_
      refine r_bipush C dX8_goesOn_96 bi_57 ?_
      refine r_callSi [] C dX8_goesOn_98 w_8_80 (ok_X8_in l g _ _ _ _ _ h) (Nat.le_of_ble_eq_true rfl) rfl rfl (Nat.le_of_ble_eq_true rfl) (fun r20 σ19 h => ?_)
      refine r_if_eq (tgt := 160) C dX8_goesOn_101 rfl (fun q => ?_) (fun q => ?_)
      · have h := h.1 q
        exact hK160 _ h
      · have h := h.2 q
        refine r_aload_n C dX8_goesOn_104 rfl 0 rfl ?_
        refine r_aload_n C dX8_goesOn_105 rfl 0 rfl ?_
        refine gf_8_67 C dX8_goesOn_106 (cn_8 (by decide)) ?_
        refine r_aload_n C dX8_goesOn_109 rfl 0 rfl ?_
        refine gf_8_74 C dX8_goesOn_110 (cn_8 (by decide)) ?_
        refine r_isub C dX8_goesOn_113 ?_
        refine r_iconst C dX8_goesOn_114 ic_3 ?_
        refine r_icmp_ge (tgt := 140) C dX8_goesOn_115 rfl (fun q => ?_) (fun q => ?_)
        · have h := h.1 q
          refine r_aload_n C dX8_goesOn_140 rfl 0 rfl ?_
          refine gf_8_87 C dX8_goesOn_141 (cn_8 (by decide)) ?_
          exact j144 _ _ _ ih hK160 _ h
        · have h := h.2 q
          refine r_bipush C dX8_goesOn_118 bi_10 ?_
          refine r_aload_n C dX8_goesOn_120 rfl 0 rfl ?_
          refine gf_8_87 C dX8_goesOn_121 (cn_8 (by decide)) ?_
          refine r_imul C dX8_goesOn_124 ?_
          refine r_aload_n C dX8_goesOn_125 rfl 0 rfl ?_
          refine r_aload_n C dX8_goesOn_126 rfl 0 rfl ?_
          refine gf_8_67 C dX8_goesOn_127 (cn_8 (by decide)) ?_
          refine r_callVi [.int _, .ref (gad g 8 0)] C dX8_goesOn_130 w_8_70 (ok_X8_see l g _ _ _ h) (Nat.le_of_ble_eq_true rfl) rfl rfl ak_8 (cn_8 (by decide)) rfl rfl (Nat.le_of_ble_eq_true rfl) (fun r24 σ23 h => ?_)
          refine r_iadd C dX8_goesOn_133 ?_
          refine r_bipush C dX8_goesOn_134 bi_48 ?_
          refine r_isub C dX8_goesOn_136 ?_
          refine r_goto (tgt := 144) C dX8_goesOn_137 rfl ?_
          exact j144 _ _ _ ih hK160 _ h
  unfold S_X8_goesOn at h
  show G g p l e R s m args below meth c (QV Q) 2 0 [(0, .ref (gad g 8 0))] [] σ
  obtain ⟨n4, h⟩ := h
  refine l0 _ (fun σ5 h => ?_) n4 _ h
  refine r_aload_n C dX8_goesOn_26 rfl 0 rfl ?_
  refine r_aload_n C dX8_goesOn_27 rfl 0 rfl ?_
  refine gf_8_67 C dX8_goesOn_28 (cn_8 (by decide)) ?_
  refine pf_8_74 C dX8_goesOn_31 (cn_8 (by decide)) ?_
  have h := h _ rfl
  refine r_aload_n C dX8_goesOn_34 rfl 0 rfl ?_
  refine r_aload_n C dX8_goesOn_35 rfl 0 rfl ?_
  refine gf_8_67 C dX8_goesOn_36 (cn_8 (by decide)) ?_
  refine r_callVi [] C dX8_goesOn_39 w_8_70 (ok_X8_see l g _ _ _ h) (Nat.le_of_ble_eq_true rfl) rfl rfl ak_8 (cn_8 (by decide)) rfl rfl (Nat.le_of_ble_eq_true rfl) (fun r8 σ7 h => ?_)
  refine r_istore_n C dX8_goesOn_42 rfl (Nat.le_of_ble_eq_true rfl) rfl ?_
  refine r_iload_n C dX8_goesOn_43 rfl 0 rfl ?_
  refine r_iconst C dX8_goesOn_44 ic_m1 ?_
  refine r_icmp_ne (tgt := 54) C dX8_goesOn_45 rfl (fun q => ?_) (fun q => ?_)
  · have h := h.1 q
    refine r_iload_n C dX8_goesOn_54 rfl 0 rfl ?_
    refine r_bipush C dX8_goesOn_55 bi_97 ?_
    refine r_bipush C dX8_goesOn_57 bi_122 ?_
    refine r_callSi [] C dX8_goesOn_59 w_8_80 (ok_X8_in l g _ _ _ _ _ h) (Nat.le_of_ble_eq_true rfl) rfl rfl (Nat.le_of_ble_eq_true rfl) (fun r10 σ9 h => ?_)
    refine r_if_eq (tgt := 70) C dX8_goesOn_62 rfl (fun q => ?_) (fun q => ?_)
    · have h := h.1 q
      refine r_iload_n C dX8_goesOn_70 rfl 0 rfl ?_
      refine r_bipush C dX8_goesOn_71 bi_48 ?_
      refine r_bipush C dX8_goesOn_73 bi_57 ?_
      refine r_callSi [] C dX8_goesOn_75 w_8_80 (ok_X8_in l g _ _ _ _ _ h) (Nat.le_of_ble_eq_true rfl) rfl rfl (Nat.le_of_ble_eq_true rfl) (fun r12 σ11 h => ?_)
      refine r_if_eq (tgt := 183) C dX8_goesOn_78 rfl (fun q => ?_) (fun q => ?_)
      · have h := h.1 q
        refine r_aload_n C dX8_goesOn_183 rfl 1 rfl ?_
        refine r_dup C dX8_goesOn_184 rfl ?_
        refine gf_8_67 C dX8_goesOn_185 (cn_8 (by decide)) ?_
        refine r_iconst C dX8_goesOn_188 ic_1 ?_
        refine r_iadd C dX8_goesOn_189 ?_
        refine pf_8_67 C dX8_goesOn_190 (cn_8 (by decide)) ?_
        have h := h _ rfl
        refine r_aload_n C dX8_goesOn_193 rfl 1 rfl ?_
        refine r_iload_n C dX8_goesOn_194 rfl 0 rfl ?_
        refine r_bipush C dX8_goesOn_195 bi_59 ?_
        refine r_icmp_ne (tgt := 204) C dX8_goesOn_197 rfl (fun q => ?_) (fun q => ?_)
        · have h := h.1 q
          refine r_iconst C dX8_goesOn_204 ic_1 ?_
          refine pf_8_77 C dX8_goesOn_205 (cn_8 (by decide)) ?_
          have h := h _ rfl
          exact r_return C dX8_goesOn_208 ⟨rfl, h⟩
        · have h := h.2 q
          refine r_iload_n C dX8_goesOn_200 rfl 0 rfl ?_
          refine r_goto (tgt := 205) C dX8_goesOn_201 rfl ?_
          refine pf_8_77 C dX8_goesOn_205 (cn_8 (by decide)) ?_
          have h := h _ rfl
          exact r_return C dX8_goesOn_208 ⟨rfl, h⟩
      · have h := h.2 q
        refine r_aload_n C dX8_goesOn_81 rfl 1 rfl ?_
        refine r_iconst C dX8_goesOn_82 ic_0 ?_
        refine pf_8_87 C dX8_goesOn_83 (cn_8 (by decide)) ?_
        have h := h _ rfl
        refine r_sub [1] rfl ?_
        obtain ⟨n25, h⟩ := h
        refine l86 _ (fun σ26 h => ?_) n25 _ h
        refine r_aload_n C dX8_goesOn_160 rfl 0 rfl ?_
        refine r_aload_n C dX8_goesOn_161 rfl 0 rfl ?_
        refine gf_8_67 C dX8_goesOn_162 (cn_8 (by decide)) ?_
        refine r_aload_n C dX8_goesOn_165 rfl 0 rfl ?_
        refine gf_8_74 C dX8_goesOn_166 (cn_8 (by decide)) ?_
        refine r_isub C dX8_goesOn_169 ?_
        refine r_iconst C dX8_goesOn_170 ic_3 ?_
        refine r_icmp_le (tgt := 178) C dX8_goesOn_171 rfl (fun q => ?_) (fun q => ?_)
        · have h := h.1 q
          refine r_iconst C dX8_goesOn_178 ic_3 ?_
          refine pf_8_77 C dX8_goesOn_179 (cn_8 (by decide)) ?_
          have h := h _ rfl
          exact r_return C dX8_goesOn_182 ⟨rfl, h⟩
        · have h := h.2 q
          refine r_iconst C dX8_goesOn_174 ic_1 ?_
          refine r_goto (tgt := 179) C dX8_goesOn_175 rfl ?_
          refine pf_8_77 C dX8_goesOn_179 (cn_8 (by decide)) ?_
          have h := h _ rfl
          exact r_return C dX8_goesOn_182 ⟨rfl, h⟩
    · have h := h.2 q
      refine r_aload_n C dX8_goesOn_65 rfl 1 rfl ?_
      refine r_callVv [] C dX8_goesOn_66 w_8_84 (ok_X8_readsWord l g _ _ h) (Nat.le_of_ble_eq_true rfl) rfl rfl ak_8 (cn_8 (by decide)) rfl rfl (Nat.le_of_ble_eq_true rfl) (fun σ29 h => ?_)
      exact r_return C dX8_goesOn_69 ⟨rfl, h⟩
  · have h := h.2 q
    refine r_aload_n C dX8_goesOn_48 rfl 1 rfl ?_
    refine r_iconst C dX8_goesOn_49 ic_0 ?_
    refine pf_8_77 C dX8_goesOn_50 (cn_8 (by decide)) ?_
    have h := h _ rfl
    exact r_return C dX8_goesOn_53 ⟨rfl, h⟩
def L_X8_isWord_28 (Q : Int32 → Hp → Prop) (K63 : Hp → Prop) (K55 : Hp → Prop) (j1 : Nat) : Nat → Int32 → Hp → Prop
  | 0, _, _ => False
  | n + 1, y2, σ =>
  (((Int32.ofNat (slen.getD j1 0)) ≤ y2 → K63 σ) ∧ (¬ (Int32.ofNat (slen.getD j1 0)) ≤ y2 → vp_in ((gI σ 8 0 16) + y2) 900 ∧ vp_in y2 (slen.getD j1 0) ∧ (((gI σ 52 0 (ix ((gI σ 8 0 16) + y2))) = ((sbyt.getD j1 []).getD (ix y2) 0) → L_X8_isWord_28 Q K63 K55 j1 n (y2 + 1) σ) ∧ (¬ (gI σ 52 0 (ix ((gI σ 8 0 16) + y2))) = ((sbyt.getD j1 []).getD (ix y2) 0) → K55 σ))))
def S_X8_isWord (j1 : Nat) (σ : Hp) (Q : Int32 → Hp → Prop) : Prop :=
  ((¬ (gI σ 8 0 18) = 2 → Q 0 σ) ∧ ((gI σ 8 0 18) = 2 → ((((gI σ 8 0 17) - (gI σ 8 0 16)) = (Int32.ofNat (slen.getD j1 0)) → (∃ n1, L_X8_isWord_28 Q (fun σ2 => Q 1 σ2) (fun σ3 => Q 0 σ3) j1 n1 0 σ)) ∧ (¬ ((gI σ 8 0 17) - (gI σ 8 0 16)) = (Int32.ofNat (slen.getD j1 0)) → Q 0 σ))))
set_option maxHeartbeats 2000000 in
set_option maxRecDepth 20000 in
theorem ok_X8_isWord (l : Launch) (g : Gm) (j1 : Nat) (hj1 : j1 < 13) (σ : Hp) (Q : Int32 → Hp → Prop) (h : S_X8_isWord j1 σ Q) : Ct l g yX8_isWord cX8_isWord 3 (some .boolean) 4 [.ref (gad g 8 0), .ref (gK g j1)] σ (QI Q) := by
  refine Ct.of (by decide +kernel) (Nat.le_of_ble_eq_true rfl) ?_
  intro p e R s m args below meth c C
  have C : Cx g p R s m args meth c cX8_isWord 3 RX8 (some .boolean) 4 := C
  have l28 : ∀ (K63 : Hp → Prop) (K55 : Hp → Prop) (hK63 : ∀ (σ : Hp), K63 σ → G g p l e R s m args below meth c (QI Q) 3 63 [] [] σ) (hK55 : ∀ (σ : Hp), K55 σ → G g p l e R s m args below meth c (QI Q) 3 55 [] [] σ) (n : Nat) (y2 : Int32) (σ : Hp), L_X8_isWord_28 Q K63 K55 j1 n y2 σ → G g p l e R s m args below meth c (QI Q) 3 28 [(0, .ref (gad g 8 0)), (1, .ref (gK g j1)), (2, .int y2)] [] σ := by
    intro K63 K55 hK63 hK55 n
    induction n with
    | zero => intro y2 σ h; exact False.elim h
    | succ n ih =>
      intro y2 σ h
      unfold L_X8_isWord_28 at h
      refine r_iload_n C dX8_isWord_28 rfl 2 rfl ?_
      refine r_aload_n C dX8_isWord_29 rfl 1 rfl ?_
      refine r_strlen C dX8_isWord_30 hj1 (Nat.le_of_ble_eq_true rfl) (Nat.le_of_ble_eq_true rfl) ?_
      refine r_icmp_ge (tgt := 63) C dX8_isWord_33 rfl (fun q => ?_) (fun q => ?_)
      · have h := h.1 q
        refine r_sub [] rfl ?_
        exact hK63 _ h
      · have h := h.2 q
        refine r_aload_n C dX8_isWord_36 rfl 0 rfl ?_
        refine gf_8_13 C dX8_isWord_37 (cn_8 (by decide)) ?_
        refine r_aload_n C dX8_isWord_40 rfl 0 rfl ?_
        refine gf_8_74 C dX8_isWord_41 (cn_8 (by decide)) ?_
        refine r_iload_n C dX8_isWord_44 rfl 2 rfl ?_
        refine r_iadd C dX8_isWord_45 ?_
        obtain ⟨h0, h⟩ := h
        refine r_iaload C dX8_isWord_46 ak_52 (cn_52 (by decide)) al_52 h0 ?_
        refine r_aload_n C dX8_isWord_47 rfl 1 rfl ?_
        refine r_iload_n C dX8_isWord_48 rfl 2 rfl ?_
        obtain ⟨h0, h⟩ := h
        refine r_charAt C dX8_isWord_49 hj1 h0 (Nat.le_of_ble_eq_true rfl) (Nat.le_of_ble_eq_true rfl) ?_
        refine r_icmp_eq (tgt := 57) C dX8_isWord_52 rfl (fun q => ?_) (fun q => ?_)
        · have h := h.1 q
          refine r_iinc (v := y2 + 1) C dX8_isWord_57 2 rfl rfl (Nat.le_of_ble_eq_true rfl) rfl ?_
          refine r_goto (tgt := 28) C dX8_isWord_60 rfl ?_
          refine r_sub [1, 2, 0] rfl ?_
          exact ih _ _ h
        · have h := h.2 q
          refine r_sub [] rfl ?_
          exact hK55 _ h
  unfold S_X8_isWord at h
  show G g p l e R s m args below meth c (QI Q) 3 0 [(0, .ref (gad g 8 0)), (1, .ref (gK g j1))] [] σ
  refine r_aload_n C dX8_isWord_0 rfl 0 rfl ?_
  refine gf_8_77 C dX8_isWord_1 (cn_8 (by decide)) ?_
  refine r_iconst C dX8_isWord_4 ic_2 ?_
  refine r_icmp_ne (tgt := 24) C dX8_isWord_5 rfl (fun q => ?_) (fun q => ?_)
  · have h := h.1 q
    refine r_iconst C dX8_isWord_24 ic_0 ?_
    exact r_zreturn C dX8_isWord_25 zb0.1 ⟨_, rfl, h⟩
  · have h := h.2 q
    refine r_aload_n C dX8_isWord_8 rfl 0 rfl ?_
    refine gf_8_67 C dX8_isWord_9 (cn_8 (by decide)) ?_
    refine r_aload_n C dX8_isWord_12 rfl 0 rfl ?_
    refine gf_8_74 C dX8_isWord_13 (cn_8 (by decide)) ?_
    refine r_isub C dX8_isWord_16 ?_
    refine r_aload_n C dX8_isWord_17 rfl 1 rfl ?_
    refine r_strlen C dX8_isWord_18 hj1 (Nat.le_of_ble_eq_true rfl) (Nat.le_of_ble_eq_true rfl) ?_
    refine r_icmp_eq (tgt := 26) C dX8_isWord_21 rfl (fun q => ?_) (fun q => ?_)
    · have h := h.1 q
      refine r_iconst C dX8_isWord_26 ic_0 ?_
      refine r_istore_n C dX8_isWord_27 rfl (Nat.le_of_ble_eq_true rfl) rfl ?_
      refine r_sub [1, 2, 0] rfl ?_
      obtain ⟨n1, h⟩ := h
      refine l28 _ _ (fun σ2 h => ?_) (fun σ3 h => ?_) n1 _ _ h
      · refine r_iconst C dX8_isWord_63 ic_1 ?_
        exact r_zreturn C dX8_isWord_64 zb1.1 ⟨_, rfl, h⟩
      · refine r_iconst C dX8_isWord_55 ic_0 ?_
        exact r_zreturn C dX8_isWord_56 zb0.1 ⟨_, rfl, h⟩
    · have h := h.2 q
      refine r_iconst C dX8_isWord_24 ic_0 ?_
      exact r_zreturn C dX8_isWord_25 zb0.1 ⟨_, rfl, h⟩
def S_X8_errs (x1 : Int32) (σ : Hp) (Q : Int32 → Hp → Prop) : Prop :=
  ∀ σ1, σ1 = sI σ 8 0 21 x1 → ∀ σ2, σ2 = sI σ1 8 0 22 (gI σ1 8 0 16) → Q (-1) σ2
set_option maxHeartbeats 2000000 in
set_option maxRecDepth 20000 in
theorem ok_X8_errs (l : Launch) (g : Gm) (x1 : Int32) (σ : Hp) (Q : Int32 → Hp → Prop) (h : S_X8_errs x1 σ Q) : Ct l g yX8_errs cX8_errs 2 (some .int) 0 [.ref (gad g 8 0), .int x1] σ (QI Q) := by
  refine Ct.of (by decide +kernel) (Nat.le_of_ble_eq_true rfl) ?_
  intro p e R s m args below meth c C
  have C : Cx g p R s m args meth c cX8_errs 2 RX8 (some .int) 0 := C
  unfold S_X8_errs at h
  show G g p l e R s m args below meth c (QI Q) 2 0 [(0, .ref (gad g 8 0)), (1, .int x1)] [] σ
  refine r_aload_n C dX8_errs_0 rfl 0 rfl ?_
  refine r_iload_n C dX8_errs_1 rfl 1 rfl ?_
  refine pf_8_108 C dX8_errs_2 (cn_8 (by decide)) ?_
  have h := h _ rfl
  refine r_aload_n C dX8_errs_5 rfl 0 rfl ?_
  refine r_aload_n C dX8_errs_6 rfl 0 rfl ?_
  refine gf_8_74 C dX8_errs_7 (cn_8 (by decide)) ?_
  refine pf_8_111 C dX8_errs_10 (cn_8 (by decide)) ?_
  have h := h _ rfl
  refine r_iconst C dX8_errs_13 ic_m1 ?_
  exact r_ireturn C dX8_errs_14 ⟨_, rfl, h⟩
def S_X8_passes (x1 : Int32) (x2 : Int32) (σ : Hp) (Q : Int32 → Hp → Prop) : Prop :=
  (((gI σ 8 0 18) = 3 → S_X8_in (gI σ 8 0 19) x1 x2 σ (fun r2 σ1 => ((¬ r2 = 0 → S_X8_goesOn σ1 (fun σ3 => Q (gI σ 8 0 19) σ3)) ∧ (r2 = 0 → S_X8_errs 4 σ1 (fun r5 σ4 => Q r5 σ4))))) ∧ (¬ (gI σ 8 0 18) = 3 → S_X8_errs 1 σ (fun r7 σ6 => Q r7 σ6)))
set_option maxHeartbeats 2000000 in
set_option maxRecDepth 20000 in
theorem ok_X8_passes (l : Launch) (g : Gm) (x1 : Int32) (x2 : Int32) (σ : Hp) (Q : Int32 → Hp → Prop) (h : S_X8_passes x1 x2 σ Q) : Ct l g yX8_passes cX8_passes 4 (some .int) 3 [.ref (gad g 8 0), .int x1, .int x2] σ (QI Q) := by
  refine Ct.of (by decide +kernel) (Nat.le_of_ble_eq_true rfl) ?_
  intro p e R s m args below meth c C
  have C : Cx g p R s m args meth c cX8_passes 4 RX8 (some .int) 3 := C
  unfold S_X8_passes at h
  show G g p l e R s m args below meth c (QI Q) 4 0 [(0, .ref (gad g 8 0)), (1, .int x1), (2, .int x2)] [] σ
  refine r_aload_n C dX8_passes_0 rfl 0 rfl ?_
  refine gf_8_77 C dX8_passes_1 (cn_8 (by decide)) ?_
  refine r_iconst C dX8_passes_4 ic_3 ?_
  refine r_icmp_eq (tgt := 14) C dX8_passes_5 rfl (fun q => ?_) (fun q => ?_)
  · have h := h.1 q
    refine r_aload_n C dX8_passes_14 rfl 0 rfl ?_
    refine gf_8_87 C dX8_passes_15 (cn_8 (by decide)) ?_
    refine r_istore_n C dX8_passes_18 rfl (Nat.le_of_ble_eq_true rfl) rfl ?_
    refine r_iload_n C dX8_passes_19 rfl 0 rfl ?_
    refine r_iload_n C dX8_passes_20 rfl 2 rfl ?_
    refine r_iload_n C dX8_passes_21 rfl 3 rfl ?_
    refine r_callSi [] C dX8_passes_22 w_8_80 (ok_X8_in l g _ _ _ _ _ h) (Nat.le_of_ble_eq_true rfl) rfl rfl (Nat.le_of_ble_eq_true rfl) (fun r2 σ1 h => ?_)
    refine r_if_ne (tgt := 34) C dX8_passes_25 rfl (fun q => ?_) (fun q => ?_)
    · have h := h.1 q
      refine r_aload_n C dX8_passes_34 rfl 1 rfl ?_
      refine r_callVv [] C dX8_passes_35 w_8_117 (ok_X8_goesOn l g _ _ h) (Nat.le_of_ble_eq_true rfl) rfl rfl ak_8 (cn_8 (by decide)) rfl rfl (Nat.le_of_ble_eq_true rfl) (fun σ3 h => ?_)
      refine r_iload_n C dX8_passes_38 rfl 0 rfl ?_
      exact r_ireturn C dX8_passes_39 ⟨_, rfl, h⟩
    · have h := h.2 q
      refine r_aload_n C dX8_passes_28 rfl 1 rfl ?_
      refine r_iconst C dX8_passes_29 ic_4 ?_
      refine r_callVi [] C dX8_passes_30 w_8_114 (ok_X8_errs l g _ _ _ h) (Nat.le_of_ble_eq_true rfl) rfl rfl ak_8 (cn_8 (by decide)) rfl rfl (Nat.le_of_ble_eq_true rfl) (fun r5 σ4 h => ?_)
      exact r_ireturn C dX8_passes_33 ⟨_, rfl, h⟩
  · have h := h.2 q
    refine r_aload_n C dX8_passes_8 rfl 0 rfl ?_
    refine r_iconst C dX8_passes_9 ic_1 ?_
    refine r_callVi [] C dX8_passes_10 w_8_114 (ok_X8_errs l g _ _ _ h) (Nat.le_of_ble_eq_true rfl) rfl rfl ak_8 (cn_8 (by decide)) rfl rfl (Nat.le_of_ble_eq_true rfl) (fun r7 σ6 h => ?_)
    exact r_ireturn C dX8_passes_13 ⟨_, rfl, h⟩
def S_X8_after (j1 : Nat) (x2 : Int32) (x3 : Int32) (σ : Hp) (Q : Int32 → Hp → Prop) : Prop :=
  S_X8_isWord j1 σ (fun r2 σ1 => ((¬ r2 = 0 → S_X8_goesOn σ1 (fun σ3 => S_X8_passes x2 x3 σ3 (fun r5 σ4 => Q r5 σ4))) ∧ (r2 = 0 → S_X8_errs 1 σ1 (fun r7 σ6 => Q r7 σ6))))
set_option maxHeartbeats 2000000 in
set_option maxRecDepth 20000 in
theorem ok_X8_after (l : Launch) (g : Gm) (j1 : Nat) (hj1 : j1 < 13) (x2 : Int32) (x3 : Int32) (σ : Hp) (Q : Int32 → Hp → Prop) (h : S_X8_after j1 x2 x3 σ Q) : Ct l g yX8_after cX8_after 4 (some .int) 5 [.ref (gad g 8 0), .ref (gK g j1), .int x2, .int x3] σ (QI Q) := by
  refine Ct.of (by decide +kernel) (Nat.le_of_ble_eq_true rfl) ?_
  intro p e R s m args below meth c C
  have C : Cx g p R s m args meth c cX8_after 4 RX8 (some .int) 5 := C
  unfold S_X8_after at h
  show G g p l e R s m args below meth c (QI Q) 4 0 [(0, .ref (gad g 8 0)), (1, .ref (gK g j1)), (2, .int x2), (3, .int x3)] [] σ
  refine r_aload_n C dX8_after_0 rfl 0 rfl ?_
  refine r_aload_n C dX8_after_1 rfl 1 rfl ?_
  refine r_callVi [] C dX8_after_2 w_8_120 (ok_X8_isWord l g j1 hj1 _ _ h) (Nat.le_of_ble_eq_true rfl) rfl rfl ak_8 (cn_8 (by decide)) rfl rfl (Nat.le_of_ble_eq_true rfl) (fun r2 σ1 h => ?_)
  refine r_if_ne (tgt := 14) C dX8_after_5 rfl (fun q => ?_) (fun q => ?_)
  · have h := h.1 q
    refine r_aload_n C dX8_after_14 rfl 0 rfl ?_
    refine r_callVv [] C dX8_after_15 w_8_117 (ok_X8_goesOn l g _ _ h) (Nat.le_of_ble_eq_true rfl) rfl rfl ak_8 (cn_8 (by decide)) rfl rfl (Nat.le_of_ble_eq_true rfl) (fun σ3 h => ?_)
    refine r_aload_n C dX8_after_18 rfl 0 rfl ?_
    refine r_iload_n C dX8_after_19 rfl 2 rfl ?_
    refine r_iload_n C dX8_after_20 rfl 3 rfl ?_
    refine r_callVi [] C dX8_after_21 w_8_124 (ok_X8_passes l g _ _ _ _ h) (Nat.le_of_ble_eq_true rfl) rfl rfl ak_8 (cn_8 (by decide)) rfl rfl (Nat.le_of_ble_eq_true rfl) (fun r5 σ4 h => ?_)
    exact r_ireturn C dX8_after_24 ⟨_, rfl, h⟩
  · have h := h.2 q
    refine r_aload_n C dX8_after_8 rfl 0 rfl ?_
    refine r_iconst C dX8_after_9 ic_1 ?_
    refine r_callVi [] C dX8_after_10 w_8_114 (ok_X8_errs l g _ _ _ h) (Nat.le_of_ble_eq_true rfl) rfl rfl ak_8 (cn_8 (by decide)) rfl rfl (Nat.le_of_ble_eq_true rfl) (fun r7 σ6 h => ?_)
    exact r_ireturn C dX8_after_13 ⟨_, rfl, h⟩
def S_X8_isName (σ : Hp) (Q : Int32 → Hp → Prop) : Prop :=
  ((¬ (gI σ 8 0 18) = 2 → Q 0 σ) ∧ ((gI σ 8 0 18) = 2 → S_X8_isWord 0 σ (fun r2 σ1 => ((¬ r2 = 0 → Q 0 σ1) ∧ (r2 = 0 → S_X8_isWord 6 σ1 (fun r4 σ3 => ((¬ r4 = 0 → Q 0 σ3) ∧ (r4 = 0 → S_X8_isWord 7 σ3 (fun r6 σ5 => ((¬ r6 = 0 → Q 0 σ5) ∧ (r6 = 0 → Q 1 σ5)))))))))))
set_option maxHeartbeats 2000000 in
set_option maxRecDepth 20000 in
theorem ok_X8_isName (l : Launch) (g : Gm) (σ : Hp) (Q : Int32 → Hp → Prop) (h : S_X8_isName σ Q) : Ct l g yX8_isName cX8_isName 1 (some .boolean) 5 [.ref (gad g 8 0)] σ (QI Q) := by
  refine Ct.of (by decide +kernel) (Nat.le_of_ble_eq_true rfl) ?_
  intro p e R s m args below meth c C
  have C : Cx g p R s m args meth c cX8_isName 1 RX8 (some .boolean) 5 := C
  unfold S_X8_isName at h
  show G g p l e R s m args below meth c (QI Q) 1 0 [(0, .ref (gad g 8 0))] [] σ
  refine r_aload_n C dX8_isName_0 rfl 0 rfl ?_
  refine gf_8_77 C dX8_isName_1 (cn_8 (by decide)) ?_
  refine r_iconst C dX8_isName_4 ic_2 ?_
  refine r_icmp_ne (tgt := 39) C dX8_isName_5 rfl (fun q => ?_) (fun q => ?_)
  · have h := h.1 q
    refine r_iconst C dX8_isName_39 ic_0 ?_
    exact r_zreturn C dX8_isName_40 zb0.1 ⟨_, rfl, h⟩
  · have h := h.2 q
    refine r_aload_n C dX8_isName_8 rfl 0 rfl ?_
    refine r_ldcS (j := 0) C dX8_isName_9 (by decide) rfl ?_
    refine r_callVi [] C dX8_isName_11 w_8_120 (ok_X8_isWord l g 0 (by decide) _ _ h) (Nat.le_of_ble_eq_true rfl) rfl rfl ak_8 (cn_8 (by decide)) rfl rfl (Nat.le_of_ble_eq_true rfl) (fun r2 σ1 h => ?_)
    refine r_if_ne (tgt := 39) C dX8_isName_14 rfl (fun q => ?_) (fun q => ?_)
    · have h := h.1 q
      refine r_iconst C dX8_isName_39 ic_0 ?_
      exact r_zreturn C dX8_isName_40 zb0.1 ⟨_, rfl, h⟩
    · have h := h.2 q
      refine r_aload_n C dX8_isName_17 rfl 0 rfl ?_
      refine r_ldcS (j := 6) C dX8_isName_18 (by decide) rfl ?_
      refine r_callVi [] C dX8_isName_20 w_8_120 (ok_X8_isWord l g 6 (by decide) _ _ h) (Nat.le_of_ble_eq_true rfl) rfl rfl ak_8 (cn_8 (by decide)) rfl rfl (Nat.le_of_ble_eq_true rfl) (fun r4 σ3 h => ?_)
      refine r_if_ne (tgt := 39) C dX8_isName_23 rfl (fun q => ?_) (fun q => ?_)
      · have h := h.1 q
        refine r_iconst C dX8_isName_39 ic_0 ?_
        exact r_zreturn C dX8_isName_40 zb0.1 ⟨_, rfl, h⟩
      · have h := h.2 q
        refine r_aload_n C dX8_isName_26 rfl 0 rfl ?_
        refine r_ldcS (j := 7) C dX8_isName_27 (by decide) rfl ?_
        refine r_callVi [] C dX8_isName_29 w_8_120 (ok_X8_isWord l g 7 (by decide) _ _ h) (Nat.le_of_ble_eq_true rfl) rfl rfl ak_8 (cn_8 (by decide)) rfl rfl (Nat.le_of_ble_eq_true rfl) (fun r6 σ5 h => ?_)
        refine r_if_ne (tgt := 39) C dX8_isName_32 rfl (fun q => ?_) (fun q => ?_)
        · have h := h.1 q
          refine r_iconst C dX8_isName_39 ic_0 ?_
          exact r_zreturn C dX8_isName_40 zb0.1 ⟨_, rfl, h⟩
        · have h := h.2 q
          refine r_iconst C dX8_isName_35 ic_1 ?_
          refine r_goto (tgt := 40) C dX8_isName_36 rfl ?_
          exact r_zreturn C dX8_isName_40 zb1.1 ⟨_, rfl, h⟩
def L_X8_told_2 (Q : Int32 → Hp → Prop) (K34 : Hp → Prop) (K26 : Int32 → Hp → Prop) : Nat → Int32 → Hp → Prop
  | 0, _, _ => False
  | n + 1, y1, σ =>
  vp_in 5 7 ∧ (((gI σ 54 0 (ix 5)) ≤ y1 → K34 σ) ∧ (¬ (gI σ 54 0 (ix 5)) ≤ y1 → vp_in y1 14 ∧ ((¬ (lg_cmp (gL σ 60 0 (ix y1)) (gL σ 8 0 20)) = 0 → L_X8_told_2 Q K34 K26 n (y1 + 1) σ) ∧ ((lg_cmp (gL σ 60 0 (ix y1)) (gL σ 8 0 20)) = 0 → K26 y1 σ))))
def L_X8_told_36 (Q : Int32 → Hp → Prop) (K75 : Hp → Prop) (K64 : Int32 → Hp → Prop) : Nat → Int32 → Hp → Prop
  | 0, _, _ => False
  | n + 1, y1, σ =>
  vp_in 6 7 ∧ (((gI σ 54 0 (ix 6)) ≤ y1 → K75 σ) ∧ (¬ (gI σ 54 0 (ix 6)) ≤ y1 → vp_in (6 + y1) 14 ∧ ((¬ (lg_cmp (gL σ 60 0 (ix (6 + y1))) (gL σ 8 0 20)) = 0 → L_X8_told_36 Q K75 K64 n (y1 + 1) σ) ∧ ((lg_cmp (gL σ 60 0 (ix (6 + y1))) (gL σ 8 0 20)) = 0 → K64 y1 σ))))
def S_X8_told (σ : Hp) (Q : Int32 → Hp → Prop) : Prop :=
  (∃ n1, L_X8_told_2 Q (fun σ2 => (∃ n3, L_X8_told_36 Q (fun σ4 => Q (-1) σ4) (fun w6 σ5 => Q (6 + w6) σ5) n3 0 σ2)) (fun w8 σ7 => Q w8 σ7) n1 0 σ)
set_option maxHeartbeats 2000000 in
set_option maxRecDepth 20000 in
theorem ok_X8_told (l : Launch) (g : Gm) (σ : Hp) (Q : Int32 → Hp → Prop) (h : S_X8_told σ Q) : Ct l g yX8_told cX8_told 2 (some .int) 0 [.ref (gad g 8 0)] σ (QI Q) := by
  refine Ct.of (by decide +kernel) (Nat.le_of_ble_eq_true rfl) ?_
  intro p e R s m args below meth c C
  have C : Cx g p R s m args meth c cX8_told 2 RX8 (some .int) 0 := C
  have l2 : ∀ (K34 : Hp → Prop) (K26 : Int32 → Hp → Prop) (hK34 : ∀ (σ : Hp), K34 σ → G g p l e R s m args below meth c (QI Q) 2 34 [(0, .ref (gad g 8 0))] [] σ) (hK26 : ∀ (v1 : Int32) (σ : Hp), K26 v1 σ → G g p l e R s m args below meth c (QI Q) 2 26 [(1, .int v1)] [] σ) (n : Nat) (y1 : Int32) (σ : Hp), L_X8_told_2 Q K34 K26 n y1 σ → G g p l e R s m args below meth c (QI Q) 2 2 [(0, .ref (gad g 8 0)), (1, .int y1)] [] σ := by
    intro K34 K26 hK34 hK26 n
    induction n with
    | zero => intro y1 σ h; exact False.elim h
    | succ n ih =>
      intro y1 σ h
      unfold L_X8_told_2 at h
      refine r_iload_n C dX8_told_2 rfl 1 rfl ?_
      refine r_aload_n C dX8_told_3 rfl 0 rfl ?_
      refine gf_8_20 C dX8_told_4 (cn_8 (by decide)) ?_
      refine r_iconst C dX8_told_7 ic_5 ?_
      obtain ⟨h0, h⟩ := h
      refine r_iaload C dX8_told_8 ak_54 (cn_54 (by decide)) al_54 h0 ?_
      refine r_icmp_ge (tgt := 34) C dX8_told_9 rfl (fun q => ?_) (fun q => ?_)
      · have h := h.1 q
        refine r_sub [0] rfl ?_
        exact hK34 _ h
      · have h := h.2 q
        refine r_aload_n C dX8_told_12 rfl 0 rfl ?_
        refine gf_8_39 C dX8_told_13 (cn_8 (by decide)) ?_
        refine r_iload_n C dX8_told_16 rfl 1 rfl ?_
        obtain ⟨h0, h⟩ := h
        refine r_laload C dX8_told_17 ak_60 (cn_60 (by decide)) al_60 h0 ?_
        refine r_aload_n C dX8_told_18 rfl 0 rfl ?_
        refine gf_8_90 C dX8_told_19 (cn_8 (by decide)) ?_
        refine r_lcmp C dX8_told_22 ?_
        refine r_if_ne (tgt := 28) C dX8_told_23 rfl (fun q => ?_) (fun q => ?_)
        · have h := h.1 q
          refine r_iinc (v := y1 + 1) C dX8_told_28 1 rfl rfl (Nat.le_of_ble_eq_true rfl) rfl ?_
          refine r_goto (tgt := 2) C dX8_told_31 rfl ?_
          refine r_sub [1, 0] rfl ?_
          exact ih _ _ h
        · have h := h.2 q
          refine r_sub [1] rfl ?_
          exact hK26 _ _ h
  have l36 : ∀ (K75 : Hp → Prop) (K64 : Int32 → Hp → Prop) (hK75 : ∀ (σ : Hp), K75 σ → G g p l e R s m args below meth c (QI Q) 2 75 [] [] σ) (hK64 : ∀ (v1 : Int32) (σ : Hp), K64 v1 σ → G g p l e R s m args below meth c (QI Q) 2 64 [(1, .int v1)] [] σ) (n : Nat) (y1 : Int32) (σ : Hp), L_X8_told_36 Q K75 K64 n y1 σ → G g p l e R s m args below meth c (QI Q) 2 36 [(0, .ref (gad g 8 0)), (1, .int y1)] [] σ := by
    intro K75 K64 hK75 hK64 n
    induction n with
    | zero => intro y1 σ h; exact False.elim h
    | succ n ih =>
      intro y1 σ h
      unfold L_X8_told_36 at h
      refine r_iload_n C dX8_told_36 rfl 1 rfl ?_
      refine r_aload_n C dX8_told_37 rfl 0 rfl ?_
      refine gf_8_20 C dX8_told_38 (cn_8 (by decide)) ?_
      refine r_bipush C dX8_told_41 bi_6 ?_
      obtain ⟨h0, h⟩ := h
      refine r_iaload C dX8_told_43 ak_54 (cn_54 (by decide)) al_54 h0 ?_
      refine r_icmp_ge (tgt := 75) C dX8_told_44 rfl (fun q => ?_) (fun q => ?_)
      · have h := h.1 q
        refine r_sub [] rfl ?_
        exact hK75 _ h
      · have h := h.2 q
        refine r_aload_n C dX8_told_47 rfl 0 rfl ?_
        refine gf_8_39 C dX8_told_48 (cn_8 (by decide)) ?_
        refine r_bipush C dX8_told_51 bi_6 ?_
        refine r_iload_n C dX8_told_53 rfl 1 rfl ?_
        refine r_iadd C dX8_told_54 ?_
        obtain ⟨h0, h⟩ := h
        refine r_laload C dX8_told_55 ak_60 (cn_60 (by decide)) al_60 h0 ?_
        refine r_aload_n C dX8_told_56 rfl 0 rfl ?_
        refine gf_8_90 C dX8_told_57 (cn_8 (by decide)) ?_
        refine r_lcmp C dX8_told_60 ?_
        refine r_if_ne (tgt := 69) C dX8_told_61 rfl (fun q => ?_) (fun q => ?_)
        · have h := h.1 q
          refine r_iinc (v := y1 + 1) C dX8_told_69 1 rfl rfl (Nat.le_of_ble_eq_true rfl) rfl ?_
          refine r_goto (tgt := 36) C dX8_told_72 rfl ?_
          refine r_sub [1, 0] rfl ?_
          exact ih _ _ h
        · have h := h.2 q
          refine r_sub [1] rfl ?_
          exact hK64 _ _ h
  unfold S_X8_told at h
  show G g p l e R s m args below meth c (QI Q) 2 0 [(0, .ref (gad g 8 0))] [] σ
  refine r_iconst C dX8_told_0 ic_0 ?_
  refine r_istore_n C dX8_told_1 rfl (Nat.le_of_ble_eq_true rfl) rfl ?_
  refine r_sub [1, 0] rfl ?_
  obtain ⟨n1, h⟩ := h
  refine l2 _ _ (fun σ2 h => ?_) (fun w8 σ7 h => ?_) n1 _ _ h
  · refine r_iconst C dX8_told_34 ic_0 ?_
    refine r_istore_n C dX8_told_35 rfl (Nat.le_of_ble_eq_true rfl) rfl ?_
    refine r_sub [1, 0] rfl ?_
    obtain ⟨n3, h⟩ := h
    refine l36 _ _ (fun σ4 h => ?_) (fun w6 σ5 h => ?_) n3 _ _ h
    · refine r_iconst C dX8_told_75 ic_m1 ?_
      exact r_ireturn C dX8_told_76 ⟨_, rfl, h⟩
    · refine r_bipush C dX8_told_64 bi_6 ?_
      refine r_iload_n C dX8_told_66 rfl 0 rfl ?_
      refine r_iadd C dX8_told_67 ?_
      exact r_ireturn C dX8_told_68 ⟨_, rfl, h⟩
  · refine r_iload_n C dX8_told_26 rfl 0 rfl ?_
    exact r_ireturn C dX8_told_27 ⟨_, rfl, h⟩
def S_X8_newName (x1 : Int32) (σ : Hp) (Q : Int32 → Hp → Prop) : Prop :=
  S_X8_isName σ (fun r2 σ1 => ((¬ r2 = 0 → S_X8_told σ1 (fun r4 σ3 => ((r4 = (-1) → vp_in x1 14 ∧ ∀ σ5, σ5 = sL σ3 60 0 (ix x1) (gL σ3 8 0 20) → S_X8_goesOn σ5 (fun σ6 => Q 0 σ6)) ∧ (¬ r4 = (-1) → S_X8_errs 3 σ3 (fun r8 σ7 => Q r8 σ7))))) ∧ (r2 = 0 → S_X8_errs 1 σ1 (fun r10 σ9 => Q r10 σ9))))
set_option maxHeartbeats 2000000 in
set_option maxRecDepth 20000 in
theorem ok_X8_newName (l : Launch) (g : Gm) (x1 : Int32) (σ : Hp) (Q : Int32 → Hp → Prop) (h : S_X8_newName x1 σ Q) : Ct l g yX8_newName cX8_newName 2 (some .int) 6 [.ref (gad g 8 0), .int x1] σ (QI Q) := by
  refine Ct.of (by decide +kernel) (Nat.le_of_ble_eq_true rfl) ?_
  intro p e R s m args below meth c C
  have C : Cx g p R s m args meth c cX8_newName 2 RX8 (some .int) 6 := C
  unfold S_X8_newName at h
  show G g p l e R s m args below meth c (QI Q) 2 0 [(0, .ref (gad g 8 0)), (1, .int x1)] [] σ
  refine r_aload_n C dX8_newName_0 rfl 0 rfl ?_
  refine r_callVi [] C dX8_newName_1 w_8_134 (ok_X8_isName l g _ _ h) (Nat.le_of_ble_eq_true rfl) rfl rfl ak_8 (cn_8 (by decide)) rfl rfl (Nat.le_of_ble_eq_true rfl) (fun r2 σ1 h => ?_)
  refine r_if_ne (tgt := 13) C dX8_newName_4 rfl (fun q => ?_) (fun q => ?_)
  · have h := h.1 q
    refine r_aload_n C dX8_newName_13 rfl 0 rfl ?_
    refine r_callVi [] C dX8_newName_14 w_8_138 (ok_X8_told l g _ _ h) (Nat.le_of_ble_eq_true rfl) rfl rfl ak_8 (cn_8 (by decide)) rfl rfl (Nat.le_of_ble_eq_true rfl) (fun r4 σ3 h => ?_)
    refine r_iconst C dX8_newName_17 ic_m1 ?_
    refine r_icmp_eq (tgt := 27) C dX8_newName_18 rfl (fun q => ?_) (fun q => ?_)
    · have h := h.1 q
      refine r_aload_n C dX8_newName_27 rfl 0 rfl ?_
      refine gf_8_39 C dX8_newName_28 (cn_8 (by decide)) ?_
      refine r_iload_n C dX8_newName_31 rfl 1 rfl ?_
      refine r_aload_n C dX8_newName_32 rfl 0 rfl ?_
      refine gf_8_90 C dX8_newName_33 (cn_8 (by decide)) ?_
      obtain ⟨h0, h⟩ := h
      refine r_lastore C dX8_newName_36 ak_60 (cn_60 (by decide)) al_60 h0 ?_
      have h := h _ rfl
      refine r_aload_n C dX8_newName_37 rfl 0 rfl ?_
      refine r_callVv [] C dX8_newName_38 w_8_117 (ok_X8_goesOn l g _ _ h) (Nat.le_of_ble_eq_true rfl) rfl rfl ak_8 (cn_8 (by decide)) rfl rfl (Nat.le_of_ble_eq_true rfl) (fun σ6 h => ?_)
      refine r_iconst C dX8_newName_41 ic_0 ?_
      exact r_ireturn C dX8_newName_42 ⟨_, rfl, h⟩
    · have h := h.2 q
      refine r_aload_n C dX8_newName_21 rfl 0 rfl ?_
      refine r_iconst C dX8_newName_22 ic_3 ?_
      refine r_callVi [] C dX8_newName_23 w_8_114 (ok_X8_errs l g _ _ _ h) (Nat.le_of_ble_eq_true rfl) rfl rfl ak_8 (cn_8 (by decide)) rfl rfl (Nat.le_of_ble_eq_true rfl) (fun r8 σ7 h => ?_)
      exact r_ireturn C dX8_newName_26 ⟨_, rfl, h⟩
  · have h := h.2 q
    refine r_aload_n C dX8_newName_7 rfl 0 rfl ?_
    refine r_iconst C dX8_newName_8 ic_1 ?_
    refine r_callVi [] C dX8_newName_9 w_8_114 (ok_X8_errs l g _ _ _ h) (Nat.le_of_ble_eq_true rfl) rfl rfl ak_8 (cn_8 (by decide)) rfl rfl (Nat.le_of_ble_eq_true rfl) (fun r10 σ9 h => ?_)
    exact r_ireturn C dX8_newName_12 ⟨_, rfl, h⟩
def J_X8_endHere_29 (Q : Int32 → Hp → Prop) (σ : Hp) : Prop :=
  S_X8_errs 2 σ (fun r6 σ5 => Q r6 σ5)
def S_X8_endHere (σ : Hp) (Q : Int32 → Hp → Prop) : Prop :=
  S_X8_isName σ (fun r2 σ1 => ((¬ r2 = 0 → S_X8_told σ1 (fun r4 σ3 => ((r4 = (-1) → J_X8_endHere_29 Q σ3) ∧ (¬ r4 = (-1) → ((r4 < 6 → Q r4 σ3) ∧ (¬ r4 < 6 → J_X8_endHere_29 Q σ3)))))) ∧ (r2 = 0 → S_X8_errs 1 σ1 (fun r8 σ7 => Q r8 σ7))))
set_option maxHeartbeats 2000000 in
set_option maxRecDepth 20000 in
theorem ok_X8_endHere (l : Launch) (g : Gm) (σ : Hp) (Q : Int32 → Hp → Prop) (h : S_X8_endHere σ Q) : Ct l g yX8_endHere cX8_endHere 2 (some .int) 6 [.ref (gad g 8 0)] σ (QI Q) := by
  refine Ct.of (by decide +kernel) (Nat.le_of_ble_eq_true rfl) ?_
  intro p e R s m args below meth c C
  have C : Cx g p R s m args meth c cX8_endHere 2 RX8 (some .int) 6 := C
  have j29 : ∀ (σ : Hp), J_X8_endHere_29 Q σ → G g p l e R s m args below meth c (QI Q) 2 29 [(0, .ref (gad g 8 0))] [] σ := by
    intro σ h
    unfold J_X8_endHere_29 at h
    refine r_aload_n C dX8_endHere_29 rfl 0 rfl ?_
    refine r_iconst C dX8_endHere_30 ic_2 ?_
    refine r_callVi [] C dX8_endHere_31 w_8_114 (ok_X8_errs l g _ _ _ h) (Nat.le_of_ble_eq_true rfl) rfl rfl ak_8 (cn_8 (by decide)) rfl rfl (Nat.le_of_ble_eq_true rfl) (fun r6 σ5 h => ?_)
    refine r_goto (tgt := 38) C dX8_endHere_34 rfl ?_
    exact r_ireturn C dX8_endHere_38 ⟨_, rfl, h⟩
  unfold S_X8_endHere at h
  show G g p l e R s m args below meth c (QI Q) 2 0 [(0, .ref (gad g 8 0))] [] σ
  refine r_aload_n C dX8_endHere_0 rfl 0 rfl ?_
  refine r_callVi [] C dX8_endHere_1 w_8_134 (ok_X8_isName l g _ _ h) (Nat.le_of_ble_eq_true rfl) rfl rfl ak_8 (cn_8 (by decide)) rfl rfl (Nat.le_of_ble_eq_true rfl) (fun r2 σ1 h => ?_)
  refine r_if_ne (tgt := 13) C dX8_endHere_4 rfl (fun q => ?_) (fun q => ?_)
  · have h := h.1 q
    refine r_aload_n C dX8_endHere_13 rfl 0 rfl ?_
    refine r_callVi [] C dX8_endHere_14 w_8_138 (ok_X8_told l g _ _ h) (Nat.le_of_ble_eq_true rfl) rfl rfl ak_8 (cn_8 (by decide)) rfl rfl (Nat.le_of_ble_eq_true rfl) (fun r4 σ3 h => ?_)
    refine r_istore_n C dX8_endHere_17 rfl (Nat.le_of_ble_eq_true rfl) rfl ?_
    refine r_iload_n C dX8_endHere_18 rfl 0 rfl ?_
    refine r_iconst C dX8_endHere_19 ic_m1 ?_
    refine r_icmp_eq (tgt := 29) C dX8_endHere_20 rfl (fun q => ?_) (fun q => ?_)
    · have h := h.1 q
      refine r_sub [1] rfl ?_
      exact j29 _ h
    · have h := h.2 q
      refine r_iload_n C dX8_endHere_23 rfl 0 rfl ?_
      refine r_bipush C dX8_endHere_24 bi_6 ?_
      refine r_icmp_lt (tgt := 37) C dX8_endHere_26 rfl (fun q => ?_) (fun q => ?_)
      · have h := h.1 q
        refine r_iload_n C dX8_endHere_37 rfl 0 rfl ?_
        exact r_ireturn C dX8_endHere_38 ⟨_, rfl, h⟩
      · have h := h.2 q
        refine r_sub [1] rfl ?_
        exact j29 _ h
  · have h := h.2 q
    refine r_aload_n C dX8_endHere_7 rfl 0 rfl ?_
    refine r_iconst C dX8_endHere_8 ic_1 ?_
    refine r_callVi [] C dX8_endHere_9 w_8_114 (ok_X8_errs l g _ _ _ h) (Nat.le_of_ble_eq_true rfl) rfl rfl ak_8 (cn_8 (by decide)) rfl rfl (Nat.le_of_ble_eq_true rfl) (fun r8 σ7 h => ?_)
    exact r_ireturn C dX8_endHere_12 ⟨_, rfl, h⟩
def S_X8_readBus (σ : Hp) (Q : Int32 → Hp → Prop) : Prop :=
  (((gI σ 8 0 23) = 0 → S_X8_goesOn σ (fun σ1 => S_X8_after 1 1 3 σ1 (fun r3 σ2 => vp_in 0 7 ∧ ∀ σ4, σ4 = sI σ2 54 0 (ix 0) r3 → vp_in 0 7 ∧ ((¬ (gI σ4 54 0 (ix 0)) = (-1) → S_X8_after 2 1 12 σ4 (fun r6 σ5 => vp_in 1 7 ∧ ∀ σ7, σ7 = sI σ5 54 0 (ix 1) r6 → vp_in 1 7 ∧ ((¬ (gI σ7 54 0 (ix 1)) = (-1) → S_X8_after 3 0 400 σ7 (fun r9 σ8 => vp_in 2 7 ∧ ∀ σ10, σ10 = sI σ8 54 0 (ix 2) r9 → vp_in 2 7 ∧ ((¬ (gI σ10 54 0 (ix 2)) = (-1) → S_X8_after 4 1 100 σ10 (fun r12 σ11 => vp_in 3 7 ∧ ∀ σ13, σ13 = sI σ11 54 0 (ix 3) r12 → vp_in 3 7 ∧ ((¬ (gI σ13 54 0 (ix 3)) = (-1) → S_X8_after 5 1 999 σ13 (fun r15 σ14 => vp_in 4 7 ∧ ∀ σ16, σ16 = sI σ14 54 0 (ix 4) r15 → vp_in 4 7 ∧ (((gI σ16 54 0 (ix 4)) = (-1) → ∀ σ17, σ17 = sI σ16 8 0 23 0 → vp_in 4 7 ∧ Q (gI σ17 54 0 (ix 4)) σ17) ∧ (¬ (gI σ16 54 0 (ix 4)) = (-1) → ∀ σ18, σ18 = sI σ16 8 0 23 1 → vp_in 4 7 ∧ Q (gI σ18 54 0 (ix 4)) σ18)))) ∧ ((gI σ13 54 0 (ix 3)) = (-1) → Q (-1) σ13)))) ∧ ((gI σ10 54 0 (ix 2)) = (-1) → Q (-1) σ10)))) ∧ ((gI σ7 54 0 (ix 1)) = (-1) → Q (-1) σ7)))) ∧ ((gI σ4 54 0 (ix 0)) = (-1) → Q (-1) σ4))))) ∧ (¬ (gI σ 8 0 23) = 0 → S_X8_errs 3 σ (fun r20 σ19 => Q r20 σ19)))
set_option maxHeartbeats 2000000 in
set_option maxRecDepth 20000 in
theorem ok_X8_readBus (l : Launch) (g : Gm) (σ : Hp) (Q : Int32 → Hp → Prop) (h : S_X8_readBus σ Q) : Ct l g yX8_readBus cX8_readBus 1 (some .int) 6 [.ref (gad g 8 0)] σ (QI Q) := by
  refine Ct.of (by decide +kernel) (Nat.le_of_ble_eq_true rfl) ?_
  intro p e R s m args below meth c C
  have C : Cx g p R s m args meth c cX8_readBus 1 RX8 (some .int) 6 := C
  unfold S_X8_readBus at h
  show G g p l e R s m args below meth c (QI Q) 1 0 [(0, .ref (gad g 8 0))] [] σ
  refine r_aload_n C dX8_readBus_0 rfl 0 rfl ?_
  refine gf_8_141 C dX8_readBus_1 (cn_8 (by decide)) ?_
  refine r_if_eq (tgt := 13) C dX8_readBus_4 rfl (fun q => ?_) (fun q => ?_)
  · have h := h.1 q
    refine r_aload_n C dX8_readBus_13 rfl 0 rfl ?_
    refine r_callVv [] C dX8_readBus_14 w_8_117 (ok_X8_goesOn l g _ _ h) (Nat.le_of_ble_eq_true rfl) rfl rfl ak_8 (cn_8 (by decide)) rfl rfl (Nat.le_of_ble_eq_true rfl) (fun σ1 h => ?_)
    refine r_aload_n C dX8_readBus_17 rfl 0 rfl ?_
    refine gf_8_20 C dX8_readBus_18 (cn_8 (by decide)) ?_
    refine r_iconst C dX8_readBus_21 ic_0 ?_
    refine r_aload_n C dX8_readBus_22 rfl 0 rfl ?_
    refine r_ldcS (j := 1) C dX8_readBus_23 (by decide) rfl ?_
    refine r_iconst C dX8_readBus_25 ic_1 ?_
    refine r_iconst C dX8_readBus_26 ic_3 ?_
    refine r_callVi [.int _, .ref (gad g 54 0)] C dX8_readBus_27 w_8_147 (ok_X8_after l g 1 (by decide) _ _ _ _ h) (Nat.le_of_ble_eq_true rfl) rfl rfl ak_8 (cn_8 (by decide)) rfl rfl (Nat.le_of_ble_eq_true rfl) (fun r3 σ2 h => ?_)
    obtain ⟨h0, h⟩ := h
    refine r_iastore C dX8_readBus_30 ak_54 (cn_54 (by decide)) al_54 h0 ?_
    have h := h _ rfl
    refine r_aload_n C dX8_readBus_31 rfl 0 rfl ?_
    refine gf_8_20 C dX8_readBus_32 (cn_8 (by decide)) ?_
    refine r_iconst C dX8_readBus_35 ic_0 ?_
    obtain ⟨h0, h⟩ := h
    refine r_iaload C dX8_readBus_36 ak_54 (cn_54 (by decide)) al_54 h0 ?_
    refine r_iconst C dX8_readBus_37 ic_m1 ?_
    refine r_icmp_ne (tgt := 43) C dX8_readBus_38 rfl (fun q => ?_) (fun q => ?_)
    · have h := h.1 q
      refine r_aload_n C dX8_readBus_43 rfl 0 rfl ?_
      refine gf_8_20 C dX8_readBus_44 (cn_8 (by decide)) ?_
      refine r_iconst C dX8_readBus_47 ic_1 ?_
      refine r_aload_n C dX8_readBus_48 rfl 0 rfl ?_
      refine r_ldcS (j := 2) C dX8_readBus_49 (by decide) rfl ?_
      refine r_iconst C dX8_readBus_51 ic_1 ?_
      refine r_bipush C dX8_readBus_52 bi_12 ?_
      refine r_callVi [.int _, .ref (gad g 54 0)] C dX8_readBus_54 w_8_147 (ok_X8_after l g 2 (by decide) _ _ _ _ h) (Nat.le_of_ble_eq_true rfl) rfl rfl ak_8 (cn_8 (by decide)) rfl rfl (Nat.le_of_ble_eq_true rfl) (fun r6 σ5 h => ?_)
      obtain ⟨h0, h⟩ := h
      refine r_iastore C dX8_readBus_57 ak_54 (cn_54 (by decide)) al_54 h0 ?_
      have h := h _ rfl
      refine r_aload_n C dX8_readBus_58 rfl 0 rfl ?_
      refine gf_8_20 C dX8_readBus_59 (cn_8 (by decide)) ?_
      refine r_iconst C dX8_readBus_62 ic_1 ?_
      obtain ⟨h0, h⟩ := h
      refine r_iaload C dX8_readBus_63 ak_54 (cn_54 (by decide)) al_54 h0 ?_
      refine r_iconst C dX8_readBus_64 ic_m1 ?_
      refine r_icmp_ne (tgt := 70) C dX8_readBus_65 rfl (fun q => ?_) (fun q => ?_)
      · have h := h.1 q
        refine r_aload_n C dX8_readBus_70 rfl 0 rfl ?_
        refine gf_8_20 C dX8_readBus_71 (cn_8 (by decide)) ?_
        refine r_iconst C dX8_readBus_74 ic_2 ?_
        refine r_aload_n C dX8_readBus_75 rfl 0 rfl ?_
        refine r_ldcS (j := 3) C dX8_readBus_76 (by decide) rfl ?_
        refine r_iconst C dX8_readBus_78 ic_0 ?_
        refine r_sipush C dX8_readBus_79 si_400 ?_
        refine r_callVi [.int _, .ref (gad g 54 0)] C dX8_readBus_82 w_8_147 (ok_X8_after l g 3 (by decide) _ _ _ _ h) (Nat.le_of_ble_eq_true rfl) rfl rfl ak_8 (cn_8 (by decide)) rfl rfl (Nat.le_of_ble_eq_true rfl) (fun r9 σ8 h => ?_)
        obtain ⟨h0, h⟩ := h
        refine r_iastore C dX8_readBus_85 ak_54 (cn_54 (by decide)) al_54 h0 ?_
        have h := h _ rfl
        refine r_aload_n C dX8_readBus_86 rfl 0 rfl ?_
        refine gf_8_20 C dX8_readBus_87 (cn_8 (by decide)) ?_
        refine r_iconst C dX8_readBus_90 ic_2 ?_
        obtain ⟨h0, h⟩ := h
        refine r_iaload C dX8_readBus_91 ak_54 (cn_54 (by decide)) al_54 h0 ?_
        refine r_iconst C dX8_readBus_92 ic_m1 ?_
        refine r_icmp_ne (tgt := 98) C dX8_readBus_93 rfl (fun q => ?_) (fun q => ?_)
        · have h := h.1 q
          refine r_aload_n C dX8_readBus_98 rfl 0 rfl ?_
          refine gf_8_20 C dX8_readBus_99 (cn_8 (by decide)) ?_
          refine r_iconst C dX8_readBus_102 ic_3 ?_
          refine r_aload_n C dX8_readBus_103 rfl 0 rfl ?_
          refine r_ldcS (j := 4) C dX8_readBus_104 (by decide) rfl ?_
          refine r_iconst C dX8_readBus_106 ic_1 ?_
          refine r_bipush C dX8_readBus_107 bi_100 ?_
          refine r_callVi [.int _, .ref (gad g 54 0)] C dX8_readBus_109 w_8_147 (ok_X8_after l g 4 (by decide) _ _ _ _ h) (Nat.le_of_ble_eq_true rfl) rfl rfl ak_8 (cn_8 (by decide)) rfl rfl (Nat.le_of_ble_eq_true rfl) (fun r12 σ11 h => ?_)
          obtain ⟨h0, h⟩ := h
          refine r_iastore C dX8_readBus_112 ak_54 (cn_54 (by decide)) al_54 h0 ?_
          have h := h _ rfl
          refine r_aload_n C dX8_readBus_113 rfl 0 rfl ?_
          refine gf_8_20 C dX8_readBus_114 (cn_8 (by decide)) ?_
          refine r_iconst C dX8_readBus_117 ic_3 ?_
          obtain ⟨h0, h⟩ := h
          refine r_iaload C dX8_readBus_118 ak_54 (cn_54 (by decide)) al_54 h0 ?_
          refine r_iconst C dX8_readBus_119 ic_m1 ?_
          refine r_icmp_ne (tgt := 125) C dX8_readBus_120 rfl (fun q => ?_) (fun q => ?_)
          · have h := h.1 q
            refine r_aload_n C dX8_readBus_125 rfl 0 rfl ?_
            refine gf_8_20 C dX8_readBus_126 (cn_8 (by decide)) ?_
            refine r_iconst C dX8_readBus_129 ic_4 ?_
            refine r_aload_n C dX8_readBus_130 rfl 0 rfl ?_
            refine r_ldcS (j := 5) C dX8_readBus_131 (by decide) rfl ?_
            refine r_iconst C dX8_readBus_133 ic_1 ?_
            refine r_sipush C dX8_readBus_134 si_999 ?_
            refine r_callVi [.int _, .ref (gad g 54 0)] C dX8_readBus_137 w_8_147 (ok_X8_after l g 5 (by decide) _ _ _ _ h) (Nat.le_of_ble_eq_true rfl) rfl rfl ak_8 (cn_8 (by decide)) rfl rfl (Nat.le_of_ble_eq_true rfl) (fun r15 σ14 h => ?_)
            obtain ⟨h0, h⟩ := h
            refine r_iastore C dX8_readBus_140 ak_54 (cn_54 (by decide)) al_54 h0 ?_
            have h := h _ rfl
            refine r_aload_n C dX8_readBus_141 rfl 0 rfl ?_
            refine r_aload_n C dX8_readBus_142 rfl 0 rfl ?_
            refine gf_8_20 C dX8_readBus_143 (cn_8 (by decide)) ?_
            refine r_iconst C dX8_readBus_146 ic_4 ?_
            obtain ⟨h0, h⟩ := h
            refine r_iaload C dX8_readBus_147 ak_54 (cn_54 (by decide)) al_54 h0 ?_
            refine r_iconst C dX8_readBus_148 ic_m1 ?_
            refine r_icmp_eq (tgt := 156) C dX8_readBus_149 rfl (fun q => ?_) (fun q => ?_)
            · have h := h.1 q
              refine r_iconst C dX8_readBus_156 ic_0 ?_
              refine pf_8_141 C dX8_readBus_157 zb0 (cn_8 (by decide)) ?_
              have h := h _ rfl
              refine r_aload_n C dX8_readBus_160 rfl 0 rfl ?_
              refine gf_8_20 C dX8_readBus_161 (cn_8 (by decide)) ?_
              refine r_iconst C dX8_readBus_164 ic_4 ?_
              obtain ⟨h0, h⟩ := h
              refine r_iaload C dX8_readBus_165 ak_54 (cn_54 (by decide)) al_54 h0 ?_
              exact r_ireturn C dX8_readBus_166 ⟨_, rfl, h⟩
            · have h := h.2 q
              refine r_iconst C dX8_readBus_152 ic_1 ?_
              refine r_goto (tgt := 157) C dX8_readBus_153 rfl ?_
              refine pf_8_141 C dX8_readBus_157 zb1 (cn_8 (by decide)) ?_
              have h := h _ rfl
              refine r_aload_n C dX8_readBus_160 rfl 0 rfl ?_
              refine gf_8_20 C dX8_readBus_161 (cn_8 (by decide)) ?_
              refine r_iconst C dX8_readBus_164 ic_4 ?_
              obtain ⟨h0, h⟩ := h
              refine r_iaload C dX8_readBus_165 ak_54 (cn_54 (by decide)) al_54 h0 ?_
              exact r_ireturn C dX8_readBus_166 ⟨_, rfl, h⟩
          · have h := h.2 q
            refine r_iconst C dX8_readBus_123 ic_m1 ?_
            exact r_ireturn C dX8_readBus_124 ⟨_, rfl, h⟩
        · have h := h.2 q
          refine r_iconst C dX8_readBus_96 ic_m1 ?_
          exact r_ireturn C dX8_readBus_97 ⟨_, rfl, h⟩
      · have h := h.2 q
        refine r_iconst C dX8_readBus_68 ic_m1 ?_
        exact r_ireturn C dX8_readBus_69 ⟨_, rfl, h⟩
    · have h := h.2 q
      refine r_iconst C dX8_readBus_41 ic_m1 ?_
      exact r_ireturn C dX8_readBus_42 ⟨_, rfl, h⟩
  · have h := h.2 q
    refine r_aload_n C dX8_readBus_7 rfl 0 rfl ?_
    refine r_iconst C dX8_readBus_8 ic_3 ?_
    refine r_callVi [] C dX8_readBus_9 w_8_114 (ok_X8_errs l g _ _ _ h) (Nat.le_of_ble_eq_true rfl) rfl rfl ak_8 (cn_8 (by decide)) rfl rfl (Nat.le_of_ble_eq_true rfl) (fun r20 σ19 h => ?_)
    exact r_ireturn C dX8_readBus_12 ⟨_, rfl, h⟩
def S_X8_readEnd (σ : Hp) (Q : Int32 → Hp → Prop) : Prop :=
  vp_in 5 7 ∧ ((¬ (gI σ 54 0 (ix 5)) = 6 → ((¬ (gI σ 8 0 23) = 0 → S_X8_goesOn σ (fun σ1 => S_X8_newName (gI σ 54 0 (ix 5)) σ1 (fun r3 σ2 => ((¬ r3 = (-1) → vp_in 0 7 ∧ S_X8_after 8 0 ((gI σ2 54 0 (ix 0)) - 1) σ2 (fun r5 σ4 => vp_in (gI σ 54 0 (ix 5)) 6 ∧ ∀ σ6, σ6 = sI σ4 56 0 (ix (gI σ 54 0 (ix 5))) r5 → vp_in 5 7 ∧ vp_in (gI σ 54 0 (ix 5)) 6 ∧ ((¬ (gI σ6 56 0 (ix (gI σ 54 0 (ix 5)))) = (-1) → vp_in 5 7 ∧ ∀ σ7, σ7 = sI σ6 54 0 (ix 5) ((gI σ6 54 0 (ix 5)) + 1) → vp_in (gI σ 54 0 (ix 5)) 6 ∧ Q (gI σ7 56 0 (ix (gI σ 54 0 (ix 5)))) σ7) ∧ ((gI σ6 56 0 (ix (gI σ 54 0 (ix 5)))) = (-1) → vp_in 5 7 ∧ ∀ σ8, σ8 = sI σ6 54 0 (ix 5) ((gI σ6 54 0 (ix 5)) + 0) → vp_in (gI σ 54 0 (ix 5)) 6 ∧ Q (gI σ8 56 0 (ix (gI σ 54 0 (ix 5)))) σ8)))) ∧ (r3 = (-1) → Q (-1) σ2))))) ∧ ((gI σ 8 0 23) = 0 → S_X8_errs 6 σ (fun r10 σ9 => Q r10 σ9)))) ∧ ((gI σ 54 0 (ix 5)) = 6 → S_X8_errs 5 σ (fun r12 σ11 => Q r12 σ11)))
set_option maxHeartbeats 2000000 in
set_option maxRecDepth 20000 in
theorem ok_X8_readEnd (l : Launch) (g : Gm) (σ : Hp) (Q : Int32 → Hp → Prop) (h : S_X8_readEnd σ Q) : Ct l g yX8_readEnd cX8_readEnd 2 (some .int) 7 [.ref (gad g 8 0)] σ (QI Q) := by
  refine Ct.of (by decide +kernel) (Nat.le_of_ble_eq_true rfl) ?_
  intro p e R s m args below meth c C
  have C : Cx g p R s m args meth c cX8_readEnd 2 RX8 (some .int) 7 := C
  unfold S_X8_readEnd at h
  show G g p l e R s m args below meth c (QI Q) 2 0 [(0, .ref (gad g 8 0))] [] σ
  refine r_aload_n C dX8_readEnd_0 rfl 0 rfl ?_
  refine gf_8_20 C dX8_readEnd_1 (cn_8 (by decide)) ?_
  refine r_iconst C dX8_readEnd_4 ic_5 ?_
  obtain ⟨h0, h⟩ := h
  refine r_iaload C dX8_readEnd_5 ak_54 (cn_54 (by decide)) al_54 h0 ?_
  refine r_istore_n C dX8_readEnd_6 rfl (Nat.le_of_ble_eq_true rfl) rfl ?_
  refine r_iload_n C dX8_readEnd_7 rfl 0 rfl ?_
  refine r_bipush C dX8_readEnd_8 bi_6 ?_
  refine r_icmp_ne (tgt := 19) C dX8_readEnd_10 rfl (fun q => ?_) (fun q => ?_)
  · have h := h.1 q
    refine r_aload_n C dX8_readEnd_19 rfl 1 rfl ?_
    refine gf_8_141 C dX8_readEnd_20 (cn_8 (by decide)) ?_
    refine r_if_ne (tgt := 33) C dX8_readEnd_23 rfl (fun q => ?_) (fun q => ?_)
    · have h := h.1 q
      refine r_aload_n C dX8_readEnd_33 rfl 1 rfl ?_
      refine r_callVv [] C dX8_readEnd_34 w_8_117 (ok_X8_goesOn l g _ _ h) (Nat.le_of_ble_eq_true rfl) rfl rfl ak_8 (cn_8 (by decide)) rfl rfl (Nat.le_of_ble_eq_true rfl) (fun σ1 h => ?_)
      refine r_aload_n C dX8_readEnd_37 rfl 1 rfl ?_
      refine r_iload_n C dX8_readEnd_38 rfl 0 rfl ?_
      refine r_callVi [] C dX8_readEnd_39 w_8_159 (ok_X8_newName l g _ _ _ h) (Nat.le_of_ble_eq_true rfl) rfl rfl ak_8 (cn_8 (by decide)) rfl rfl (Nat.le_of_ble_eq_true rfl) (fun r3 σ2 h => ?_)
      refine r_iconst C dX8_readEnd_42 ic_m1 ?_
      refine r_icmp_ne (tgt := 48) C dX8_readEnd_43 rfl (fun q => ?_) (fun q => ?_)
      · have h := h.1 q
        refine r_aload_n C dX8_readEnd_48 rfl 1 rfl ?_
        refine gf_8_26 C dX8_readEnd_49 (cn_8 (by decide)) ?_
        refine r_iload_n C dX8_readEnd_52 rfl 0 rfl ?_
        refine r_aload_n C dX8_readEnd_53 rfl 1 rfl ?_
        refine r_ldcS (j := 8) C dX8_readEnd_54 (by decide) rfl ?_
        refine r_iconst C dX8_readEnd_56 ic_0 ?_
        refine r_aload_n C dX8_readEnd_57 rfl 1 rfl ?_
        refine gf_8_20 C dX8_readEnd_58 (cn_8 (by decide)) ?_
        refine r_iconst C dX8_readEnd_61 ic_0 ?_
        obtain ⟨h0, h⟩ := h
        refine r_iaload C dX8_readEnd_62 ak_54 (cn_54 (by decide)) al_54 h0 ?_
        refine r_iconst C dX8_readEnd_63 ic_1 ?_
        refine r_isub C dX8_readEnd_64 ?_
        refine r_callVi [.int _, .ref (gad g 56 0)] C dX8_readEnd_65 w_8_147 (ok_X8_after l g 8 (by decide) _ _ _ _ h) (Nat.le_of_ble_eq_true rfl) rfl rfl ak_8 (cn_8 (by decide)) rfl rfl (Nat.le_of_ble_eq_true rfl) (fun r5 σ4 h => ?_)
        obtain ⟨h0, h⟩ := h
        refine r_iastore C dX8_readEnd_68 ak_56 (cn_56 (by decide)) al_56 h0 ?_
        have h := h _ rfl
        refine r_aload_n C dX8_readEnd_69 rfl 1 rfl ?_
        refine gf_8_20 C dX8_readEnd_70 (cn_8 (by decide)) ?_
        refine r_iconst C dX8_readEnd_73 ic_5 ?_
        refine r_dup2 C dX8_readEnd_74 rfl rfl ?_
        obtain ⟨h0, h⟩ := h
        refine r_iaload C dX8_readEnd_75 ak_54 (cn_54 (by decide)) al_54 h0 ?_
        refine r_aload_n C dX8_readEnd_76 rfl 1 rfl ?_
        refine gf_8_26 C dX8_readEnd_77 (cn_8 (by decide)) ?_
        refine r_iload_n C dX8_readEnd_80 rfl 0 rfl ?_
        obtain ⟨h0, h⟩ := h
        refine r_iaload C dX8_readEnd_81 ak_56 (cn_56 (by decide)) al_56 h0 ?_
        refine r_iconst C dX8_readEnd_82 ic_m1 ?_
        refine r_icmp_ne (tgt := 90) C dX8_readEnd_83 rfl (fun q => ?_) (fun q => ?_)
        · have h := h.1 q
          refine r_iconst C dX8_readEnd_90 ic_1 ?_
          refine r_iadd C dX8_readEnd_91 ?_
          obtain ⟨h0, h⟩ := h
          refine r_iastore C dX8_readEnd_92 ak_54 (cn_54 (by decide)) al_54 h0 ?_
          have h := h _ rfl
          refine r_aload_n C dX8_readEnd_93 rfl 1 rfl ?_
          refine gf_8_26 C dX8_readEnd_94 (cn_8 (by decide)) ?_
          refine r_iload_n C dX8_readEnd_97 rfl 0 rfl ?_
          obtain ⟨h0, h⟩ := h
          refine r_iaload C dX8_readEnd_98 ak_56 (cn_56 (by decide)) al_56 h0 ?_
          exact r_ireturn C dX8_readEnd_99 ⟨_, rfl, h⟩
        · have h := h.2 q
          refine r_iconst C dX8_readEnd_86 ic_0 ?_
          refine r_goto (tgt := 91) C dX8_readEnd_87 rfl ?_
          refine r_iadd C dX8_readEnd_91 ?_
          obtain ⟨h0, h⟩ := h
          refine r_iastore C dX8_readEnd_92 ak_54 (cn_54 (by decide)) al_54 h0 ?_
          have h := h _ rfl
          refine r_aload_n C dX8_readEnd_93 rfl 1 rfl ?_
          refine gf_8_26 C dX8_readEnd_94 (cn_8 (by decide)) ?_
          refine r_iload_n C dX8_readEnd_97 rfl 0 rfl ?_
          obtain ⟨h0, h⟩ := h
          refine r_iaload C dX8_readEnd_98 ak_56 (cn_56 (by decide)) al_56 h0 ?_
          exact r_ireturn C dX8_readEnd_99 ⟨_, rfl, h⟩
      · have h := h.2 q
        refine r_iconst C dX8_readEnd_46 ic_m1 ?_
        exact r_ireturn C dX8_readEnd_47 ⟨_, rfl, h⟩
    · have h := h.2 q
      refine r_aload_n C dX8_readEnd_26 rfl 1 rfl ?_
      refine r_bipush C dX8_readEnd_27 bi_6 ?_
      refine r_callVi [] C dX8_readEnd_29 w_8_114 (ok_X8_errs l g _ _ _ h) (Nat.le_of_ble_eq_true rfl) rfl rfl ak_8 (cn_8 (by decide)) rfl rfl (Nat.le_of_ble_eq_true rfl) (fun r10 σ9 h => ?_)
      exact r_ireturn C dX8_readEnd_32 ⟨_, rfl, h⟩
  · have h := h.2 q
    refine r_aload_n C dX8_readEnd_13 rfl 1 rfl ?_
    refine r_iconst C dX8_readEnd_14 ic_5 ?_
    refine r_callVi [] C dX8_readEnd_15 w_8_114 (ok_X8_errs l g _ _ _ h) (Nat.le_of_ble_eq_true rfl) rfl rfl ak_8 (cn_8 (by decide)) rfl rfl (Nat.le_of_ble_eq_true rfl) (fun r12 σ11 h => ?_)
    exact r_ireturn C dX8_readEnd_18 ⟨_, rfl, h⟩
def S_X8_isGap (x0 : Int32) (σ : Hp) (Q : Int32 → Hp → Prop) : Prop :=
  ((x0 = 8 → Q 1 σ) ∧ (¬ x0 = 8 → ((x0 = 16 → Q 1 σ) ∧ (¬ x0 = 16 → ((x0 = 32 → Q 1 σ) ∧ (¬ x0 = 32 → ((x0 = 64 → Q 1 σ) ∧ (¬ x0 = 64 → ((x0 = 128 → Q 1 σ) ∧ (¬ x0 = 128 → ((¬ x0 = 256 → Q 0 σ) ∧ (x0 = 256 → Q 1 σ))))))))))))
set_option maxHeartbeats 2000000 in
set_option maxRecDepth 20000 in
theorem ok_X8_isGap (l : Launch) (g : Gm) (x0 : Int32) (σ : Hp) (Q : Int32 → Hp → Prop) (h : S_X8_isGap x0 σ Q) : Ct l g yX8_isGap cX8_isGap 1 (some .boolean) 0 [.int x0] σ (QI Q) := by
  refine Ct.of (by decide +kernel) (Nat.le_of_ble_eq_true rfl) ?_
  intro p e R s m args below meth c C
  have C : Cx g p R s m args meth c cX8_isGap 1 RX8 (some .boolean) 0 := C
  unfold S_X8_isGap at h
  show G g p l e R s m args below meth c (QI Q) 1 0 [(0, .int x0)] [] σ
  refine r_iload_n C dX8_isGap_0 rfl 0 rfl ?_
  refine r_bipush C dX8_isGap_1 bi_8 ?_
  refine r_icmp_eq (tgt := 38) C dX8_isGap_3 rfl (fun q => ?_) (fun q => ?_)
  · have h := h.1 q
    refine r_iconst C dX8_isGap_38 ic_1 ?_
    refine r_goto (tgt := 43) C dX8_isGap_39 rfl ?_
    exact r_zreturn C dX8_isGap_43 zb1.1 ⟨_, rfl, h⟩
  · have h := h.2 q
    refine r_iload_n C dX8_isGap_6 rfl 0 rfl ?_
    refine r_bipush C dX8_isGap_7 bi_16 ?_
    refine r_icmp_eq (tgt := 38) C dX8_isGap_9 rfl (fun q => ?_) (fun q => ?_)
    · have h := h.1 q
      refine r_iconst C dX8_isGap_38 ic_1 ?_
      refine r_goto (tgt := 43) C dX8_isGap_39 rfl ?_
      exact r_zreturn C dX8_isGap_43 zb1.1 ⟨_, rfl, h⟩
    · have h := h.2 q
      refine r_iload_n C dX8_isGap_12 rfl 0 rfl ?_
      refine r_bipush C dX8_isGap_13 bi_32 ?_
      refine r_icmp_eq (tgt := 38) C dX8_isGap_15 rfl (fun q => ?_) (fun q => ?_)
      · have h := h.1 q
        refine r_iconst C dX8_isGap_38 ic_1 ?_
        refine r_goto (tgt := 43) C dX8_isGap_39 rfl ?_
        exact r_zreturn C dX8_isGap_43 zb1.1 ⟨_, rfl, h⟩
      · have h := h.2 q
        refine r_iload_n C dX8_isGap_18 rfl 0 rfl ?_
        refine r_bipush C dX8_isGap_19 bi_64 ?_
        refine r_icmp_eq (tgt := 38) C dX8_isGap_21 rfl (fun q => ?_) (fun q => ?_)
        · have h := h.1 q
          refine r_iconst C dX8_isGap_38 ic_1 ?_
          refine r_goto (tgt := 43) C dX8_isGap_39 rfl ?_
          exact r_zreturn C dX8_isGap_43 zb1.1 ⟨_, rfl, h⟩
        · have h := h.2 q
          refine r_iload_n C dX8_isGap_24 rfl 0 rfl ?_
          refine r_sipush C dX8_isGap_25 si_128 ?_
          refine r_icmp_eq (tgt := 38) C dX8_isGap_28 rfl (fun q => ?_) (fun q => ?_)
          · have h := h.1 q
            refine r_iconst C dX8_isGap_38 ic_1 ?_
            refine r_goto (tgt := 43) C dX8_isGap_39 rfl ?_
            exact r_zreturn C dX8_isGap_43 zb1.1 ⟨_, rfl, h⟩
          · have h := h.2 q
            refine r_iload_n C dX8_isGap_31 rfl 0 rfl ?_
            refine r_sipush C dX8_isGap_32 si_256 ?_
            refine r_icmp_ne (tgt := 42) C dX8_isGap_35 rfl (fun q => ?_) (fun q => ?_)
            · have h := h.1 q
              refine r_iconst C dX8_isGap_42 ic_0 ?_
              exact r_zreturn C dX8_isGap_43 zb0.1 ⟨_, rfl, h⟩
            · have h := h.2 q
              refine r_iconst C dX8_isGap_38 ic_1 ?_
              refine r_goto (tgt := 43) C dX8_isGap_39 rfl ?_
              exact r_zreturn C dX8_isGap_43 zb1.1 ⟨_, rfl, h⟩
def S_X8_readGap (σ : Hp) (Q : Int32 → Hp → Prop) : Prop :=
  S_X8_isWord 10 σ (fun r2 σ1 => ((¬ r2 = 0 → S_X8_goesOn σ1 (fun σ3 => (((gI σ3 8 0 18) = 3 → S_X8_isGap (gI σ3 8 0 19) σ3 (fun r5 σ4 => ((r5 = 0 → S_X8_errs 4 σ4 (fun r7 σ6 => Q r7 σ6)) ∧ (¬ r5 = 0 → S_X8_passes 8 256 σ4 (fun r9 σ8 => Q r9 σ8))))) ∧ (¬ (gI σ3 8 0 18) = 3 → S_X8_errs 1 σ3 (fun r11 σ10 => Q r11 σ10))))) ∧ (r2 = 0 → S_X8_errs 1 σ1 (fun r13 σ12 => Q r13 σ12))))
set_option maxHeartbeats 2000000 in
set_option maxRecDepth 20000 in
theorem ok_X8_readGap (l : Launch) (g : Gm) (σ : Hp) (Q : Int32 → Hp → Prop) (h : S_X8_readGap σ Q) : Ct l g yX8_readGap cX8_readGap 1 (some .int) 5 [.ref (gad g 8 0)] σ (QI Q) := by
  refine Ct.of (by decide +kernel) (Nat.le_of_ble_eq_true rfl) ?_
  intro p e R s m args below meth c C
  have C : Cx g p R s m args meth c cX8_readGap 1 RX8 (some .int) 5 := C
  unfold S_X8_readGap at h
  show G g p l e R s m args below meth c (QI Q) 1 0 [(0, .ref (gad g 8 0))] [] σ
  refine r_aload_n C dX8_readGap_0 rfl 0 rfl ?_
  refine r_ldcS (j := 10) C dX8_readGap_1 (by decide) rfl ?_
  refine r_callVi [] C dX8_readGap_3 w_8_120 (ok_X8_isWord l g 10 (by decide) _ _ h) (Nat.le_of_ble_eq_true rfl) rfl rfl ak_8 (cn_8 (by decide)) rfl rfl (Nat.le_of_ble_eq_true rfl) (fun r2 σ1 h => ?_)
  refine r_if_ne (tgt := 15) C dX8_readGap_6 rfl (fun q => ?_) (fun q => ?_)
  · have h := h.1 q
    refine r_aload_n C dX8_readGap_15 rfl 0 rfl ?_
    refine r_callVv [] C dX8_readGap_16 w_8_117 (ok_X8_goesOn l g _ _ h) (Nat.le_of_ble_eq_true rfl) rfl rfl ak_8 (cn_8 (by decide)) rfl rfl (Nat.le_of_ble_eq_true rfl) (fun σ3 h => ?_)
    refine r_aload_n C dX8_readGap_19 rfl 0 rfl ?_
    refine gf_8_77 C dX8_readGap_20 (cn_8 (by decide)) ?_
    refine r_iconst C dX8_readGap_23 ic_3 ?_
    refine r_icmp_eq (tgt := 33) C dX8_readGap_24 rfl (fun q => ?_) (fun q => ?_)
    · have h := h.1 q
      refine r_aload_n C dX8_readGap_33 rfl 0 rfl ?_
      refine gf_8_87 C dX8_readGap_34 (cn_8 (by decide)) ?_
      refine r_callSi [] C dX8_readGap_37 w_8_166 (ok_X8_isGap l g _ _ _ h) (Nat.le_of_ble_eq_true rfl) rfl rfl (Nat.le_of_ble_eq_true rfl) (fun r5 σ4 h => ?_)
      refine r_if_eq (tgt := 55) C dX8_readGap_40 rfl (fun q => ?_) (fun q => ?_)
      · have h := h.1 q
        refine r_aload_n C dX8_readGap_55 rfl 0 rfl ?_
        refine r_iconst C dX8_readGap_56 ic_4 ?_
        refine r_callVi [] C dX8_readGap_57 w_8_114 (ok_X8_errs l g _ _ _ h) (Nat.le_of_ble_eq_true rfl) rfl rfl ak_8 (cn_8 (by decide)) rfl rfl (Nat.le_of_ble_eq_true rfl) (fun r7 σ6 h => ?_)
        exact r_ireturn C dX8_readGap_60 ⟨_, rfl, h⟩
      · have h := h.2 q
        refine r_aload_n C dX8_readGap_43 rfl 0 rfl ?_
        refine r_bipush C dX8_readGap_44 bi_8 ?_
        refine r_sipush C dX8_readGap_46 si_256 ?_
        refine r_callVi [] C dX8_readGap_49 w_8_124 (ok_X8_passes l g _ _ _ _ h) (Nat.le_of_ble_eq_true rfl) rfl rfl ak_8 (cn_8 (by decide)) rfl rfl (Nat.le_of_ble_eq_true rfl) (fun r9 σ8 h => ?_)
        refine r_goto (tgt := 60) C dX8_readGap_52 rfl ?_
        exact r_ireturn C dX8_readGap_60 ⟨_, rfl, h⟩
    · have h := h.2 q
      refine r_aload_n C dX8_readGap_27 rfl 0 rfl ?_
      refine r_iconst C dX8_readGap_28 ic_1 ?_
      refine r_callVi [] C dX8_readGap_29 w_8_114 (ok_X8_errs l g _ _ _ h) (Nat.le_of_ble_eq_true rfl) rfl rfl ak_8 (cn_8 (by decide)) rfl rfl (Nat.le_of_ble_eq_true rfl) (fun r11 σ10 h => ?_)
      exact r_ireturn C dX8_readGap_32 ⟨_, rfl, h⟩
  · have h := h.2 q
    refine r_aload_n C dX8_readGap_9 rfl 0 rfl ?_
    refine r_iconst C dX8_readGap_10 ic_1 ?_
    refine r_callVi [] C dX8_readGap_11 w_8_114 (ok_X8_errs l g _ _ _ h) (Nat.le_of_ble_eq_true rfl) rfl rfl ak_8 (cn_8 (by decide)) rfl rfl (Nat.le_of_ble_eq_true rfl) (fun r13 σ12 h => ?_)
    exact r_ireturn C dX8_readGap_14 ⟨_, rfl, h⟩
def L_X8_isHeard_2 (Q : Int32 → Hp → Prop) (K36 : Hp → Prop) (K28 : Hp → Prop) (y1 : Int32) (y2 : Int32) : Nat → Int32 → Hp → Prop
  | 0, _, _ => False
  | n + 1, y3, σ =>
  vp_in (y1 + 3) 56 ∧ (((gI σ 58 0 (ix (y1 + 3))) ≤ y3 → K36 σ) ∧ (¬ (gI σ 58 0 (ix (y1 + 3))) ≤ y3 → vp_in ((y1 + 4) + y3) 56 ∧ ((¬ (gI σ 58 0 (ix ((y1 + 4) + y3))) = y2 → L_X8_isHeard_2 Q K36 K28 y1 y2 n (y3 + 1) σ) ∧ ((gI σ 58 0 (ix ((y1 + 4) + y3))) = y2 → K28 σ))))
def S_X8_isHeard (x1 : Int32) (x2 : Int32) (σ : Hp) (Q : Int32 → Hp → Prop) : Prop :=
  (∃ n1, L_X8_isHeard_2 Q (fun σ2 => vp_in (x1 + 0) 56 ∧ ((¬ (gI σ2 58 0 (ix (x1 + 0))) = x2 → Q 0 σ2) ∧ ((gI σ2 58 0 (ix (x1 + 0))) = x2 → Q 1 σ2))) (fun σ3 => Q 1 σ3) x1 x2 n1 0 σ)
set_option maxHeartbeats 2000000 in
set_option maxRecDepth 20000 in
theorem ok_X8_isHeard (l : Launch) (g : Gm) (x1 : Int32) (x2 : Int32) (σ : Hp) (Q : Int32 → Hp → Prop) (h : S_X8_isHeard x1 x2 σ Q) : Ct l g yX8_isHeard cX8_isHeard 4 (some .boolean) 0 [.ref (gad g 8 0), .int x1, .int x2] σ (QI Q) := by
  refine Ct.of (by decide +kernel) (Nat.le_of_ble_eq_true rfl) ?_
  intro p e R s m args below meth c C
  have C : Cx g p R s m args meth c cX8_isHeard 4 RX8 (some .boolean) 0 := C
  have l2 : ∀ (K36 : Hp → Prop) (K28 : Hp → Prop) (y1 : Int32) (y2 : Int32) (hK36 : ∀ (σ : Hp), K36 σ → G g p l e R s m args below meth c (QI Q) 4 36 [(0, .ref (gad g 8 0)), (1, .int y1), (2, .int y2)] [] σ) (hK28 : ∀ (σ : Hp), K28 σ → G g p l e R s m args below meth c (QI Q) 4 28 [] [] σ) (n : Nat) (y3 : Int32) (σ : Hp), L_X8_isHeard_2 Q K36 K28 y1 y2 n y3 σ → G g p l e R s m args below meth c (QI Q) 4 2 [(0, .ref (gad g 8 0)), (1, .int y1), (2, .int y2), (3, .int y3)] [] σ := by
    intro K36 K28 y1 y2 hK36 hK28 n
    induction n with
    | zero => intro y3 σ h; exact False.elim h
    | succ n ih =>
      intro y3 σ h
      unfold L_X8_isHeard_2 at h
      refine r_iload_n C dX8_isHeard_2 rfl 3 rfl ?_
      refine r_aload_n C dX8_isHeard_3 rfl 0 rfl ?_
      refine gf_8_32 C dX8_isHeard_4 (cn_8 (by decide)) ?_
      refine r_iload_n C dX8_isHeard_7 rfl 1 rfl ?_
      refine r_iconst C dX8_isHeard_8 ic_3 ?_
      refine r_iadd C dX8_isHeard_9 ?_
      obtain ⟨h0, h⟩ := h
      refine r_iaload C dX8_isHeard_10 ak_58 (cn_58 (by decide)) al_58 h0 ?_
      refine r_icmp_ge (tgt := 36) C dX8_isHeard_11 rfl (fun q => ?_) (fun q => ?_)
      · have h := h.1 q
        refine r_sub [0, 1, 2] rfl ?_
        exact hK36 _ h
      · have h := h.2 q
        refine r_aload_n C dX8_isHeard_14 rfl 0 rfl ?_
        refine gf_8_32 C dX8_isHeard_15 (cn_8 (by decide)) ?_
        refine r_iload_n C dX8_isHeard_18 rfl 1 rfl ?_
        refine r_iconst C dX8_isHeard_19 ic_4 ?_
        refine r_iadd C dX8_isHeard_20 ?_
        refine r_iload_n C dX8_isHeard_21 rfl 3 rfl ?_
        refine r_iadd C dX8_isHeard_22 ?_
        obtain ⟨h0, h⟩ := h
        refine r_iaload C dX8_isHeard_23 ak_58 (cn_58 (by decide)) al_58 h0 ?_
        refine r_iload_n C dX8_isHeard_24 rfl 2 rfl ?_
        refine r_icmp_ne (tgt := 30) C dX8_isHeard_25 rfl (fun q => ?_) (fun q => ?_)
        · have h := h.1 q
          refine r_iinc (v := y3 + 1) C dX8_isHeard_30 3 rfl rfl (Nat.le_of_ble_eq_true rfl) rfl ?_
          refine r_goto (tgt := 2) C dX8_isHeard_33 rfl ?_
          refine r_sub [1, 2, 3, 0] rfl ?_
          exact ih _ _ h
        · have h := h.2 q
          refine r_sub [] rfl ?_
          exact hK28 _ h
  unfold S_X8_isHeard at h
  show G g p l e R s m args below meth c (QI Q) 4 0 [(0, .ref (gad g 8 0)), (1, .int x1), (2, .int x2)] [] σ
  refine r_iconst C dX8_isHeard_0 ic_0 ?_
  refine r_istore_n C dX8_isHeard_1 rfl (Nat.le_of_ble_eq_true rfl) rfl ?_
  refine r_sub [1, 2, 3, 0] rfl ?_
  obtain ⟨n1, h⟩ := h
  refine l2 _ _ _ _ (fun σ2 h => ?_) (fun σ3 h => ?_) n1 _ _ h
  · refine r_aload_n C dX8_isHeard_36 rfl 0 rfl ?_
    refine gf_8_32 C dX8_isHeard_37 (cn_8 (by decide)) ?_
    refine r_iload_n C dX8_isHeard_40 rfl 1 rfl ?_
    refine r_iconst C dX8_isHeard_41 ic_0 ?_
    refine r_iadd C dX8_isHeard_42 ?_
    obtain ⟨h0, h⟩ := h
    refine r_iaload C dX8_isHeard_43 ak_58 (cn_58 (by decide)) al_58 h0 ?_
    refine r_iload_n C dX8_isHeard_44 rfl 2 rfl ?_
    refine r_icmp_ne (tgt := 52) C dX8_isHeard_45 rfl (fun q => ?_) (fun q => ?_)
    · have h := h.1 q
      refine r_iconst C dX8_isHeard_52 ic_0 ?_
      exact r_zreturn C dX8_isHeard_53 zb0.1 ⟨_, rfl, h⟩
    · have h := h.2 q
      refine r_iconst C dX8_isHeard_48 ic_1 ?_
      refine r_goto (tgt := 53) C dX8_isHeard_49 rfl ?_
      exact r_zreturn C dX8_isHeard_53 zb1.1 ⟨_, rfl, h⟩
  · refine r_iconst C dX8_isHeard_28 ic_1 ?_
    exact r_zreturn C dX8_isHeard_29 zb1.1 ⟨_, rfl, h⟩
def S_X8_readReceiver (x1 : Int32) (σ : Hp) (Q : Int32 → Hp → Prop) : Prop :=
  S_X8_endHere σ (fun r2 σ1 => ((¬ r2 = (-1) → S_X8_isHeard x1 r2 σ1 (fun r4 σ3 => ((r4 = 0 → vp_in (x1 + 3) 56 ∧ vp_in ((x1 + 4) + (gI σ3 58 0 (ix (x1 + 3)))) 56 ∧ ∀ σ5, σ5 = sI σ3 58 0 (ix ((x1 + 4) + (gI σ3 58 0 (ix (x1 + 3))))) r2 → vp_in (x1 + 3) 56 ∧ vp_in (x1 + 3) 56 ∧ ∀ σ6, σ6 = sI σ5 58 0 (ix (x1 + 3)) ((gI σ5 58 0 (ix (x1 + 3))) + 1) → S_X8_goesOn σ6 (fun σ7 => Q r2 σ7)) ∧ (¬ r4 = 0 → S_X8_errs 3 σ3 (fun r9 σ8 => Q r9 σ8))))) ∧ (r2 = (-1) → Q (-1) σ1)))
set_option maxHeartbeats 2000000 in
set_option maxRecDepth 20000 in
theorem ok_X8_readReceiver (l : Launch) (g : Gm) (x1 : Int32) (σ : Hp) (Q : Int32 → Hp → Prop) (h : S_X8_readReceiver x1 σ Q) : Ct l g yX8_readReceiver cX8_readReceiver 3 (some .int) 7 [.ref (gad g 8 0), .int x1] σ (QI Q) := by
  refine Ct.of (by decide +kernel) (Nat.le_of_ble_eq_true rfl) ?_
  intro p e R s m args below meth c C
  have C : Cx g p R s m args meth c cX8_readReceiver 3 RX8 (some .int) 7 := C
  unfold S_X8_readReceiver at h
  show G g p l e R s m args below meth c (QI Q) 3 0 [(0, .ref (gad g 8 0)), (1, .int x1)] [] σ
  refine r_aload_n C dX8_readReceiver_0 rfl 0 rfl ?_
  refine r_callVi [] C dX8_readReceiver_1 w_8_170 (ok_X8_endHere l g _ _ h) (Nat.le_of_ble_eq_true rfl) rfl rfl ak_8 (cn_8 (by decide)) rfl rfl (Nat.le_of_ble_eq_true rfl) (fun r2 σ1 h => ?_)
  refine r_istore_n C dX8_readReceiver_4 rfl (Nat.le_of_ble_eq_true rfl) rfl ?_
  refine r_iload_n C dX8_readReceiver_5 rfl 0 rfl ?_
  refine r_iconst C dX8_readReceiver_6 ic_m1 ?_
  refine r_icmp_ne (tgt := 12) C dX8_readReceiver_7 rfl (fun q => ?_) (fun q => ?_)
  · have h := h.1 q
    refine r_aload_n C dX8_readReceiver_12 rfl 1 rfl ?_
    refine r_iload_n C dX8_readReceiver_13 rfl 2 rfl ?_
    refine r_iload_n C dX8_readReceiver_14 rfl 0 rfl ?_
    refine r_callVi [] C dX8_readReceiver_15 w_8_173 (ok_X8_isHeard l g _ _ _ _ h) (Nat.le_of_ble_eq_true rfl) rfl rfl ak_8 (cn_8 (by decide)) rfl rfl (Nat.le_of_ble_eq_true rfl) (fun r4 σ3 h => ?_)
    refine r_if_eq (tgt := 27) C dX8_readReceiver_18 rfl (fun q => ?_) (fun q => ?_)
    · have h := h.1 q
      refine r_aload_n C dX8_readReceiver_27 rfl 1 rfl ?_
      refine gf_8_32 C dX8_readReceiver_28 (cn_8 (by decide)) ?_
      refine r_iload_n C dX8_readReceiver_31 rfl 2 rfl ?_
      refine r_iconst C dX8_readReceiver_32 ic_4 ?_
      refine r_iadd C dX8_readReceiver_33 ?_
      refine r_aload_n C dX8_readReceiver_34 rfl 1 rfl ?_
      refine gf_8_32 C dX8_readReceiver_35 (cn_8 (by decide)) ?_
      refine r_iload_n C dX8_readReceiver_38 rfl 2 rfl ?_
      refine r_iconst C dX8_readReceiver_39 ic_3 ?_
      refine r_iadd C dX8_readReceiver_40 ?_
      obtain ⟨h0, h⟩ := h
      refine r_iaload C dX8_readReceiver_41 ak_58 (cn_58 (by decide)) al_58 h0 ?_
      refine r_iadd C dX8_readReceiver_42 ?_
      refine r_iload_n C dX8_readReceiver_43 rfl 0 rfl ?_
      obtain ⟨h0, h⟩ := h
      refine r_iastore C dX8_readReceiver_44 ak_58 (cn_58 (by decide)) al_58 h0 ?_
      have h := h _ rfl
      refine r_aload_n C dX8_readReceiver_45 rfl 1 rfl ?_
      refine gf_8_32 C dX8_readReceiver_46 (cn_8 (by decide)) ?_
      refine r_iload_n C dX8_readReceiver_49 rfl 2 rfl ?_
      refine r_iconst C dX8_readReceiver_50 ic_3 ?_
      refine r_iadd C dX8_readReceiver_51 ?_
      refine r_dup2 C dX8_readReceiver_52 rfl rfl ?_
      obtain ⟨h0, h⟩ := h
      refine r_iaload C dX8_readReceiver_53 ak_58 (cn_58 (by decide)) al_58 h0 ?_
      refine r_iconst C dX8_readReceiver_54 ic_1 ?_
      refine r_iadd C dX8_readReceiver_55 ?_
      obtain ⟨h0, h⟩ := h
      refine r_iastore C dX8_readReceiver_56 ak_58 (cn_58 (by decide)) al_58 h0 ?_
      have h := h _ rfl
      refine r_aload_n C dX8_readReceiver_57 rfl 1 rfl ?_
      refine r_callVv [] C dX8_readReceiver_58 w_8_117 (ok_X8_goesOn l g _ _ h) (Nat.le_of_ble_eq_true rfl) rfl rfl ak_8 (cn_8 (by decide)) rfl rfl (Nat.le_of_ble_eq_true rfl) (fun σ7 h => ?_)
      refine r_iload_n C dX8_readReceiver_61 rfl 0 rfl ?_
      exact r_ireturn C dX8_readReceiver_62 ⟨_, rfl, h⟩
    · have h := h.2 q
      refine r_aload_n C dX8_readReceiver_21 rfl 1 rfl ?_
      refine r_iconst C dX8_readReceiver_22 ic_3 ?_
      refine r_callVi [] C dX8_readReceiver_23 w_8_114 (ok_X8_errs l g _ _ _ h) (Nat.le_of_ble_eq_true rfl) rfl rfl ak_8 (cn_8 (by decide)) rfl rfl (Nat.le_of_ble_eq_true rfl) (fun r9 σ8 h => ?_)
      exact r_ireturn C dX8_readReceiver_26 ⟨_, rfl, h⟩
  · have h := h.2 q
    refine r_iconst C dX8_readReceiver_10 ic_m1 ?_
    exact r_ireturn C dX8_readReceiver_11 ⟨_, rfl, h⟩
def L_X8_readLink_226 (Q : Int32 → Hp → Prop) (K271 : Hp → Prop) (K254 : Hp → Prop) (K269 : Hp → Prop) (y1 : Int32) (y2 : Int32) : Nat → Hp → Prop
  | 0, _ => False
  | n + 1, σ =>
  (((gI σ 8 0 18) = 59 → K271 σ) ∧ (¬ (gI σ 8 0 18) = 59 → (((gI σ 8 0 18) = 0 → K271 σ) ∧ (¬ (gI σ 8 0 18) = 0 → vp_in (y2 + 3) 56 ∧ ((¬ (gI σ 58 0 (ix (y2 + 3))) = 3 → S_X8_readReceiver y2 σ (fun r24 σ23 => ((¬ r24 = (-1) → L_X8_readLink_226 Q K271 K254 K269 y1 y2 n σ23) ∧ (r24 = (-1) → K269 σ23)))) ∧ ((gI σ 58 0 (ix (y2 + 3))) = 3 → K254 σ))))))
def J_X8_readLink_169 (Q : Int32 → Hp → Prop) (y1 : Int32) (y2 : Int32) (z0 : Int32) (z1 : Int32) (z4 : Int32) (σ : Hp) : Prop :=
  S_X8_after 11 z1 z0 σ (fun r15 σ14 => vp_in z4 56 ∧ ∀ σ16, σ16 = sI σ14 58 0 (ix z4) r15 → vp_in (y2 + 2) 56 ∧ ((¬ (gI σ16 58 0 (ix (y2 + 2))) = (-1) → S_X8_isWord 12 σ16 (fun r18 σ17 => ((¬ r18 = 0 → S_X8_goesOn σ17 (fun σ19 => vp_in (y2 + 3) 56 ∧ ∀ σ20, σ20 = sI σ19 58 0 (ix (y2 + 3)) 0 → S_X8_readReceiver y2 σ20 (fun r22 σ21 => ((¬ r22 = (-1) → (∃ n25, L_X8_readLink_226 Q (fun σ26 => vp_in 6 7 ∧ vp_in 6 7 ∧ ∀ σ27, σ27 = sI σ26 54 0 (ix 6) ((gI σ26 54 0 (ix 6)) + 1) → Q y1 σ27) (fun σ28 => S_X8_errs 1 σ28 (fun r30 σ29 => Q r30 σ29)) (fun σ31 => Q (-1) σ31) y1 y2 n25 σ21)) ∧ (r22 = (-1) → Q (-1) σ21))))) ∧ (r18 = 0 → S_X8_errs 1 σ17 (fun r33 σ32 => Q r33 σ32))))) ∧ ((gI σ16 58 0 (ix (y2 + 2))) = (-1) → Q (-1) σ16)))
def S_X8_readLink (σ : Hp) (Q : Int32 → Hp → Prop) : Prop :=
  vp_in 6 7 ∧ ((¬ (gI σ 54 0 (ix 6)) = 8 → ((¬ (gI σ 8 0 23) = 0 → S_X8_goesOn σ (fun σ1 => S_X8_newName (6 + (gI σ 54 0 (ix 6))) σ1 (fun r3 σ2 => ((¬ r3 = (-1) → S_X8_isWord 9 σ2 (fun r5 σ4 => ((¬ r5 = 0 → S_X8_goesOn σ4 (fun σ6 => S_X8_endHere σ6 (fun r8 σ7 => vp_in ((7 * (gI σ 54 0 (ix 6))) + 0) 56 ∧ ∀ σ9, σ9 = sI σ7 58 0 (ix ((7 * (gI σ 54 0 (ix 6))) + 0)) r8 → vp_in ((7 * (gI σ 54 0 (ix 6))) + 0) 56 ∧ ((¬ (gI σ9 58 0 (ix ((7 * (gI σ 54 0 (ix 6))) + 0))) = (-1) → S_X8_goesOn σ9 (fun σ10 => S_X8_readGap σ10 (fun r12 σ11 => vp_in ((7 * (gI σ 54 0 (ix 6))) + 1) 56 ∧ ∀ σ13, σ13 = sI σ11 58 0 (ix ((7 * (gI σ 54 0 (ix 6))) + 1)) r12 → vp_in ((7 * (gI σ 54 0 (ix 6))) + 1) 56 ∧ ((¬ (gI σ13 58 0 (ix ((7 * (gI σ 54 0 (ix 6))) + 1))) = (-1) → vp_in ((7 * (gI σ 54 0 (ix 6))) + 1) 56 ∧ (((40 : Int32) ≤ (gI σ13 58 0 (ix ((7 * (gI σ 54 0 (ix 6))) + 1))) → J_X8_readLink_169 Q (gI σ 54 0 (ix 6)) (7 * (gI σ 54 0 (ix 6))) 40 1 ((7 * (gI σ 54 0 (ix 6))) + 2) σ13) ∧ (¬ (40 : Int32) ≤ (gI σ13 58 0 (ix ((7 * (gI σ 54 0 (ix 6))) + 1))) → vp_in ((7 * (gI σ 54 0 (ix 6))) + 1) 56 ∧ J_X8_readLink_169 Q (gI σ 54 0 (ix 6)) (7 * (gI σ 54 0 (ix 6))) (gI σ13 58 0 (ix ((7 * (gI σ 54 0 (ix 6))) + 1))) 1 ((7 * (gI σ 54 0 (ix 6))) + 2) σ13))) ∧ ((gI σ13 58 0 (ix ((7 * (gI σ 54 0 (ix 6))) + 1))) = (-1) → Q (-1) σ13))))) ∧ ((gI σ9 58 0 (ix ((7 * (gI σ 54 0 (ix 6))) + 0))) = (-1) → Q (-1) σ9))))) ∧ (r5 = 0 → S_X8_errs 1 σ4 (fun r35 σ34 => Q r35 σ34))))) ∧ (r3 = (-1) → Q (-1) σ2))))) ∧ ((gI σ 8 0 23) = 0 → S_X8_errs 6 σ (fun r37 σ36 => Q r37 σ36)))) ∧ ((gI σ 54 0 (ix 6)) = 8 → S_X8_errs 5 σ (fun r39 σ38 => Q r39 σ38)))
set_option maxHeartbeats 2000000 in
set_option maxRecDepth 20000 in
theorem ok_X8_readLink (l : Launch) (g : Gm) (σ : Hp) (Q : Int32 → Hp → Prop) (h : S_X8_readLink σ Q) : Ct l g yX8_readLink cX8_readLink 3 (some .int) 8 [.ref (gad g 8 0)] σ (QI Q) := by
  refine Ct.of (by decide +kernel) (Nat.le_of_ble_eq_true rfl) ?_
  intro p e R s m args below meth c C
  have C : Cx g p R s m args meth c cX8_readLink 3 RX8 (some .int) 8 := C
  have l226 : ∀ (K271 : Hp → Prop) (K254 : Hp → Prop) (K269 : Hp → Prop) (y1 : Int32) (y2 : Int32) (hK271 : ∀ (σ : Hp), K271 σ → G g p l e R s m args below meth c (QI Q) 3 271 [(0, .ref (gad g 8 0)), (1, .int y1)] [] σ) (hK254 : ∀ (σ : Hp), K254 σ → G g p l e R s m args below meth c (QI Q) 3 254 [(0, .ref (gad g 8 0))] [] σ) (hK269 : ∀ (σ : Hp), K269 σ → G g p l e R s m args below meth c (QI Q) 3 269 [] [] σ) (n : Nat) (σ : Hp), L_X8_readLink_226 Q K271 K254 K269 y1 y2 n σ → G g p l e R s m args below meth c (QI Q) 3 226 [(0, .ref (gad g 8 0)), (1, .int y1), (2, .int y2)] [] σ := by
    intro K271 K254 K269 y1 y2 hK271 hK254 hK269 n
    induction n with
    | zero => intro σ h; exact False.elim h
    | succ n ih =>
      intro σ h
      unfold L_X8_readLink_226 at h
      refine r_aload_n C dX8_readLink_226 rfl 0 rfl ?_
      refine gf_8_77 C dX8_readLink_227 (cn_8 (by decide)) ?_
      refine r_bipush C dX8_readLink_230 bi_59 ?_
      refine r_icmp_eq (tgt := 271) C dX8_readLink_232 rfl (fun q => ?_) (fun q => ?_)
      · have h := h.1 q
        refine r_sub [0, 1] rfl ?_
        exact hK271 _ h
      · have h := h.2 q
        refine r_aload_n C dX8_readLink_235 rfl 0 rfl ?_
        refine gf_8_77 C dX8_readLink_236 (cn_8 (by decide)) ?_
        refine r_if_eq (tgt := 271) C dX8_readLink_239 rfl (fun q => ?_) (fun q => ?_)
        · have h := h.1 q
          refine r_sub [0, 1] rfl ?_
          exact hK271 _ h
        · have h := h.2 q
          refine r_aload_n C dX8_readLink_242 rfl 0 rfl ?_
          refine gf_8_32 C dX8_readLink_243 (cn_8 (by decide)) ?_
          refine r_iload_n C dX8_readLink_246 rfl 2 rfl ?_
          refine r_iconst C dX8_readLink_247 ic_3 ?_
          refine r_iadd C dX8_readLink_248 ?_
          obtain ⟨h0, h⟩ := h
          refine r_iaload C dX8_readLink_249 ak_58 (cn_58 (by decide)) al_58 h0 ?_
          refine r_iconst C dX8_readLink_250 ic_3 ?_
          refine r_icmp_ne (tgt := 260) C dX8_readLink_251 rfl (fun q => ?_) (fun q => ?_)
          · have h := h.1 q
            refine r_aload_n C dX8_readLink_260 rfl 0 rfl ?_
            refine r_iload_n C dX8_readLink_261 rfl 2 rfl ?_
            refine r_callVi [] C dX8_readLink_262 w_8_185 (ok_X8_readReceiver l g _ _ _ h) (Nat.le_of_ble_eq_true rfl) rfl rfl ak_8 (cn_8 (by decide)) rfl rfl (Nat.le_of_ble_eq_true rfl) (fun r24 σ23 h => ?_)
            refine r_iconst C dX8_readLink_265 ic_m1 ?_
            refine r_icmp_ne (tgt := 226) C dX8_readLink_266 rfl (fun q => ?_) (fun q => ?_)
            · have h := h.1 q
              exact ih _ h
            · have h := h.2 q
              refine r_sub [] rfl ?_
              exact hK269 _ h
          · have h := h.2 q
            refine r_sub [0] rfl ?_
            exact hK254 _ h
  have j169 : ∀ (y1 : Int32) (y2 : Int32) (z0 : Int32) (z1 : Int32) (z4 : Int32) (σ : Hp), J_X8_readLink_169 Q y1 y2 z0 z1 z4 σ → G g p l e R s m args below meth c (QI Q) 3 169 [(0, .ref (gad g 8 0)), (1, .int y1), (2, .int y2)] [.int z0, .int z1, .ref (gK g 11), .ref (gad g 8 0), .int z4, .ref (gad g 58 0)] σ := by
    intro y1 y2 z0 z1 z4 σ h
    unfold J_X8_readLink_169 at h
    refine r_callVi [.int _, .ref (gad g 58 0)] C dX8_readLink_169 w_8_147 (ok_X8_after l g 11 (by decide) _ _ _ _ h) (Nat.le_of_ble_eq_true rfl) rfl rfl ak_8 (cn_8 (by decide)) rfl rfl (Nat.le_of_ble_eq_true rfl) (fun r15 σ14 h => ?_)
    obtain ⟨h0, h⟩ := h
    refine r_iastore C dX8_readLink_172 ak_58 (cn_58 (by decide)) al_58 h0 ?_
    have h := h _ rfl
    refine r_aload_n C dX8_readLink_173 rfl 0 rfl ?_
    refine gf_8_32 C dX8_readLink_174 (cn_8 (by decide)) ?_
    refine r_iload_n C dX8_readLink_177 rfl 2 rfl ?_
    refine r_iconst C dX8_readLink_178 ic_2 ?_
    refine r_iadd C dX8_readLink_179 ?_
    obtain ⟨h0, h⟩ := h
    refine r_iaload C dX8_readLink_180 ak_58 (cn_58 (by decide)) al_58 h0 ?_
    refine r_iconst C dX8_readLink_181 ic_m1 ?_
    refine r_icmp_ne (tgt := 187) C dX8_readLink_182 rfl (fun q => ?_) (fun q => ?_)
    · have h := h.1 q
      refine r_aload_n C dX8_readLink_187 rfl 0 rfl ?_
      refine r_ldcS (j := 12) C dX8_readLink_188 (by decide) rfl ?_
      refine r_callVi [] C dX8_readLink_190 w_8_120 (ok_X8_isWord l g 12 (by decide) _ _ h) (Nat.le_of_ble_eq_true rfl) rfl rfl ak_8 (cn_8 (by decide)) rfl rfl (Nat.le_of_ble_eq_true rfl) (fun r18 σ17 h => ?_)
      refine r_if_ne (tgt := 202) C dX8_readLink_193 rfl (fun q => ?_) (fun q => ?_)
      · have h := h.1 q
        refine r_aload_n C dX8_readLink_202 rfl 0 rfl ?_
        refine r_callVv [] C dX8_readLink_203 w_8_117 (ok_X8_goesOn l g _ _ h) (Nat.le_of_ble_eq_true rfl) rfl rfl ak_8 (cn_8 (by decide)) rfl rfl (Nat.le_of_ble_eq_true rfl) (fun σ19 h => ?_)
        refine r_aload_n C dX8_readLink_206 rfl 0 rfl ?_
        refine gf_8_32 C dX8_readLink_207 (cn_8 (by decide)) ?_
        refine r_iload_n C dX8_readLink_210 rfl 2 rfl ?_
        refine r_iconst C dX8_readLink_211 ic_3 ?_
        refine r_iadd C dX8_readLink_212 ?_
        refine r_iconst C dX8_readLink_213 ic_0 ?_
        obtain ⟨h0, h⟩ := h
        refine r_iastore C dX8_readLink_214 ak_58 (cn_58 (by decide)) al_58 h0 ?_
        have h := h _ rfl
        refine r_aload_n C dX8_readLink_215 rfl 0 rfl ?_
        refine r_iload_n C dX8_readLink_216 rfl 2 rfl ?_
        refine r_callVi [] C dX8_readLink_217 w_8_185 (ok_X8_readReceiver l g _ _ _ h) (Nat.le_of_ble_eq_true rfl) rfl rfl ak_8 (cn_8 (by decide)) rfl rfl (Nat.le_of_ble_eq_true rfl) (fun r22 σ21 h => ?_)
        refine r_iconst C dX8_readLink_220 ic_m1 ?_
        refine r_icmp_ne (tgt := 226) C dX8_readLink_221 rfl (fun q => ?_) (fun q => ?_)
        · have h := h.1 q
          obtain ⟨n25, h⟩ := h
          refine l226 _ _ _ _ _ (fun σ26 h => ?_) (fun σ28 h => ?_) (fun σ31 h => ?_) n25 _ h
          · refine r_aload_n C dX8_readLink_271 rfl 0 rfl ?_
            refine gf_8_20 C dX8_readLink_272 (cn_8 (by decide)) ?_
            refine r_bipush C dX8_readLink_275 bi_6 ?_
            refine r_dup2 C dX8_readLink_277 rfl rfl ?_
            obtain ⟨h0, h⟩ := h
            refine r_iaload C dX8_readLink_278 ak_54 (cn_54 (by decide)) al_54 h0 ?_
            refine r_iconst C dX8_readLink_279 ic_1 ?_
            refine r_iadd C dX8_readLink_280 ?_
            obtain ⟨h0, h⟩ := h
            refine r_iastore C dX8_readLink_281 ak_54 (cn_54 (by decide)) al_54 h0 ?_
            have h := h _ rfl
            refine r_iload_n C dX8_readLink_282 rfl 1 rfl ?_
            exact r_ireturn C dX8_readLink_283 ⟨_, rfl, h⟩
          · refine r_aload_n C dX8_readLink_254 rfl 0 rfl ?_
            refine r_iconst C dX8_readLink_255 ic_1 ?_
            refine r_callVi [] C dX8_readLink_256 w_8_114 (ok_X8_errs l g _ _ _ h) (Nat.le_of_ble_eq_true rfl) rfl rfl ak_8 (cn_8 (by decide)) rfl rfl (Nat.le_of_ble_eq_true rfl) (fun r30 σ29 h => ?_)
            exact r_ireturn C dX8_readLink_259 ⟨_, rfl, h⟩
          · refine r_iconst C dX8_readLink_269 ic_m1 ?_
            exact r_ireturn C dX8_readLink_270 ⟨_, rfl, h⟩
        · have h := h.2 q
          refine r_iconst C dX8_readLink_224 ic_m1 ?_
          exact r_ireturn C dX8_readLink_225 ⟨_, rfl, h⟩
      · have h := h.2 q
        refine r_aload_n C dX8_readLink_196 rfl 0 rfl ?_
        refine r_iconst C dX8_readLink_197 ic_1 ?_
        refine r_callVi [] C dX8_readLink_198 w_8_114 (ok_X8_errs l g _ _ _ h) (Nat.le_of_ble_eq_true rfl) rfl rfl ak_8 (cn_8 (by decide)) rfl rfl (Nat.le_of_ble_eq_true rfl) (fun r33 σ32 h => ?_)
        exact r_ireturn C dX8_readLink_201 ⟨_, rfl, h⟩
    · have h := h.2 q
      refine r_iconst C dX8_readLink_185 ic_m1 ?_
      exact r_ireturn C dX8_readLink_186 ⟨_, rfl, h⟩
  unfold S_X8_readLink at h
  show G g p l e R s m args below meth c (QI Q) 3 0 [(0, .ref (gad g 8 0))] [] σ
  refine r_aload_n C dX8_readLink_0 rfl 0 rfl ?_
  refine gf_8_20 C dX8_readLink_1 (cn_8 (by decide)) ?_
  refine r_bipush C dX8_readLink_4 bi_6 ?_
  obtain ⟨h0, h⟩ := h
  refine r_iaload C dX8_readLink_6 ak_54 (cn_54 (by decide)) al_54 h0 ?_
  refine r_istore_n C dX8_readLink_7 rfl (Nat.le_of_ble_eq_true rfl) rfl ?_
  refine r_iload_n C dX8_readLink_8 rfl 0 rfl ?_
  refine r_bipush C dX8_readLink_9 bi_8 ?_
  refine r_icmp_ne (tgt := 20) C dX8_readLink_11 rfl (fun q => ?_) (fun q => ?_)
  · have h := h.1 q
    refine r_aload_n C dX8_readLink_20 rfl 1 rfl ?_
    refine gf_8_141 C dX8_readLink_21 (cn_8 (by decide)) ?_
    refine r_if_ne (tgt := 34) C dX8_readLink_24 rfl (fun q => ?_) (fun q => ?_)
    · have h := h.1 q
      refine r_aload_n C dX8_readLink_34 rfl 1 rfl ?_
      refine r_callVv [] C dX8_readLink_35 w_8_117 (ok_X8_goesOn l g _ _ h) (Nat.le_of_ble_eq_true rfl) rfl rfl ak_8 (cn_8 (by decide)) rfl rfl (Nat.le_of_ble_eq_true rfl) (fun σ1 h => ?_)
      refine r_aload_n C dX8_readLink_38 rfl 1 rfl ?_
      refine r_bipush C dX8_readLink_39 bi_6 ?_
      refine r_iload_n C dX8_readLink_41 rfl 0 rfl ?_
      refine r_iadd C dX8_readLink_42 ?_
      refine r_callVi [] C dX8_readLink_43 w_8_159 (ok_X8_newName l g _ _ _ h) (Nat.le_of_ble_eq_true rfl) rfl rfl ak_8 (cn_8 (by decide)) rfl rfl (Nat.le_of_ble_eq_true rfl) (fun r3 σ2 h => ?_)
      refine r_iconst C dX8_readLink_46 ic_m1 ?_
      refine r_icmp_ne (tgt := 52) C dX8_readLink_47 rfl (fun q => ?_) (fun q => ?_)
      · have h := h.1 q
        refine r_aload_n C dX8_readLink_52 rfl 1 rfl ?_
        refine r_ldcS (j := 9) C dX8_readLink_53 (by decide) rfl ?_
        refine r_callVi [] C dX8_readLink_55 w_8_120 (ok_X8_isWord l g 9 (by decide) _ _ h) (Nat.le_of_ble_eq_true rfl) rfl rfl ak_8 (cn_8 (by decide)) rfl rfl (Nat.le_of_ble_eq_true rfl) (fun r5 σ4 h => ?_)
        refine r_if_ne (tgt := 67) C dX8_readLink_58 rfl (fun q => ?_) (fun q => ?_)
        · have h := h.1 q
          refine r_aload_n C dX8_readLink_67 rfl 1 rfl ?_
          refine r_callVv [] C dX8_readLink_68 w_8_117 (ok_X8_goesOn l g _ _ h) (Nat.le_of_ble_eq_true rfl) rfl rfl ak_8 (cn_8 (by decide)) rfl rfl (Nat.le_of_ble_eq_true rfl) (fun σ6 h => ?_)
          refine r_bipush C dX8_readLink_71 bi_7 ?_
          refine r_iload_n C dX8_readLink_73 rfl 0 rfl ?_
          refine r_imul C dX8_readLink_74 ?_
          refine r_istore_n C dX8_readLink_75 rfl (Nat.le_of_ble_eq_true rfl) rfl ?_
          refine r_aload_n C dX8_readLink_76 rfl 2 rfl ?_
          refine gf_8_32 C dX8_readLink_77 (cn_8 (by decide)) ?_
          refine r_iload_n C dX8_readLink_80 rfl 0 rfl ?_
          refine r_iconst C dX8_readLink_81 ic_0 ?_
          refine r_iadd C dX8_readLink_82 ?_
          refine r_aload_n C dX8_readLink_83 rfl 2 rfl ?_
          refine r_callVi [.int _, .ref (gad g 58 0)] C dX8_readLink_84 w_8_170 (ok_X8_endHere l g _ _ h) (Nat.le_of_ble_eq_true rfl) rfl rfl ak_8 (cn_8 (by decide)) rfl rfl (Nat.le_of_ble_eq_true rfl) (fun r8 σ7 h => ?_)
          obtain ⟨h0, h⟩ := h
          refine r_iastore C dX8_readLink_87 ak_58 (cn_58 (by decide)) al_58 h0 ?_
          have h := h _ rfl
          refine r_aload_n C dX8_readLink_88 rfl 2 rfl ?_
          refine gf_8_32 C dX8_readLink_89 (cn_8 (by decide)) ?_
          refine r_iload_n C dX8_readLink_92 rfl 0 rfl ?_
          refine r_iconst C dX8_readLink_93 ic_0 ?_
          refine r_iadd C dX8_readLink_94 ?_
          obtain ⟨h0, h⟩ := h
          refine r_iaload C dX8_readLink_95 ak_58 (cn_58 (by decide)) al_58 h0 ?_
          refine r_iconst C dX8_readLink_96 ic_m1 ?_
          refine r_icmp_ne (tgt := 102) C dX8_readLink_97 rfl (fun q => ?_) (fun q => ?_)
          · have h := h.1 q
            refine r_aload_n C dX8_readLink_102 rfl 2 rfl ?_
            refine r_callVv [] C dX8_readLink_103 w_8_117 (ok_X8_goesOn l g _ _ h) (Nat.le_of_ble_eq_true rfl) rfl rfl ak_8 (cn_8 (by decide)) rfl rfl (Nat.le_of_ble_eq_true rfl) (fun σ10 h => ?_)
            refine r_aload_n C dX8_readLink_106 rfl 2 rfl ?_
            refine gf_8_32 C dX8_readLink_107 (cn_8 (by decide)) ?_
            refine r_iload_n C dX8_readLink_110 rfl 0 rfl ?_
            refine r_iconst C dX8_readLink_111 ic_1 ?_
            refine r_iadd C dX8_readLink_112 ?_
            refine r_aload_n C dX8_readLink_113 rfl 2 rfl ?_
            refine r_callVi [.int _, .ref (gad g 58 0)] C dX8_readLink_114 w_8_179 (ok_X8_readGap l g _ _ h) (Nat.le_of_ble_eq_true rfl) rfl rfl ak_8 (cn_8 (by decide)) rfl rfl (Nat.le_of_ble_eq_true rfl) (fun r12 σ11 h => ?_)
            obtain ⟨h0, h⟩ := h
            refine r_iastore C dX8_readLink_117 ak_58 (cn_58 (by decide)) al_58 h0 ?_
            have h := h _ rfl
            refine r_aload_n C dX8_readLink_118 rfl 2 rfl ?_
            refine gf_8_32 C dX8_readLink_119 (cn_8 (by decide)) ?_
            refine r_iload_n C dX8_readLink_122 rfl 0 rfl ?_
            refine r_iconst C dX8_readLink_123 ic_1 ?_
            refine r_iadd C dX8_readLink_124 ?_
            obtain ⟨h0, h⟩ := h
            refine r_iaload C dX8_readLink_125 ak_58 (cn_58 (by decide)) al_58 h0 ?_
            refine r_iconst C dX8_readLink_126 ic_m1 ?_
            refine r_icmp_ne (tgt := 132) C dX8_readLink_127 rfl (fun q => ?_) (fun q => ?_)
            · have h := h.1 q
              refine r_aload_n C dX8_readLink_132 rfl 2 rfl ?_
              refine gf_8_32 C dX8_readLink_133 (cn_8 (by decide)) ?_
              refine r_iload_n C dX8_readLink_136 rfl 0 rfl ?_
              refine r_iconst C dX8_readLink_137 ic_2 ?_
              refine r_iadd C dX8_readLink_138 ?_
              refine r_aload_n C dX8_readLink_139 rfl 2 rfl ?_
              refine r_ldcS (j := 11) C dX8_readLink_140 (by decide) rfl ?_
              refine r_iconst C dX8_readLink_142 ic_1 ?_
              refine r_aload_n C dX8_readLink_143 rfl 2 rfl ?_
              refine gf_8_32 C dX8_readLink_144 (cn_8 (by decide)) ?_
              refine r_iload_n C dX8_readLink_147 rfl 0 rfl ?_
              refine r_iconst C dX8_readLink_148 ic_1 ?_
              refine r_iadd C dX8_readLink_149 ?_
              obtain ⟨h0, h⟩ := h
              refine r_iaload C dX8_readLink_150 ak_58 (cn_58 (by decide)) al_58 h0 ?_
              refine r_bipush C dX8_readLink_151 bi_40 ?_
              refine r_icmp_ge (tgt := 167) C dX8_readLink_153 rfl (fun q => ?_) (fun q => ?_)
              · have h := h.1 q
                refine r_bipush C dX8_readLink_167 bi_40 ?_
                refine r_sub [2, 1, 0] rfl ?_
                exact j169 _ _ _ _ _ _ h
              · have h := h.2 q
                refine r_aload_n C dX8_readLink_156 rfl 2 rfl ?_
                refine gf_8_32 C dX8_readLink_157 (cn_8 (by decide)) ?_
                refine r_iload_n C dX8_readLink_160 rfl 0 rfl ?_
                refine r_iconst C dX8_readLink_161 ic_1 ?_
                refine r_iadd C dX8_readLink_162 ?_
                obtain ⟨h0, h⟩ := h
                refine r_iaload C dX8_readLink_163 ak_58 (cn_58 (by decide)) al_58 h0 ?_
                refine r_goto (tgt := 169) C dX8_readLink_164 rfl ?_
                refine r_sub [2, 1, 0] rfl ?_
                exact j169 _ _ _ _ _ _ h
            · have h := h.2 q
              refine r_iconst C dX8_readLink_130 ic_m1 ?_
              exact r_ireturn C dX8_readLink_131 ⟨_, rfl, h⟩
          · have h := h.2 q
            refine r_iconst C dX8_readLink_100 ic_m1 ?_
            exact r_ireturn C dX8_readLink_101 ⟨_, rfl, h⟩
        · have h := h.2 q
          refine r_aload_n C dX8_readLink_61 rfl 1 rfl ?_
          refine r_iconst C dX8_readLink_62 ic_1 ?_
          refine r_callVi [] C dX8_readLink_63 w_8_114 (ok_X8_errs l g _ _ _ h) (Nat.le_of_ble_eq_true rfl) rfl rfl ak_8 (cn_8 (by decide)) rfl rfl (Nat.le_of_ble_eq_true rfl) (fun r35 σ34 h => ?_)
          exact r_ireturn C dX8_readLink_66 ⟨_, rfl, h⟩
      · have h := h.2 q
        refine r_iconst C dX8_readLink_50 ic_m1 ?_
        exact r_ireturn C dX8_readLink_51 ⟨_, rfl, h⟩
    · have h := h.2 q
      refine r_aload_n C dX8_readLink_27 rfl 1 rfl ?_
      refine r_bipush C dX8_readLink_28 bi_6 ?_
      refine r_callVi [] C dX8_readLink_30 w_8_114 (ok_X8_errs l g _ _ _ h) (Nat.le_of_ble_eq_true rfl) rfl rfl ak_8 (cn_8 (by decide)) rfl rfl (Nat.le_of_ble_eq_true rfl) (fun r37 σ36 h => ?_)
      exact r_ireturn C dX8_readLink_33 ⟨_, rfl, h⟩
  · have h := h.2 q
    refine r_aload_n C dX8_readLink_14 rfl 1 rfl ?_
    refine r_iconst C dX8_readLink_15 ic_5 ?_
    refine r_callVi [] C dX8_readLink_16 w_8_114 (ok_X8_errs l g _ _ _ h) (Nat.le_of_ble_eq_true rfl) rfl rfl ak_8 (cn_8 (by decide)) rfl rfl (Nat.le_of_ble_eq_true rfl) (fun r39 σ38 h => ?_)
    exact r_ireturn C dX8_readLink_19 ⟨_, rfl, h⟩
