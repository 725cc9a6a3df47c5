def S_X8_linkOf (x1 : Int32) (x2 : Int32) (σ : Hp) (Q : Int32 → Hp → Prop) : Prop :=
  vp_in ((7 * x1) + x2) 56 ∧ Q (gI σ 57 0 (ix ((7 * x1) + x2))) σ
set_option maxHeartbeats 2000000 in
set_option maxRecDepth 20000 in
theorem ok_X8_linkOf (l : Launch) (g : Gm) (x1 : Int32) (x2 : Int32) (σ : Hp) (Q : Int32 → Hp → Prop) (h : S_X8_linkOf x1 x2 σ Q) : Ct l g yX8_linkOf cX8_linkOf 3 (some .int) 0 [.ref (gad g 8 0), .int x1, .int x2] σ (QI Q) := by
  refine Ct.of (by decide +kernel) (Nat.le_of_ble_eq_true rfl) ?_
  intro p e R s m args below meth c C
  have C : Cx g p R s m args meth c cX8_linkOf 3 RX8 (some .int) 0 := C
  unfold S_X8_linkOf at h
  show G g p l e R s m args below meth c (QI Q) 3 0 [(0, .ref (gad g 8 0)), (1, .int x1), (2, .int x2)] [] σ
  refine r_aload_n C dX8_linkOf_0 rfl 0 rfl ?_
  refine gf_8_29 C dX8_linkOf_1 (cn_8 (by decide)) ?_
  refine r_bipush C dX8_linkOf_4 bi_7 ?_
  refine r_iload_n C dX8_linkOf_6 rfl 1 rfl ?_
  refine r_imul C dX8_linkOf_7 ?_
  refine r_iload_n C dX8_linkOf_8 rfl 2 rfl ?_
  refine r_iadd C dX8_linkOf_9 ?_
  obtain ⟨h0, h⟩ := h
  refine r_iaload C dX8_linkOf_10 ak_57 (cn_57 (by decide)) al_57 h0 ?_
  exact r_ireturn C dX8_linkOf_11 ⟨_, rfl, h⟩
def S_X8_receiverOf (x1 : Int32) (x2 : Int32) (σ : Hp) (Q : Int32 → Hp → Prop) : Prop :=
  S_X8_linkOf x1 (4 + x2) σ (fun r2 σ1 => Q r2 σ1)
set_option maxHeartbeats 2000000 in
set_option maxRecDepth 20000 in
theorem ok_X8_receiverOf (l : Launch) (g : Gm) (x1 : Int32) (x2 : Int32) (σ : Hp) (Q : Int32 → Hp → Prop) (h : S_X8_receiverOf x1 x2 σ Q) : Ct l g yX8_receiverOf cX8_receiverOf 3 (some .int) 1 [.ref (gad g 8 0), .int x1, .int x2] σ (QI Q) := by
  refine Ct.of (by decide +kernel) (Nat.le_of_ble_eq_true rfl) ?_
  intro p e R s m args below meth c C
  have C : Cx g p R s m args meth c cX8_receiverOf 3 RX8 (some .int) 1 := C
  unfold S_X8_receiverOf at h
  show G g p l e R s m args below meth c (QI Q) 3 0 [(0, .ref (gad g 8 0)), (1, .int x1), (2, .int x2)] [] σ
  refine r_aload_n C dX8_receiverOf_0 rfl 0 rfl ?_
  refine r_iload_n C dX8_receiverOf_1 rfl 1 rfl ?_
  refine r_iconst C dX8_receiverOf_2 ic_4 ?_
  refine r_iload_n C dX8_receiverOf_3 rfl 2 rfl ?_
  refine r_iadd C dX8_receiverOf_4 ?_
  refine r_callVi [] C dX8_receiverOf_5 w_8_221 (ok_X8_linkOf l g _ _ _ _ h) (Nat.le_of_ble_eq_true rfl) rfl rfl ak_8 (cn_8 (by decide)) rfl rfl (Nat.le_of_ble_eq_true rfl) (fun r2 σ1 h => ?_)
  exact r_ireturn C dX8_receiverOf_8 ⟨_, rfl, h⟩
def S_X8_apart (x0 : Int32) (x1 : Int32) (σ : Hp) (Q : Int32 → Hp → Prop) : Prop :=
  ((x1 ≤ x0 → Q (x0 - x1) σ) ∧ (¬ x1 ≤ x0 → Q (x1 - x0) σ))
set_option maxHeartbeats 2000000 in
set_option maxRecDepth 20000 in
theorem ok_X8_apart (l : Launch) (g : Gm) (x0 : Int32) (x1 : Int32) (σ : Hp) (Q : Int32 → Hp → Prop) (h : S_X8_apart x0 x1 σ Q) : Ct l g yX8_apart cX8_apart 2 (some .int) 0 [.int x0, .int x1] σ (QI Q) := by
  refine Ct.of (by decide +kernel) (Nat.le_of_ble_eq_true rfl) ?_
  intro p e R s m args below meth c C
  have C : Cx g p R s m args meth c cX8_apart 2 RX8 (some .int) 0 := C
  unfold S_X8_apart at h
  show G g p l e R s m args below meth c (QI Q) 2 0 [(0, .int x0), (1, .int x1)] [] σ
  refine r_iload_n C dX8_apart_0 rfl 0 rfl ?_
  refine r_iload_n C dX8_apart_1 rfl 1 rfl ?_
  refine r_icmp_ge (tgt := 11) C dX8_apart_2 rfl (fun q => ?_) (fun q => ?_)
  · have h := h.1 q
    refine r_iload_n C dX8_apart_11 rfl 0 rfl ?_
    refine r_iload_n C dX8_apart_12 rfl 1 rfl ?_
    refine r_isub C dX8_apart_13 ?_
    exact r_ireturn C dX8_apart_14 ⟨_, rfl, h⟩
  · have h := h.2 q
    refine r_iload_n C dX8_apart_5 rfl 1 rfl ?_
    refine r_iload_n C dX8_apart_6 rfl 0 rfl ?_
    refine r_isub C dX8_apart_7 ?_
    refine r_goto (tgt := 14) C dX8_apart_8 rfl ?_
    exact r_ireturn C dX8_apart_14 ⟨_, rfl, h⟩
def S_X8_wayLong (x1 : Int32) (x2 : Int32) (σ : Hp) (Q : Int32 → Hp → Prop) : Prop :=
  S_X8_linkOf x1 0 σ (fun r2 σ1 => vp_in r2 6 ∧ S_X8_receiverOf x1 x2 σ1 (fun r4 σ3 => vp_in r4 6 ∧ S_X8_apart (gI σ1 55 0 (ix r2)) (gI σ3 55 0 (ix r4)) σ3 (fun r6 σ5 => Q (2 + r6) σ5)))
set_option maxHeartbeats 2000000 in
set_option maxRecDepth 20000 in
theorem ok_X8_wayLong (l : Launch) (g : Gm) (x1 : Int32) (x2 : Int32) (σ : Hp) (Q : Int32 → Hp → Prop) (h : S_X8_wayLong x1 x2 σ Q) : Ct l g yX8_wayLong cX8_wayLong 3 (some .int) 2 [.ref (gad g 8 0), .int x1, .int x2] σ (QI Q) := by
  refine Ct.of (by decide +kernel) (Nat.le_of_ble_eq_true rfl) ?_
  intro p e R s m args below meth c C
  have C : Cx g p R s m args meth c cX8_wayLong 3 RX8 (some .int) 2 := C
  unfold S_X8_wayLong at h
  show G g p l e R s m args below meth c (QI Q) 3 0 [(0, .ref (gad g 8 0)), (1, .int x1), (2, .int x2)] [] σ
  refine r_iconst C dX8_wayLong_0 ic_2 ?_
  refine r_aload_n C dX8_wayLong_1 rfl 0 rfl ?_
  refine gf_8_23 C dX8_wayLong_2 (cn_8 (by decide)) ?_
  refine r_aload_n C dX8_wayLong_5 rfl 0 rfl ?_
  refine r_iload_n C dX8_wayLong_6 rfl 1 rfl ?_
  refine r_iconst C dX8_wayLong_7 ic_0 ?_
  refine r_callVi [.ref (gad g 55 0), .int _] C dX8_wayLong_8 w_8_221 (ok_X8_linkOf l g _ _ _ _ h) (Nat.le_of_ble_eq_true rfl) rfl rfl ak_8 (cn_8 (by decide)) rfl rfl (Nat.le_of_ble_eq_true rfl) (fun r2 σ1 h => ?_)
  obtain ⟨h0, h⟩ := h
  refine r_iaload C dX8_wayLong_11 ak_55 (cn_55 (by decide)) al_55 h0 ?_
  refine r_aload_n C dX8_wayLong_12 rfl 0 rfl ?_
  refine gf_8_23 C dX8_wayLong_13 (cn_8 (by decide)) ?_
  refine r_aload_n C dX8_wayLong_16 rfl 0 rfl ?_
  refine r_iload_n C dX8_wayLong_17 rfl 1 rfl ?_
  refine r_iload_n C dX8_wayLong_18 rfl 2 rfl ?_
  refine r_callVi [.ref (gad g 55 0), .int _, .int _] C dX8_wayLong_19 w_8_230 (ok_X8_receiverOf l g _ _ _ _ h) (Nat.le_of_ble_eq_true rfl) rfl rfl ak_8 (cn_8 (by decide)) rfl rfl (Nat.le_of_ble_eq_true rfl) (fun r4 σ3 h => ?_)
  obtain ⟨h0, h⟩ := h
  refine r_iaload C dX8_wayLong_22 ak_55 (cn_55 (by decide)) al_55 h0 ?_
  refine r_callSi [.int _] C dX8_wayLong_23 w_8_233 (ok_X8_apart l g _ _ _ _ h) (Nat.le_of_ble_eq_true rfl) rfl rfl (Nat.le_of_ble_eq_true rfl) (fun r6 σ5 h => ?_)
  refine r_iadd C dX8_wayLong_26 ?_
  exact r_ireturn C dX8_wayLong_27 ⟨_, rfl, h⟩
def S_X8_wayOf (x1 : Int32) (x2 : Int32) (x3 : Int32) (σ : Hp) (Q : Int32 → Hp → Prop) : Prop :=
  S_X8_linkOf x1 0 σ (fun r2 σ1 => vp_in r2 6 ∧ S_X8_receiverOf x1 x2 σ1 (fun r4 σ3 => vp_in r4 6 ∧ ((¬ x3 = 0 → S_X8_wayLong x1 x2 σ3 (fun r6 σ5 => ((¬ x3 = (r6 - 1) → (((gI σ3 55 0 (ix r4)) ≤ (gI σ1 55 0 (ix r2)) → Q ((14 + (gI σ1 55 0 (ix r2))) - x3) σ5) ∧ (¬ (gI σ3 55 0 (ix r4)) ≤ (gI σ1 55 0 (ix r2)) → Q (((12 + (gI σ1 55 0 (ix r2))) + x3) - 1) σ5))) ∧ (x3 = (r6 - 1) → S_X8_receiverOf x1 x2 σ5 (fun r8 σ7 => Q (6 + r8) σ7))))) ∧ (x3 = 0 → S_X8_linkOf x1 0 σ3 (fun r10 σ9 => Q r10 σ9)))))
set_option maxHeartbeats 2000000 in
set_option maxRecDepth 20000 in
theorem ok_X8_wayOf (l : Launch) (g : Gm) (x1 : Int32) (x2 : Int32) (x3 : Int32) (σ : Hp) (Q : Int32 → Hp → Prop) (h : S_X8_wayOf x1 x2 x3 σ Q) : Ct l g yX8_wayOf cX8_wayOf 6 (some .int) 3 [.ref (gad g 8 0), .int x1, .int x2, .int x3] σ (QI Q) := by
  refine Ct.of (by decide +kernel) (Nat.le_of_ble_eq_true rfl) ?_
  intro p e R s m args below meth c C
  have C : Cx g p R s m args meth c cX8_wayOf 6 RX8 (some .int) 3 := C
  unfold S_X8_wayOf at h
  show G g p l e R s m args below meth c (QI Q) 6 0 [(0, .ref (gad g 8 0)), (1, .int x1), (2, .int x2), (3, .int x3)] [] σ
  refine r_aload_n C dX8_wayOf_0 rfl 0 rfl ?_
  refine gf_8_23 C dX8_wayOf_1 (cn_8 (by decide)) ?_
  refine r_aload_n C dX8_wayOf_4 rfl 0 rfl ?_
  refine r_iload_n C dX8_wayOf_5 rfl 1 rfl ?_
  refine r_iconst C dX8_wayOf_6 ic_0 ?_
  refine r_callVi [.ref (gad g 55 0)] C dX8_wayOf_7 w_8_221 (ok_X8_linkOf l g _ _ _ _ h) (Nat.le_of_ble_eq_true rfl) rfl rfl ak_8 (cn_8 (by decide)) rfl rfl (Nat.le_of_ble_eq_true rfl) (fun r2 σ1 h => ?_)
  obtain ⟨h0, h⟩ := h
  refine r_iaload C dX8_wayOf_10 ak_55 (cn_55 (by decide)) al_55 h0 ?_
  refine r_istore C dX8_wayOf_11 (Nat.le_of_ble_eq_true rfl) rfl ?_
  refine r_aload_n C dX8_wayOf_13 rfl 1 rfl ?_
  refine gf_8_23 C dX8_wayOf_14 (cn_8 (by decide)) ?_
  refine r_aload_n C dX8_wayOf_17 rfl 1 rfl ?_
  refine r_iload_n C dX8_wayOf_18 rfl 2 rfl ?_
  refine r_iload_n C dX8_wayOf_19 rfl 3 rfl ?_
  refine r_callVi [.ref (gad g 55 0)] C dX8_wayOf_20 w_8_230 (ok_X8_receiverOf l g _ _ _ _ h) (Nat.le_of_ble_eq_true rfl) rfl rfl ak_8 (cn_8 (by decide)) rfl rfl (Nat.le_of_ble_eq_true rfl) (fun r4 σ3 h => ?_)
  obtain ⟨h0, h⟩ := h
  refine r_iaload C dX8_wayOf_23 ak_55 (cn_55 (by decide)) al_55 h0 ?_
  refine r_istore C dX8_wayOf_24 (Nat.le_of_ble_eq_true rfl) rfl ?_
  refine r_iload_n C dX8_wayOf_26 rfl 5 rfl ?_
  refine r_if_ne (tgt := 37) C dX8_wayOf_27 rfl (fun q => ?_) (fun q => ?_)
  · have h := h.1 q
    refine r_iload_n C dX8_wayOf_37 rfl 5 rfl ?_
    refine r_aload_n C dX8_wayOf_38 rfl 2 rfl ?_
    refine r_iload_n C dX8_wayOf_39 rfl 3 rfl ?_
    refine r_iload_n C dX8_wayOf_40 rfl 4 rfl ?_
    refine r_callVi [.int _] C dX8_wayOf_41 w_8_236 (ok_X8_wayLong l g _ _ _ _ h) (Nat.le_of_ble_eq_true rfl) rfl rfl ak_8 (cn_8 (by decide)) rfl rfl (Nat.le_of_ble_eq_true rfl) (fun r6 σ5 h => ?_)
    refine r_iconst C dX8_wayOf_44 ic_1 ?_
    refine r_isub C dX8_wayOf_45 ?_
    refine r_icmp_ne (tgt := 59) C dX8_wayOf_46 rfl (fun q => ?_) (fun q => ?_)
    · have h := h.1 q
      refine r_iload C dX8_wayOf_59 1 rfl ?_
      refine r_iload C dX8_wayOf_61 0 rfl ?_
      refine r_icmp_ge (tgt := 78) C dX8_wayOf_63 rfl (fun q => ?_) (fun q => ?_)
      · have h := h.1 q
        refine r_bipush C dX8_wayOf_78 bi_14 ?_
        refine r_iload C dX8_wayOf_80 1 rfl ?_
        refine r_iadd C dX8_wayOf_82 ?_
        refine r_iload_n C dX8_wayOf_83 rfl 5 rfl ?_
        refine r_isub C dX8_wayOf_84 ?_
        exact r_ireturn C dX8_wayOf_85 ⟨_, rfl, h⟩
      · have h := h.2 q
        refine r_bipush C dX8_wayOf_66 bi_12 ?_
        refine r_iload C dX8_wayOf_68 1 rfl ?_
        refine r_iadd C dX8_wayOf_70 ?_
        refine r_iload_n C dX8_wayOf_71 rfl 5 rfl ?_
        refine r_iadd C dX8_wayOf_72 ?_
        refine r_iconst C dX8_wayOf_73 ic_1 ?_
        refine r_isub C dX8_wayOf_74 ?_
        refine r_goto (tgt := 85) C dX8_wayOf_75 rfl ?_
        exact r_ireturn C dX8_wayOf_85 ⟨_, rfl, h⟩
    · have h := h.2 q
      refine r_bipush C dX8_wayOf_49 bi_6 ?_
      refine r_aload_n C dX8_wayOf_51 rfl 2 rfl ?_
      refine r_iload_n C dX8_wayOf_52 rfl 3 rfl ?_
      refine r_iload_n C dX8_wayOf_53 rfl 4 rfl ?_
      refine r_callVi [.int _] C dX8_wayOf_54 w_8_230 (ok_X8_receiverOf l g _ _ _ _ h) (Nat.le_of_ble_eq_true rfl) rfl rfl ak_8 (cn_8 (by decide)) rfl rfl (Nat.le_of_ble_eq_true rfl) (fun r8 σ7 h => ?_)
      refine r_iadd C dX8_wayOf_57 ?_
      exact r_ireturn C dX8_wayOf_58 ⟨_, rfl, h⟩
  · have h := h.2 q
    refine r_aload_n C dX8_wayOf_30 rfl 2 rfl ?_
    refine r_iload_n C dX8_wayOf_31 rfl 3 rfl ?_
    refine r_iconst C dX8_wayOf_32 ic_0 ?_
    refine r_callVi [] C dX8_wayOf_33 w_8_221 (ok_X8_linkOf l g _ _ _ _ h) (Nat.le_of_ble_eq_true rfl) rfl rfl ak_8 (cn_8 (by decide)) rfl rfl (Nat.le_of_ble_eq_true rfl) (fun r10 σ9 h => ?_)
    exact r_ireturn C dX8_wayOf_36 ⟨_, rfl, h⟩
def L_X8_portAhead_15 (Q : Int32 → Hp → Prop) (K55 : Hp → Prop) (K38 : Int32 → Hp → Prop) (y1 : Int32) (y2 : Int32) (y3 : Int32) : Nat → Int32 → Hp → Prop
  | 0, _, _ => False
  | n + 1, y4, σ =>
  S_X8_wayLong y1 y3 σ (fun r4 σ3 => ((r4 ≤ y4 → K55 σ3) ∧ (¬ r4 ≤ y4 → S_X8_wayOf y1 y3 y4 σ3 (fun r6 σ5 => ((¬ r6 = y2 → L_X8_portAhead_15 Q K55 K38 y1 y2 y3 n (y4 + 1) σ5) ∧ (r6 = y2 → K38 y4 σ5))))))
def L_X8_portAhead_2 (Q : Int32 → Hp → Prop) (K61 : Hp → Prop) (K38 : Int32 → Int32 → Hp → Prop) (y1 : Int32) (y2 : Int32) : Nat → Int32 → Hp → Prop
  | 0, _, _ => False
  | n + 1, y3, σ =>
  S_X8_linkOf y1 3 σ (fun r2 σ1 => ((r2 ≤ y3 → K61 σ1) ∧ (¬ r2 ≤ y3 → (∃ n7, L_X8_portAhead_15 Q (fun σ8 => L_X8_portAhead_2 Q K61 K38 y1 y2 n (y3 + 1) σ8) (fun w10 σ9 => K38 y3 w10 σ9) y1 y2 y3 n7 1 σ1))))
def S_X8_portAhead (x1 : Int32) (x2 : Int32) (σ : Hp) (Q : Int32 → Hp → Prop) : Prop :=
  (∃ n11, L_X8_portAhead_2 Q (fun σ12 => Q (-1) σ12) (fun w14 w15 σ13 => S_X8_wayOf x1 w14 (w15 - 1) σ13 (fun r17 σ16 => Q r17 σ16)) x1 x2 n11 0 σ)
set_option maxHeartbeats 2000000 in
set_option maxRecDepth 20000 in
theorem ok_X8_portAhead (l : Launch) (g : Gm) (x1 : Int32) (x2 : Int32) (σ : Hp) (Q : Int32 → Hp → Prop) (h : S_X8_portAhead x1 x2 σ Q) : Ct l g yX8_portAhead cX8_portAhead 5 (some .int) 4 [.ref (gad g 8 0), .int x1, .int x2] σ (QI Q) := by
  refine Ct.of (by decide +kernel) (Nat.le_of_ble_eq_true rfl) ?_
  intro p e R s m args below meth c C
  have C : Cx g p R s m args meth c cX8_portAhead 5 RX8 (some .int) 4 := C
  have l15 : ∀ (K55 : Hp → Prop) (K38 : Int32 → Hp → Prop) (y1 : Int32) (y2 : Int32) (y3 : Int32) (hK55 : ∀ (σ : Hp), K55 σ → G g p l e R s m args below meth c (QI Q) 5 55 [(0, .ref (gad g 8 0)), (1, .int y1), (2, .int y2), (3, .int y3)] [] σ) (hK38 : ∀ (v4 : Int32) (σ : Hp), K38 v4 σ → G g p l e R s m args below meth c (QI Q) 5 38 [(0, .ref (gad g 8 0)), (1, .int y1), (3, .int y3), (4, .int v4)] [] σ) (n : Nat) (y4 : Int32) (σ : Hp), L_X8_portAhead_15 Q K55 K38 y1 y2 y3 n y4 σ → G g p l e R s m args below meth c (QI Q) 5 15 [(0, .ref (gad g 8 0)), (1, .int y1), (2, .int y2), (3, .int y3), (4, .int y4)] [] σ := by
    intro K55 K38 y1 y2 y3 hK55 hK38 n
    induction n with
    | zero => intro y4 σ h; exact False.elim h
    | succ n ih =>
      intro y4 σ h
      unfold L_X8_portAhead_15 at h
      refine r_iload C dX8_portAhead_15 4 rfl ?_
      refine r_aload_n C dX8_portAhead_17 rfl 0 rfl ?_
      refine r_iload_n C dX8_portAhead_18 rfl 1 rfl ?_
      refine r_iload_n C dX8_portAhead_19 rfl 3 rfl ?_
      refine r_callVi [.int _] C dX8_portAhead_20 w_8_236 (ok_X8_wayLong l g _ _ _ _ h) (Nat.le_of_ble_eq_true rfl) rfl rfl ak_8 (cn_8 (by decide)) rfl rfl (Nat.le_of_ble_eq_true rfl) (fun r4 σ3 h => ?_)
      refine r_icmp_ge (tgt := 55) C dX8_portAhead_23 rfl (fun q => ?_) (fun q => ?_)
      · have h := h.1 q
        refine r_sub [0, 1, 2, 3] rfl ?_
        exact hK55 _ h
      · have h := h.2 q
        refine r_aload_n C dX8_portAhead_26 rfl 0 rfl ?_
        refine r_iload_n C dX8_portAhead_27 rfl 1 rfl ?_
        refine r_iload_n C dX8_portAhead_28 rfl 3 rfl ?_
        refine r_iload C dX8_portAhead_29 4 rfl ?_
        refine r_callVi [] C dX8_portAhead_31 w_8_239 (ok_X8_wayOf l g _ _ _ _ _ h) (Nat.le_of_ble_eq_true rfl) rfl rfl ak_8 (cn_8 (by decide)) rfl rfl (Nat.le_of_ble_eq_true rfl) (fun r6 σ5 h => ?_)
        refine r_iload_n C dX8_portAhead_34 rfl 2 rfl ?_
        refine r_icmp_ne (tgt := 49) C dX8_portAhead_35 rfl (fun q => ?_) (fun q => ?_)
        · have h := h.1 q
          refine r_iinc (v := y4 + 1) C dX8_portAhead_49 4 rfl rfl (Nat.le_of_ble_eq_true rfl) rfl ?_
          refine r_goto (tgt := 15) C dX8_portAhead_52 rfl ?_
          refine r_sub [1, 2, 3, 4, 0] rfl ?_
          exact ih _ _ h
        · have h := h.2 q
          refine r_sub [0, 1, 3, 4] rfl ?_
          exact hK38 _ _ h
  have l2 : ∀ (K61 : Hp → Prop) (K38 : Int32 → Int32 → Hp → Prop) (y1 : Int32) (y2 : Int32) (hK61 : ∀ (σ : Hp), K61 σ → G g p l e R s m args below meth c (QI Q) 5 61 [] [] σ) (hK38 : ∀ (v3 : Int32) (v4 : Int32) (σ : Hp), K38 v3 v4 σ → G g p l e R s m args below meth c (QI Q) 5 38 [(0, .ref (gad g 8 0)), (1, .int y1), (3, .int v3), (4, .int v4)] [] σ) (n : Nat) (y3 : Int32) (σ : Hp), L_X8_portAhead_2 Q K61 K38 y1 y2 n y3 σ → G g p l e R s m args below meth c (QI Q) 5 2 [(0, .ref (gad g 8 0)), (1, .int y1), (2, .int y2), (3, .int y3)] [] σ := by
    intro K61 K38 y1 y2 hK61 hK38 n
    induction n with
    | zero => intro y3 σ h; exact False.elim h
    | succ n ih =>
      intro y3 σ h
      unfold L_X8_portAhead_2 at h
      refine r_iload_n C dX8_portAhead_2 rfl 3 rfl ?_
      refine r_aload_n C dX8_portAhead_3 rfl 0 rfl ?_
      refine r_iload_n C dX8_portAhead_4 rfl 1 rfl ?_
      refine r_iconst C dX8_portAhead_5 ic_3 ?_
      refine r_callVi [.int _] C dX8_portAhead_6 w_8_221 (ok_X8_linkOf l g _ _ _ _ h) (Nat.le_of_ble_eq_true rfl) rfl rfl ak_8 (cn_8 (by decide)) rfl rfl (Nat.le_of_ble_eq_true rfl) (fun r2 σ1 h => ?_)
      refine r_icmp_ge (tgt := 61) C dX8_portAhead_9 rfl (fun q => ?_) (fun q => ?_)
      · have h := h.1 q
        refine r_sub [] rfl ?_
        exact hK61 _ h
      · have h := h.2 q
        refine r_iconst C dX8_portAhead_12 ic_1 ?_
        refine r_istore C dX8_portAhead_13 (Nat.le_of_ble_eq_true rfl) rfl ?_
        refine r_sub [1, 2, 3, 4, 0] rfl ?_
        obtain ⟨n7, h⟩ := h
        refine l15 _ _ _ _ _ (fun σ8 h => ?_) (fun w10 σ9 h => ?_) n7 _ _ h
        · refine r_iinc (v := y3 + 1) C dX8_portAhead_55 3 rfl rfl (Nat.le_of_ble_eq_true rfl) rfl ?_
          refine r_goto (tgt := 2) C dX8_portAhead_58 rfl ?_
          refine r_sub [1, 2, 3, 0] rfl ?_
          exact ih _ _ h
        · exact hK38 _ _ _ h
  unfold S_X8_portAhead at h
  show G g p l e R s m args below meth c (QI Q) 5 0 [(0, .ref (gad g 8 0)), (1, .int x1), (2, .int x2)] [] σ
  refine r_iconst C dX8_portAhead_0 ic_0 ?_
  refine r_istore_n C dX8_portAhead_1 rfl (Nat.le_of_ble_eq_true rfl) rfl ?_
  refine r_sub [1, 2, 3, 0] rfl ?_
  obtain ⟨n11, h⟩ := h
  refine l2 _ _ _ _ (fun σ12 h => ?_) (fun w14 w15 σ13 h => ?_) n11 _ _ h
  · refine r_iconst C dX8_portAhead_61 ic_m1 ?_
    exact r_ireturn C dX8_portAhead_62 ⟨_, rfl, h⟩
  · refine r_aload_n C dX8_portAhead_38 rfl 0 rfl ?_
    refine r_iload_n C dX8_portAhead_39 rfl 1 rfl ?_
    refine r_iload_n C dX8_portAhead_40 rfl 2 rfl ?_
    refine r_iload C dX8_portAhead_41 3 rfl ?_
    refine r_iconst C dX8_portAhead_43 ic_1 ?_
    refine r_isub C dX8_portAhead_44 ?_
    refine r_callVi [] C dX8_portAhead_45 w_8_239 (ok_X8_wayOf l g _ _ _ _ _ h) (Nat.le_of_ble_eq_true rfl) rfl rfl ak_8 (cn_8 (by decide)) rfl rfl (Nat.le_of_ble_eq_true rfl) (fun r17 σ16 h => ?_)
    exact r_ireturn C dX8_portAhead_48 ⟨_, rfl, h⟩
def S_X8_rateOf (x1 : Int32) (σ : Hp) (Q : Int64 → Hp → Prop) : Prop :=
  S_X8_linkOf x1 1 σ (fun r2 σ1 => ¬ r2.toInt64 = 0 ∧ S_X8_linkOf x1 2 σ1 (fun r4 σ3 => Q ((16777216 / r2.toInt64) * r4.toInt64) σ3))
set_option maxHeartbeats 2000000 in
set_option maxRecDepth 20000 in
theorem ok_X8_rateOf (l : Launch) (g : Gm) (x1 : Int32) (σ : Hp) (Q : Int64 → Hp → Prop) (h : S_X8_rateOf x1 σ Q) : Ct l g yX8_rateOf cX8_rateOf 2 (some .long) 1 [.ref (gad g 8 0), .int x1] σ (QL Q) := by
  refine Ct.of (by decide +kernel) (Nat.le_of_ble_eq_true rfl) ?_
  intro p e R s m args below meth c C
  have C : Cx g p R s m args meth c cX8_rateOf 2 RX8 (some .long) 1 := C
  unfold S_X8_rateOf at h
  show G g p l e R s m args below meth c (QL Q) 2 0 [(0, .ref (gad g 8 0)), (1, .int x1)] [] σ
  refine r_ldc2 (v := 16777216) C dX8_rateOf_0 u7_44 ?_
  refine r_aload_n C dX8_rateOf_3 rfl 0 rfl ?_
  refine r_iload_n C dX8_rateOf_4 rfl 1 rfl ?_
  refine r_iconst C dX8_rateOf_5 ic_1 ?_
  refine r_callVi [.long _] C dX8_rateOf_6 w_8_221 (ok_X8_linkOf l g _ _ _ _ h) (Nat.le_of_ble_eq_true rfl) rfl rfl ak_8 (cn_8 (by decide)) rfl rfl (Nat.le_of_ble_eq_true rfl) (fun r2 σ1 h => ?_)
  refine r_i2l C dX8_rateOf_9 ?_
  obtain ⟨h0, h⟩ := h
  refine r_ldiv C dX8_rateOf_10 h0 ?_
  refine r_aload_n C dX8_rateOf_11 rfl 0 rfl ?_
  refine r_iload_n C dX8_rateOf_12 rfl 1 rfl ?_
  refine r_iconst C dX8_rateOf_13 ic_2 ?_
  refine r_callVi [.long _] C dX8_rateOf_14 w_8_221 (ok_X8_linkOf l g _ _ _ _ h) (Nat.le_of_ble_eq_true rfl) rfl rfl ak_8 (cn_8 (by decide)) rfl rfl (Nat.le_of_ble_eq_true rfl) (fun r4 σ3 h => ?_)
  refine r_i2l C dX8_rateOf_17 ?_
  refine r_lmul C dX8_rateOf_18 ?_
  exact r_lreturn C dX8_rateOf_19 ⟨_, rfl, h⟩
def S_X8_burstOf (B : Int32 → Int32 → Hp → (Int64 → Hp → Prop) → Prop) (Dl : Int32 → Hp → (Int64 → Hp → Prop) → Prop) (x1 : Int32) (x2 : Int32) (σ : Hp) (Q : Int64 → Hp → Prop) : Prop :=
  S_X8_portAhead x1 x2 σ (fun r2 σ1 => (((6 : Int32) ≤ r2 → B x1 r2 σ1 (fun r4 σ3 => Dl r2 σ3 (fun r6 σ5 => S_X8_linkOf x1 1 σ5 (fun r8 σ7 => ¬ r8.toInt64 = 0 ∧ S_X8_linkOf x1 2 σ7 (fun r10 σ9 => Q (r4 + ((r6 / r8.toInt64) * r10.toInt64)) σ9))))) ∧ (¬ (6 : Int32) ≤ r2 → S_X8_linkOf x1 2 σ1 (fun r12 σ11 => S_X8_rateOf x1 σ11 (fun r14 σ13 => vp_in 2 7 ∧ Q ((16777216 * r12.toInt64) + (r14 * ((gI σ13 53 0 (ix 2)).toInt64))) σ13)))))
set_option maxHeartbeats 2000000 in
set_option maxRecDepth 20000 in
theorem ok_X8_burstOf (l : Launch) (g : Gm) (B : Int32 → Int32 → Hp → (Int64 → Hp → Prop) → Prop) (Dl : Int32 → Hp → (Int64 → Hp → Prop) → Prop) (hb : Nat) (hB : ∀ (x1 x2 : Int32) (σ : Hp) (Q : Int64 → Hp → Prop), B x1 x2 σ Q → Ct l g yX8_burstOf cX8_burstOf 4 (some .long) hb [.ref (gad g 8 0), .int x1, .int x2] σ (QL Q)) (hDl : ∀ (x1 : Int32) (σ : Hp) (Q : Int64 → Hp → Prop), Dl x1 σ Q → Ct l g yX8_delayOf cX8_delayOf 5 (some .long) hb [.ref (gad g 8 0), .int x1] σ (QL Q)) (x1 : Int32) (x2 : Int32) (σ : Hp) (Q : Int64 → Hp → Prop) (h : S_X8_burstOf B Dl x1 x2 σ Q) : Ct l g yX8_burstOf cX8_burstOf 4 (some .long) (hb + 8) [.ref (gad g 8 0), .int x1, .int x2] σ (QL Q) := by
  refine Ct.of (by decide +kernel) (Nat.le_of_ble_eq_true rfl) ?_
  intro p e R s m args below meth c C
  have C : Cx g p R s m args meth c cX8_burstOf 4 RX8 (some .long) (hb + 8) := C
  unfold S_X8_burstOf at h
  show G g p l e R s m args below meth c (QL Q) 4 0 [(0, .ref (gad g 8 0)), (1, .int x1), (2, .int x2)] [] σ
  refine r_aload_n C dX8_burstOf_0 rfl 0 rfl ?_
  refine r_iload_n C dX8_burstOf_1 rfl 1 rfl ?_
  refine r_iload_n C dX8_burstOf_2 rfl 2 rfl ?_
  refine r_callVi [] C dX8_burstOf_3 w_8_325 (ok_X8_portAhead l g _ _ _ _ h) (by omega) rfl rfl ak_8 (cn_8 (by decide)) rfl rfl (Nat.le_of_ble_eq_true rfl) (fun r2 σ1 h => ?_)
  refine r_istore_n C dX8_burstOf_6 rfl (Nat.le_of_ble_eq_true rfl) rfl ?_
  refine r_iload_n C dX8_burstOf_7 rfl 0 rfl ?_
  refine r_bipush C dX8_burstOf_8 bi_6 ?_
  refine r_icmp_ge (tgt := 39) C dX8_burstOf_10 rfl (fun q => ?_) (fun q => ?_)
  · have h := h.1 q
    refine r_aload_n C dX8_burstOf_39 rfl 1 rfl ?_
    refine r_iload_n C dX8_burstOf_40 rfl 2 rfl ?_
    refine r_iload_n C dX8_burstOf_41 rfl 0 rfl ?_
    refine r_callVl [] C dX8_burstOf_42 w_8_328 (hB _ _ _ _ h) (by omega) rfl rfl ak_8 (cn_8 (by decide)) rfl rfl (Nat.le_of_ble_eq_true rfl) (fun r4 σ3 h => ?_)
    refine r_aload_n C dX8_burstOf_45 rfl 1 rfl ?_
    refine r_iload_n C dX8_burstOf_46 rfl 0 rfl ?_
    refine r_callVl [.long _] C dX8_burstOf_47 w_8_332 (hDl _ _ _ h) (by omega) rfl rfl ak_8 (cn_8 (by decide)) rfl rfl (Nat.le_of_ble_eq_true rfl) (fun r6 σ5 h => ?_)
    refine r_aload_n C dX8_burstOf_50 rfl 1 rfl ?_
    refine r_iload_n C dX8_burstOf_51 rfl 2 rfl ?_
    refine r_iconst C dX8_burstOf_52 ic_1 ?_
    refine r_callVi [.long _, .long _] C dX8_burstOf_53 w_8_221 (ok_X8_linkOf l g _ _ _ _ h) (by omega) rfl rfl ak_8 (cn_8 (by decide)) rfl rfl (Nat.le_of_ble_eq_true rfl) (fun r8 σ7 h => ?_)
    refine r_i2l C dX8_burstOf_56 ?_
    obtain ⟨h0, h⟩ := h
    refine r_ldiv C dX8_burstOf_57 h0 ?_
    refine r_aload_n C dX8_burstOf_58 rfl 1 rfl ?_
    refine r_iload_n C dX8_burstOf_59 rfl 2 rfl ?_
    refine r_iconst C dX8_burstOf_60 ic_2 ?_
    refine r_callVi [.long _, .long _] C dX8_burstOf_61 w_8_221 (ok_X8_linkOf l g _ _ _ _ h) (by omega) rfl rfl ak_8 (cn_8 (by decide)) rfl rfl (Nat.le_of_ble_eq_true rfl) (fun r10 σ9 h => ?_)
    refine r_i2l C dX8_burstOf_64 ?_
    refine r_lmul C dX8_burstOf_65 ?_
    refine r_ladd C dX8_burstOf_66 ?_
    exact r_lreturn C dX8_burstOf_67 ⟨_, rfl, h⟩
  · have h := h.2 q
    refine r_ldc2 (v := 16777216) C dX8_burstOf_13 u7_44 ?_
    refine r_aload_n C dX8_burstOf_16 rfl 1 rfl ?_
    refine r_iload_n C dX8_burstOf_17 rfl 2 rfl ?_
    refine r_iconst C dX8_burstOf_18 ic_2 ?_
    refine r_callVi [.long _] C dX8_burstOf_19 w_8_221 (ok_X8_linkOf l g _ _ _ _ h) (by omega) rfl rfl ak_8 (cn_8 (by decide)) rfl rfl (Nat.le_of_ble_eq_true rfl) (fun r12 σ11 h => ?_)
    refine r_i2l C dX8_burstOf_22 ?_
    refine r_lmul C dX8_burstOf_23 ?_
    refine r_aload_n C dX8_burstOf_24 rfl 1 rfl ?_
    refine r_iload_n C dX8_burstOf_25 rfl 2 rfl ?_
    refine r_callVl [.long _] C dX8_burstOf_26 w_8_318 (ok_X8_rateOf l g _ _ _ h) (by omega) rfl rfl ak_8 (cn_8 (by decide)) rfl rfl (Nat.le_of_ble_eq_true rfl) (fun r14 σ13 h => ?_)
    refine r_aload_n C dX8_burstOf_29 rfl 1 rfl ?_
    refine gf_8_17 C dX8_burstOf_30 (cn_8 (by decide)) ?_
    refine r_iconst C dX8_burstOf_33 ic_2 ?_
    obtain ⟨h0, h⟩ := h
    refine r_iaload C dX8_burstOf_34 ak_53 (cn_53 (by decide)) al_53 h0 ?_
    refine r_i2l C dX8_burstOf_35 ?_
    refine r_lmul C dX8_burstOf_36 ?_
    refine r_ladd C dX8_burstOf_37 ?_
    exact r_lreturn C dX8_burstOf_38 ⟨_, rfl, h⟩
def L_X8_goesThrough_15 (Q : Int32 → Hp → Prop) (K46 : Hp → Prop) (K38 : Hp → Prop) (y1 : Int32) (y2 : Int32) (y3 : Int32) : Nat → Int32 → Hp → Prop
  | 0, _, _ => False
  | n + 1, y4, σ =>
  S_X8_wayLong y1 y3 σ (fun r4 σ3 => ((r4 ≤ y4 → K46 σ3) ∧ (¬ r4 ≤ y4 → S_X8_wayOf y1 y3 y4 σ3 (fun r6 σ5 => ((¬ r6 = y2 → L_X8_goesThrough_15 Q K46 K38 y1 y2 y3 n (y4 + 1) σ5) ∧ (r6 = y2 → K38 σ5))))))
def L_X8_goesThrough_2 (Q : Int32 → Hp → Prop) (K52 : Hp → Prop) (K38 : Hp → Prop) (y1 : Int32) (y2 : Int32) : Nat → Int32 → Hp → Prop
  | 0, _, _ => False
  | n + 1, y3, σ =>
  S_X8_linkOf y1 3 σ (fun r2 σ1 => ((r2 ≤ y3 → K52 σ1) ∧ (¬ r2 ≤ y3 → (∃ n7, L_X8_goesThrough_15 Q (fun σ8 => L_X8_goesThrough_2 Q K52 K38 y1 y2 n (y3 + 1) σ8) (fun σ9 => K38 σ9) y1 y2 y3 n7 0 σ1))))
def S_X8_goesThrough (x1 : Int32) (x2 : Int32) (σ : Hp) (Q : Int32 → Hp → Prop) : Prop :=
  (∃ n10, L_X8_goesThrough_2 Q (fun σ11 => Q 0 σ11) (fun σ12 => Q 1 σ12) x1 x2 n10 0 σ)
set_option maxHeartbeats 2000000 in
set_option maxRecDepth 20000 in
theorem ok_X8_goesThrough (l : Launch) (g : Gm) (x1 : Int32) (x2 : Int32) (σ : Hp) (Q : Int32 → Hp → Prop) (h : S_X8_goesThrough x1 x2 σ Q) : Ct l g yX8_goesThrough cX8_goesThrough 5 (some .boolean) 4 [.ref (gad g 8 0), .int x1, .int x2] σ (QI Q) := by
  refine Ct.of (by decide +kernel) (Nat.le_of_ble_eq_true rfl) ?_
  intro p e R s m args below meth c C
  have C : Cx g p R s m args meth c cX8_goesThrough 5 RX8 (some .boolean) 4 := C
  have l15 : ∀ (K46 : Hp → Prop) (K38 : Hp → Prop) (y1 : Int32) (y2 : Int32) (y3 : Int32) (hK46 : ∀ (σ : Hp), K46 σ → G g p l e R s m args below meth c (QI Q) 5 46 [(0, .ref (gad g 8 0)), (1, .int y1), (2, .int y2), (3, .int y3)] [] σ) (hK38 : ∀ (σ : Hp), K38 σ → G g p l e R s m args below meth c (QI Q) 5 38 [] [] σ) (n : Nat) (y4 : Int32) (σ : Hp), L_X8_goesThrough_15 Q K46 K38 y1 y2 y3 n y4 σ → G g p l e R s m args below meth c (QI Q) 5 15 [(0, .ref (gad g 8 0)), (1, .int y1), (2, .int y2), (3, .int y3), (4, .int y4)] [] σ := by
    intro K46 K38 y1 y2 y3 hK46 hK38 n
    induction n with
    | zero => intro y4 σ h; exact False.elim h
    | succ n ih =>
      intro y4 σ h
      unfold L_X8_goesThrough_15 at h
      refine r_iload C dX8_goesThrough_15 4 rfl ?_
      refine r_aload_n C dX8_goesThrough_17 rfl 0 rfl ?_
      refine r_iload_n C dX8_goesThrough_18 rfl 1 rfl ?_
      refine r_iload_n C dX8_goesThrough_19 rfl 3 rfl ?_
      refine r_callVi [.int _] C dX8_goesThrough_20 w_8_236 (ok_X8_wayLong l g _ _ _ _ h) (Nat.le_of_ble_eq_true rfl) rfl rfl ak_8 (cn_8 (by decide)) rfl rfl (Nat.le_of_ble_eq_true rfl) (fun r4 σ3 h => ?_)
      refine r_icmp_ge (tgt := 46) C dX8_goesThrough_23 rfl (fun q => ?_) (fun q => ?_)
      · have h := h.1 q
        refine r_sub [0, 1, 2, 3] rfl ?_
        exact hK46 _ h
      · have h := h.2 q
        refine r_aload_n C dX8_goesThrough_26 rfl 0 rfl ?_
        refine r_iload_n C dX8_goesThrough_27 rfl 1 rfl ?_
        refine r_iload_n C dX8_goesThrough_28 rfl 3 rfl ?_
        refine r_iload C dX8_goesThrough_29 4 rfl ?_
        refine r_callVi [] C dX8_goesThrough_31 w_8_239 (ok_X8_wayOf l g _ _ _ _ _ h) (Nat.le_of_ble_eq_true rfl) rfl rfl ak_8 (cn_8 (by decide)) rfl rfl (Nat.le_of_ble_eq_true rfl) (fun r6 σ5 h => ?_)
        refine r_iload_n C dX8_goesThrough_34 rfl 2 rfl ?_
        refine r_icmp_ne (tgt := 40) C dX8_goesThrough_35 rfl (fun q => ?_) (fun q => ?_)
        · have h := h.1 q
          refine r_iinc (v := y4 + 1) C dX8_goesThrough_40 4 rfl rfl (Nat.le_of_ble_eq_true rfl) rfl ?_
          refine r_goto (tgt := 15) C dX8_goesThrough_43 rfl ?_
          refine r_sub [1, 2, 3, 4, 0] rfl ?_
          exact ih _ _ h
        · have h := h.2 q
          refine r_sub [] rfl ?_
          exact hK38 _ h
  have l2 : ∀ (K52 : Hp → Prop) (K38 : Hp → Prop) (y1 : Int32) (y2 : Int32) (hK52 : ∀ (σ : Hp), K52 σ → G g p l e R s m args below meth c (QI Q) 5 52 [] [] σ) (hK38 : ∀ (σ : Hp), K38 σ → G g p l e R s m args below meth c (QI Q) 5 38 [] [] σ) (n : Nat) (y3 : Int32) (σ : Hp), L_X8_goesThrough_2 Q K52 K38 y1 y2 n y3 σ → G g p l e R s m args below meth c (QI Q) 5 2 [(0, .ref (gad g 8 0)), (1, .int y1), (2, .int y2), (3, .int y3)] [] σ := by
    intro K52 K38 y1 y2 hK52 hK38 n
    induction n with
    | zero => intro y3 σ h; exact False.elim h
    | succ n ih =>
      intro y3 σ h
      unfold L_X8_goesThrough_2 at h
      refine r_iload_n C dX8_goesThrough_2 rfl 3 rfl ?_
      refine r_aload_n C dX8_goesThrough_3 rfl 0 rfl ?_
      refine r_iload_n C dX8_goesThrough_4 rfl 1 rfl ?_
      refine r_iconst C dX8_goesThrough_5 ic_3 ?_
      refine r_callVi [.int _] C dX8_goesThrough_6 w_8_221 (ok_X8_linkOf l g _ _ _ _ h) (Nat.le_of_ble_eq_true rfl) rfl rfl ak_8 (cn_8 (by decide)) rfl rfl (Nat.le_of_ble_eq_true rfl) (fun r2 σ1 h => ?_)
      refine r_icmp_ge (tgt := 52) C dX8_goesThrough_9 rfl (fun q => ?_) (fun q => ?_)
      · have h := h.1 q
        refine r_sub [] rfl ?_
        exact hK52 _ h
      · have h := h.2 q
        refine r_iconst C dX8_goesThrough_12 ic_0 ?_
        refine r_istore C dX8_goesThrough_13 (Nat.le_of_ble_eq_true rfl) rfl ?_
        refine r_sub [1, 2, 3, 4, 0] rfl ?_
        obtain ⟨n7, h⟩ := h
        refine l15 _ _ _ _ _ (fun σ8 h => ?_) (fun σ9 h => ?_) n7 _ _ h
        · refine r_iinc (v := y3 + 1) C dX8_goesThrough_46 3 rfl rfl (Nat.le_of_ble_eq_true rfl) rfl ?_
          refine r_goto (tgt := 2) C dX8_goesThrough_49 rfl ?_
          refine r_sub [1, 2, 3, 0] rfl ?_
          exact ih _ _ h
        · exact hK38 _ h
  unfold S_X8_goesThrough at h
  show G g p l e R s m args below meth c (QI Q) 5 0 [(0, .ref (gad g 8 0)), (1, .int x1), (2, .int x2)] [] σ
  refine r_iconst C dX8_goesThrough_0 ic_0 ?_
  refine r_istore_n C dX8_goesThrough_1 rfl (Nat.le_of_ble_eq_true rfl) rfl ?_
  refine r_sub [1, 2, 3, 0] rfl ?_
  obtain ⟨n10, h⟩ := h
  refine l2 _ _ _ _ (fun σ11 h => ?_) (fun σ12 h => ?_) n10 _ _ h
  · refine r_iconst C dX8_goesThrough_52 ic_0 ?_
    exact r_zreturn C dX8_goesThrough_53 zb0.1 ⟨_, rfl, h⟩
  · refine r_iconst C dX8_goesThrough_38 ic_1 ?_
    exact r_zreturn C dX8_goesThrough_39 zb1.1 ⟨_, rfl, h⟩
def J_X8_delayOf_58 (Q : Int64 → Hp → Prop) (kb : Int64 → Int32 → Hp → Prop) (K64 : Int64 → Hp → Prop) (B : Int32 → Int32 → Hp → (Int64 → Hp → Prop) → Prop) (Dl : Int32 → Hp → (Int64 → Hp → Prop) → Prop) (y1 : Int32) (y2 : Int64) (y4 : Int32) (σ : Hp) : Prop :=
  kb y2 (y4 + 1) σ
def J_X8_delayOf_56 (Q : Int64 → Hp → Prop) (kb : Int64 → Int32 → Hp → Prop) (K64 : Int64 → Hp → Prop) (B : Int32 → Int32 → Hp → (Int64 → Hp → Prop) → Prop) (Dl : Int32 → Hp → (Int64 → Hp → Prop) → Prop) (y1 : Int32) (y4 : Int32) (z0 : Int64) (z1 : Int64) (σ : Hp) : Prop :=
  J_X8_delayOf_58 Q kb K64 B Dl y1 (z1 + z0) y4 σ
def L_X8_delayOf_5 (Q : Int64 → Hp → Prop) (K64 : Int64 → Hp → Prop) (B : Int32 → Int32 → Hp → (Int64 → Hp → Prop) → Prop) (Dl : Int32 → Hp → (Int64 → Hp → Prop) → Prop) (y1 : Int32) : Nat → Int64 → Int32 → Hp → Prop
  | 0, _, _, _ => False
  | n + 1, y2, y4, σ =>
  vp_in 6 7 ∧ (((gI σ 53 0 (ix 6)) ≤ y4 → K64 y2 σ) ∧ (¬ (gI σ 53 0 (ix 6)) ≤ y4 → S_X8_goesThrough y4 y1 σ (fun r2 σ1 => ((r2 = 0 → J_X8_delayOf_58 Q (L_X8_delayOf_5 Q K64 B Dl y1 n) K64 B Dl y1 y2 y4 σ1) ∧ (¬ r2 = 0 → (((6 : Int32) ≤ y1 → B y4 y1 σ1 (fun r4 σ3 => J_X8_delayOf_56 Q (L_X8_delayOf_5 Q K64 B Dl y1 n) K64 B Dl y1 y4 r4 y2 σ3)) ∧ (¬ (6 : Int32) ≤ y1 → S_X8_linkOf y4 2 σ1 (fun r6 σ5 => J_X8_delayOf_56 Q (L_X8_delayOf_5 Q K64 B Dl y1 n) K64 B Dl y1 y4 (16777216 * r6.toInt64) y2 σ5))))))))
def S_X8_delayOf (B : Int32 → Int32 → Hp → (Int64 → Hp → Prop) → Prop) (Dl : Int32 → Hp → (Int64 → Hp → Prop) → Prop) (x1 : Int32) (σ : Hp) (Q : Int64 → Hp → Prop) : Prop :=
  (∃ n7, L_X8_delayOf_5 Q (fun w9 σ8 => Q w9 σ8) B Dl x1 n7 0 0 σ)
set_option maxHeartbeats 2000000 in
set_option maxRecDepth 20000 in
theorem ok_X8_delayOf (l : Launch) (g : Gm) (B : Int32 → Int32 → Hp → (Int64 → Hp → Prop) → Prop) (Dl : Int32 → Hp → (Int64 → Hp → Prop) → Prop) (hb : Nat) (hB : ∀ (x1 x2 : Int32) (σ : Hp) (Q : Int64 → Hp → Prop), B x1 x2 σ Q → Ct l g yX8_burstOf cX8_burstOf 4 (some .long) hb [.ref (gad g 8 0), .int x1, .int x2] σ (QL Q)) (hDl : ∀ (x1 : Int32) (σ : Hp) (Q : Int64 → Hp → Prop), Dl x1 σ Q → Ct l g yX8_delayOf cX8_delayOf 5 (some .long) hb [.ref (gad g 8 0), .int x1] σ (QL Q)) (x1 : Int32) (σ : Hp) (Q : Int64 → Hp → Prop) (h : S_X8_delayOf B Dl x1 σ Q) : Ct l g yX8_delayOf cX8_delayOf 5 (some .long) (hb + 8) [.ref (gad g 8 0), .int x1] σ (QL Q) := by
  refine Ct.of (by decide +kernel) (Nat.le_of_ble_eq_true rfl) ?_
  intro p e R s m args below meth c C
  have C : Cx g p R s m args meth c cX8_delayOf 5 RX8 (some .long) (hb + 8) := C
  have j58 : ∀ (kb : Int64 → Int32 → Hp → Prop) (K64 : Int64 → Hp → Prop) (y1 : Int32) (y2 : Int64) (y4 : Int32) (hkb : ∀ (v2 : Int64) (v4 : Int32) (σ : Hp), kb v2 v4 σ → G g p l e R s m args below meth c (QL Q) 5 5 [(0, .ref (gad g 8 0)), (1, .int y1), (2, .long v2), (4, .int v4)] [] σ) (hK64 : ∀ (v2 : Int64) (σ : Hp), K64 v2 σ → G g p l e R s m args below meth c (QL Q) 5 64 [(2, .long v2)] [] σ) (σ : Hp), J_X8_delayOf_58 Q kb K64 B Dl y1 y2 y4 σ → G g p l e R s m args below meth c (QL Q) 5 58 [(0, .ref (gad g 8 0)), (1, .int y1), (2, .long y2), (4, .int y4)] [] σ := by
    intro kb K64 y1 y2 y4 hkb hK64 σ h
    unfold J_X8_delayOf_58 at h
    refine r_iinc (v := y4 + 1) C dX8_delayOf_58 3 rfl rfl (Nat.le_of_ble_eq_true rfl) rfl ?_
    refine r_goto (tgt := 5) C dX8_delayOf_61 rfl ?_
    refine r_sub [1, 2, 3, 0] rfl ?_
    exact hkb _ _ _ h
  have j56 : ∀ (kb : Int64 → Int32 → Hp → Prop) (K64 : Int64 → Hp → Prop) (y1 : Int32) (y4 : Int32) (z0 : Int64) (z1 : Int64) (hkb : ∀ (v2 : Int64) (v4 : Int32) (σ : Hp), kb v2 v4 σ → G g p l e R s m args below meth c (QL Q) 5 5 [(0, .ref (gad g 8 0)), (1, .int y1), (2, .long v2), (4, .int v4)] [] σ) (hK64 : ∀ (v2 : Int64) (σ : Hp), K64 v2 σ → G g p l e R s m args below meth c (QL Q) 5 64 [(2, .long v2)] [] σ) (σ : Hp), J_X8_delayOf_56 Q kb K64 B Dl y1 y4 z0 z1 σ → G g p l e R s m args below meth c (QL Q) 5 56 [(0, .ref (gad g 8 0)), (1, .int y1), (4, .int y4)] [.long z0, .long z1] σ := by
    intro kb K64 y1 y4 z0 z1 hkb hK64 σ h
    unfold J_X8_delayOf_56 at h
    refine r_ladd C dX8_delayOf_56 ?_
    refine r_lstore_n C dX8_delayOf_57 rfl (Nat.le_of_ble_eq_true rfl) rfl ?_
    refine r_sub [1, 2, 0, 3] rfl ?_
    exact j58 _ _ _ _ _ hkb hK64 _ h
  have l5 : ∀ (K64 : Int64 → Hp → Prop) (y1 : Int32) (hK64 : ∀ (v2 : Int64) (σ : Hp), K64 v2 σ → G g p l e R s m args below meth c (QL Q) 5 64 [(2, .long v2)] [] σ) (n : Nat) (y2 : Int64) (y4 : Int32) (σ : Hp), L_X8_delayOf_5 Q K64 B Dl y1 n y2 y4 σ → G g p l e R s m args below meth c (QL Q) 5 5 [(0, .ref (gad g 8 0)), (1, .int y1), (2, .long y2), (4, .int y4)] [] σ := by
    intro K64 y1 hK64 n
    induction n with
    | zero => intro y2 y4 σ h; exact False.elim h
    | succ n ih =>
      intro y2 y4 σ h
      unfold L_X8_delayOf_5 at h
      refine r_iload C dX8_delayOf_5 3 rfl ?_
      refine r_aload_n C dX8_delayOf_7 rfl 0 rfl ?_
      refine gf_8_17 C dX8_delayOf_8 (cn_8 (by decide)) ?_
      refine r_bipush C dX8_delayOf_11 bi_6 ?_
      obtain ⟨h0, h⟩ := h
      refine r_iaload C dX8_delayOf_13 ak_53 (cn_53 (by decide)) al_53 h0 ?_
      refine r_icmp_ge (tgt := 64) C dX8_delayOf_14 rfl (fun q => ?_) (fun q => ?_)
      · have h := h.1 q
        refine r_sub [2] rfl ?_
        exact hK64 _ _ h
      · have h := h.2 q
        refine r_aload_n C dX8_delayOf_17 rfl 0 rfl ?_
        refine r_iload C dX8_delayOf_18 3 rfl ?_
        refine r_iload_n C dX8_delayOf_20 rfl 1 rfl ?_
        refine r_callVi [] C dX8_delayOf_21 w_8_315 (ok_X8_goesThrough l g _ _ _ _ h) (by omega) rfl rfl ak_8 (cn_8 (by decide)) rfl rfl (Nat.le_of_ble_eq_true rfl) (fun r2 σ1 h => ?_)
        refine r_if_eq (tgt := 58) C dX8_delayOf_24 rfl (fun q => ?_) (fun q => ?_)
        · have h := h.1 q
          exact j58 _ _ _ _ _ ih hK64 _ h
        · have h := h.2 q
          refine r_lload_n C dX8_delayOf_27 rfl 2 rfl ?_
          refine r_iload_n C dX8_delayOf_28 rfl 1 rfl ?_
          refine r_bipush C dX8_delayOf_29 bi_6 ?_
          refine r_icmp_ge (tgt := 49) C dX8_delayOf_31 rfl (fun q => ?_) (fun q => ?_)
          · have h := h.1 q
            refine r_aload_n C dX8_delayOf_49 rfl 0 rfl ?_
            refine r_iload C dX8_delayOf_50 3 rfl ?_
            refine r_iload_n C dX8_delayOf_52 rfl 1 rfl ?_
            refine r_callVl [.long _] C dX8_delayOf_53 w_8_328 (hB _ _ _ _ h) (by omega) rfl rfl ak_8 (cn_8 (by decide)) rfl rfl (Nat.le_of_ble_eq_true rfl) (fun r4 σ3 h => ?_)
            refine r_sub [0, 1, 3] rfl ?_
            exact j56 _ _ _ _ _ _ ih hK64 _ h
          · have h := h.2 q
            refine r_ldc2 (v := 16777216) C dX8_delayOf_34 u7_44 ?_
            refine r_aload_n C dX8_delayOf_37 rfl 0 rfl ?_
            refine r_iload C dX8_delayOf_38 3 rfl ?_
            refine r_iconst C dX8_delayOf_40 ic_2 ?_
            refine r_callVi [.long _, .long _] C dX8_delayOf_41 w_8_221 (ok_X8_linkOf l g _ _ _ _ h) (by omega) rfl rfl ak_8 (cn_8 (by decide)) rfl rfl (Nat.le_of_ble_eq_true rfl) (fun r6 σ5 h => ?_)
            refine r_i2l C dX8_delayOf_44 ?_
            refine r_lmul C dX8_delayOf_45 ?_
            refine r_goto (tgt := 56) C dX8_delayOf_46 rfl ?_
            refine r_sub [0, 1, 3] rfl ?_
            exact j56 _ _ _ _ _ _ ih hK64 _ h
  unfold S_X8_delayOf at h
  show G g p l e R s m args below meth c (QL Q) 5 0 [(0, .ref (gad g 8 0)), (1, .int x1)] [] σ
  refine r_lconst (v := 0) C dX8_delayOf_0 rfl ?_
  refine r_lstore_n C dX8_delayOf_1 rfl (Nat.le_of_ble_eq_true rfl) rfl ?_
  refine r_iconst C dX8_delayOf_2 ic_0 ?_
  refine r_istore C dX8_delayOf_3 (Nat.le_of_ble_eq_true rfl) rfl ?_
  refine r_sub [2, 3, 1, 0] rfl ?_
  obtain ⟨n7, h⟩ := h
  refine l5 _ _ (fun w9 σ8 h => ?_) n7 _ _ _ h
  refine r_lload_n C dX8_delayOf_64 rfl 0 rfl ?_
  exact r_lreturn C dX8_delayOf_65 ⟨_, rfl, h⟩
def BD : Nat → (Int32 → Int32 → Hp → (Int64 → Hp → Prop) → Prop) × (Int32 → Hp → (Int64 → Hp → Prop) → Prop)
  | 0 => (fun _ _ _ _ => False, fun _ _ _ => False)
  | n + 1 => (S_X8_burstOf (BD n).1 (BD n).2, S_X8_delayOf (BD n).1 (BD n).2)
theorem ok_BD (l : Launch) (g : Gm) : ∀ n : Nat, (∀ (x1 x2 : Int32) (σ : Hp) (Q : Int64 → Hp → Prop), (BD n).1 x1 x2 σ Q → Ct l g yX8_burstOf cX8_burstOf 4 (some .long) (8 * n) [.ref (gad g 8 0), .int x1, .int x2] σ (QL Q)) ∧ (∀ (x1 : Int32) (σ : Hp) (Q : Int64 → Hp → Prop), (BD n).2 x1 σ Q → Ct l g yX8_delayOf cX8_delayOf 5 (some .long) (8 * n) [.ref (gad g 8 0), .int x1] σ (QL Q)) := by
  intro n
  induction n with
  | zero => exact ⟨fun _ _ _ _ h => False.elim h, fun _ _ _ h => False.elim h⟩
  | succ n ih => exact ⟨fun x1 x2 σ Q h => ok_X8_burstOf l g _ _ (8 * n) ih.1 ih.2 x1 x2 σ Q h, fun x1 σ Q h => ok_X8_delayOf l g _ _ (8 * n) ih.1 ih.2 x1 σ Q h⟩
def S_X8_burstOf8 (x1 x2 : Int32) (σ : Hp) (Q : Int64 → Hp → Prop) : Prop := (BD 8).1 x1 x2 σ Q
def S_X8_delayOf8 (x1 : Int32) (σ : Hp) (Q : Int64 → Hp → Prop) : Prop := (BD 8).2 x1 σ Q
theorem ok_X8_burstOf8 (l : Launch) (g : Gm) (x1 x2 : Int32) (σ : Hp) (Q : Int64 → Hp → Prop) (h : S_X8_burstOf8 x1 x2 σ Q) : Ct l g yX8_burstOf cX8_burstOf 4 (some .long) 64 [.ref (gad g 8 0), .int x1, .int x2] σ (QL Q) := (ok_BD l g 8).1 x1 x2 σ Q h
theorem ok_X8_delayOf8 (l : Launch) (g : Gm) (x1 : Int32) (σ : Hp) (Q : Int64 → Hp → Prop) (h : S_X8_delayOf8 x1 σ Q) : Ct l g yX8_delayOf cX8_delayOf 5 (some .long) 64 [.ref (gad g 8 0), .int x1] σ (QL Q) := (ok_BD l g 8).2 x1 σ Q h
def L_J7_fill_53178_5 (Q : Hp → Prop) (K20 : Hp → Prop) (n0 : Nat) (i0 : Nat) (y1 : Int32) (y3 : Int32) : Nat → Int32 → Hp → Prop
  | 0, _, _ => False
  | n + 1, y2, σ =>
  ((y3 ≤ y2 → K20 σ) ∧ (¬ y3 ≤ y2 → vp_in y2 (aln n0) ∧ ∀ σ1, σ1 = sI σ n0 i0 (ix y2) y1 → L_J7_fill_53178_5 Q K20 n0 i0 y1 y3 n (y2 + 1) σ1))
def S_J7_fill_53178 (n0 : Nat) (i0 : Nat) (x1 : Int32) (σ : Hp) (Q : Hp → Prop) : Prop :=
  (∃ n2, L_J7_fill_53178_5 Q (fun σ3 => Q σ3) n0 i0 x1 (Int32.ofNat (aln n0)) n2 0 σ)
set_option maxHeartbeats 2000000 in
set_option maxRecDepth 20000 in
theorem ok_J7_fill_53178 (l : Launch) (g : Gm) (n0 : Nat) (i0 : Nat) (ha0 : akd n0 = 1) (hi0 : i0 < cnt n0) (x1 : Int32) (σ : Hp) (Q : Hp → Prop) (h : S_J7_fill_53178 n0 i0 x1 σ Q) : Ct l g yJ7_fill_53178 cJ7_fill_53178 4 none 0 [.ref (gad g n0 i0), .int x1] σ (QV Q) := by
  refine Ct.of (by decide +kernel) (Nat.le_of_ble_eq_true rfl) ?_
  intro p e R s m args below meth c C
  have C : Cx g p R s m args meth c cJ7_fill_53178 4 RJ7 none 0 := C
  have l5 : ∀ (K20 : Hp → Prop) (y1 : Int32) (y3 : Int32) (hK20 : ∀ (σ : Hp), K20 σ → G g p l e R s m args below meth c (QV Q) 4 20 [] [] σ) (n : Nat) (y2 : Int32) (σ : Hp), L_J7_fill_53178_5 Q K20 n0 i0 y1 y3 n y2 σ → G g p l e R s m args below meth c (QV Q) 4 5 [(0, .ref (gad g n0 i0)), (1, .int y1), (2, .int y2), (3, .int y3)] [] σ := by
    intro K20 y1 y3 hK20 n
    induction n with
    | zero => intro y2 σ h; exact False.elim h
    | succ n ih =>
      intro y2 σ h
      unfold L_J7_fill_53178_5 at h
      refine r_iload_n C dJ7_fill_53178_5 rfl 2 rfl ?_
      refine r_iload_n C dJ7_fill_53178_6 rfl 3 rfl ?_
      refine r_icmp_ge (tgt := 20) C dJ7_fill_53178_7 rfl (fun q => ?_) (fun q => ?_)
      · have h := h.1 q
        refine r_sub [] rfl ?_
        exact hK20 _ h
      · have h := h.2 q
        refine r_aload_n C dJ7_fill_53178_10 rfl 0 rfl ?_
        refine r_iload_n C dJ7_fill_53178_11 rfl 2 rfl ?_
        refine r_iload_n C dJ7_fill_53178_12 rfl 1 rfl ?_
        obtain ⟨h0, h⟩ := h
        refine r_iastore C dJ7_fill_53178_13 ha0 hi0 rfl h0 ?_
        have h := h _ rfl
        refine r_iinc (v := y2 + 1) C dJ7_fill_53178_14 2 rfl rfl (Nat.le_of_ble_eq_true rfl) rfl ?_
        refine r_goto (tgt := 5) C dJ7_fill_53178_17 rfl ?_
        refine r_sub [1, 2, 0, 3] rfl ?_
        exact ih _ _ h
  unfold S_J7_fill_53178 at h
  show G g p l e R s m args below meth c (QV Q) 4 0 [(0, .ref (gad g n0 i0)), (1, .int x1)] [] σ
  refine r_iconst C dJ7_fill_53178_0 ic_0 ?_
  refine r_istore_n C dJ7_fill_53178_1 rfl (Nat.le_of_ble_eq_true rfl) rfl ?_
  refine r_aload_n C dJ7_fill_53178_2 rfl 1 rfl ?_
  refine r_alen C dJ7_fill_53178_3 ha0 hi0 rfl ?_
  refine r_istore_n C dJ7_fill_53178_4 rfl (Nat.le_of_ble_eq_true rfl) rfl ?_
  refine r_sub [2, 3, 1, 0] rfl ?_
  obtain ⟨n2, h⟩ := h
  refine l5 _ _ _ (fun σ3 h => ?_) n2 _ _ h
  exact r_return C dJ7_fill_53178_20 ⟨rfl, h⟩
def S_X0_clear (S : Nat) (σ : Hp) (Q : Hp → Prop) : Prop :=
  ∀ σ1, σ1 = sI σ 0 S 0 0 → S_J7_fill_53178 9 S 0 σ1 (fun σ2 => S_J7_fill_53178 10 S 0 σ2 (fun σ3 => S_J7_fill_53178 11 S 0 σ3 (fun σ4 => S_J7_fill_53178 12 S (-2) σ4 (fun σ5 => S_J7_fill_53178 13 S (-2) σ5 (fun σ6 => S_J7_fill_53178 14 S (-2) σ6 (fun σ7 => S_J7_fill_53178 15 S (-2) σ7 (fun σ8 => S_J7_fill_53178 16 S (-2) σ8 (fun σ9 => S_J7_fill_53178 17 S (-2) σ9 (fun σ10 => Q σ10)))))))))
set_option maxHeartbeats 2000000 in
set_option maxRecDepth 20000 in
theorem ok_X0_clear (l : Launch) (g : Gm) (S : Nat) (hS : S < 3) (σ : Hp) (Q : Hp → Prop) (h : S_X0_clear S σ Q) : Ct l g yX0_clear cX0_clear 1 none 1 [.ref (gad g 0 S)] σ (QV Q) := by
  refine Ct.of (by decide +kernel) (Nat.le_of_ble_eq_true rfl) ?_
  intro p e R s m args below meth c C
  have C : Cx g p R s m args meth c cX0_clear 1 RX0 none 1 := C
  unfold S_X0_clear at h
  show G g p l e R s m args below meth c (QV Q) 1 0 [(0, .ref (gad g 0 S))] [] σ
  refine r_aload_n C dX0_clear_0 rfl 0 rfl ?_
  refine r_iconst C dX0_clear_1 ic_0 ?_
  refine pf_0_9 C dX0_clear_2 (cn_0 hS) ?_
  have h := h _ rfl
  refine r_aload_n C dX0_clear_5 rfl 0 rfl ?_
  refine gf_0_15 C dX0_clear_6 (cn_0 hS) ?_
  refine r_iconst C dX0_clear_9 ic_0 ?_
  refine r_callSv [] C dX0_clear_10 w_0_46 (ok_J7_fill_53178 l g 9 S ak_9 (cn_9 hS) _ _ _ h) (Nat.le_of_ble_eq_true rfl) rfl rfl (Nat.le_of_ble_eq_true rfl) (fun σ2 h => ?_)
  refine r_aload_n C dX0_clear_13 rfl 0 rfl ?_
  refine gf_0_19 C dX0_clear_14 (cn_0 hS) ?_
  refine r_iconst C dX0_clear_17 ic_0 ?_
  refine r_callSv [] C dX0_clear_18 w_0_46 (ok_J7_fill_53178 l g 10 S ak_10 (cn_10 hS) _ _ _ h) (Nat.le_of_ble_eq_true rfl) rfl rfl (Nat.le_of_ble_eq_true rfl) (fun σ3 h => ?_)
  refine r_aload_n C dX0_clear_21 rfl 0 rfl ?_
  refine gf_0_22 C dX0_clear_22 (cn_0 hS) ?_
  refine r_iconst C dX0_clear_25 ic_0 ?_
  refine r_callSv [] C dX0_clear_26 w_0_46 (ok_J7_fill_53178 l g 11 S ak_11 (cn_11 hS) _ _ _ h) (Nat.le_of_ble_eq_true rfl) rfl rfl (Nat.le_of_ble_eq_true rfl) (fun σ4 h => ?_)
  refine r_aload_n C dX0_clear_29 rfl 0 rfl ?_
  refine gf_0_25 C dX0_clear_30 (cn_0 hS) ?_
  refine r_bipush C dX0_clear_33 bi_m2 ?_
  refine r_callSv [] C dX0_clear_35 w_0_46 (ok_J7_fill_53178 l g 12 S ak_12 (cn_12 hS) _ _ _ h) (Nat.le_of_ble_eq_true rfl) rfl rfl (Nat.le_of_ble_eq_true rfl) (fun σ5 h => ?_)
  refine r_aload_n C dX0_clear_38 rfl 0 rfl ?_
  refine gf_0_28 C dX0_clear_39 (cn_0 hS) ?_
  refine r_bipush C dX0_clear_42 bi_m2 ?_
  refine r_callSv [] C dX0_clear_44 w_0_46 (ok_J7_fill_53178 l g 13 S ak_13 (cn_13 hS) _ _ _ h) (Nat.le_of_ble_eq_true rfl) rfl rfl (Nat.le_of_ble_eq_true rfl) (fun σ6 h => ?_)
  refine r_aload_n C dX0_clear_47 rfl 0 rfl ?_
  refine gf_0_31 C dX0_clear_48 (cn_0 hS) ?_
  refine r_bipush C dX0_clear_51 bi_m2 ?_
  refine r_callSv [] C dX0_clear_53 w_0_46 (ok_J7_fill_53178 l g 14 S ak_14 (cn_14 hS) _ _ _ h) (Nat.le_of_ble_eq_true rfl) rfl rfl (Nat.le_of_ble_eq_true rfl) (fun σ7 h => ?_)
  refine r_aload_n C dX0_clear_56 rfl 0 rfl ?_
  refine gf_0_34 C dX0_clear_57 (cn_0 hS) ?_
  refine r_bipush C dX0_clear_60 bi_m2 ?_
  refine r_callSv [] C dX0_clear_62 w_0_46 (ok_J7_fill_53178 l g 15 S ak_15 (cn_15 hS) _ _ _ h) (Nat.le_of_ble_eq_true rfl) rfl rfl (Nat.le_of_ble_eq_true rfl) (fun σ8 h => ?_)
  refine r_aload_n C dX0_clear_65 rfl 0 rfl ?_
  refine gf_0_37 C dX0_clear_66 (cn_0 hS) ?_
  refine r_bipush C dX0_clear_69 bi_m2 ?_
  refine r_callSv [] C dX0_clear_71 w_0_46 (ok_J7_fill_53178 l g 16 S ak_16 (cn_16 hS) _ _ _ h) (Nat.le_of_ble_eq_true rfl) rfl rfl (Nat.le_of_ble_eq_true rfl) (fun σ9 h => ?_)
  refine r_aload_n C dX0_clear_74 rfl 0 rfl ?_
  refine gf_0_40 C dX0_clear_75 (cn_0 hS) ?_
  refine r_bipush C dX0_clear_78 bi_m2 ?_
  refine r_callSv [] C dX0_clear_80 w_0_46 (ok_J7_fill_53178 l g 17 S ak_17 (cn_17 hS) _ _ _ h) (Nat.le_of_ble_eq_true rfl) rfl rfl (Nat.le_of_ble_eq_true rfl) (fun σ10 h => ?_)
  exact r_return C dX0_clear_83 ⟨rfl, h⟩
def S_X7_copyAll (n0 : Nat) (i0 : Nat) (n1 : Nat) (i1 : Nat) (σ : Hp) (Q : Hp → Prop) : Prop :=
  ¬ (0 : Int32) < 0 ∧ ¬ (0 : Int32) < 0 ∧ ¬ (if (Int32.ofNat (aln n1)) < (Int32.ofNat (aln n0)) then (Int32.ofNat (aln n1)) else (Int32.ofNat (aln n0))) < 0 ∧ ix 0 + ix (if (Int32.ofNat (aln n1)) < (Int32.ofNat (aln n0)) then (Int32.ofNat (aln n1)) else (Int32.ofNat (aln n0))) ≤ (aln n0) ∧ ix 0 + ix (if (Int32.ofNat (aln n1)) < (Int32.ofNat (aln n0)) then (Int32.ofNat (aln n1)) else (Int32.ofNat (aln n0))) ≤ (aln n1) ∧ ∀ σ1, σ1 = cpyI σ n0 i0 n1 i1 (ix 0) (ix 0) (ix (if (Int32.ofNat (aln n1)) < (Int32.ofNat (aln n0)) then (Int32.ofNat (aln n1)) else (Int32.ofNat (aln n0)))) → Q σ1
set_option maxHeartbeats 2000000 in
set_option maxRecDepth 20000 in
theorem ok_X7_copyAll (l : Launch) (g : Gm) (n0 : Nat) (i0 : Nat) (n1 : Nat) (i1 : Nat) (ha0 : akd n0 = 1) (hi0 : i0 < cnt n0) (ha1 : akd n1 = 1) (hi1 : i1 < cnt n1) (σ : Hp) (Q : Hp → Prop) (h : S_X7_copyAll n0 i0 n1 i1 σ Q) : Ct l g yX7_copyAll cX7_copyAll 2 none 1 [.ref (gad g n0 i0), .ref (gad g n1 i1)] σ (QV Q) := by
  refine Ct.of (by decide +kernel) (Nat.le_of_ble_eq_true rfl) ?_
  intro p e R s m args below meth c C
  have C : Cx g p R s m args meth c cX7_copyAll 2 RX7 none 1 := C
  unfold S_X7_copyAll at h
  show G g p l e R s m args below meth c (QV Q) 2 0 [(0, .ref (gad g n0 i0)), (1, .ref (gad g n1 i1))] [] σ
  refine r_aload_n C dX7_copyAll_0 rfl 0 rfl ?_
  refine r_iconst C dX7_copyAll_1 ic_0 ?_
  refine r_aload_n C dX7_copyAll_2 rfl 1 rfl ?_
  refine r_iconst C dX7_copyAll_3 ic_0 ?_
  refine r_aload_n C dX7_copyAll_4 rfl 0 rfl ?_
  refine r_alen C dX7_copyAll_5 ha0 hi0 rfl ?_
  refine r_aload_n C dX7_copyAll_6 rfl 1 rfl ?_
  refine r_alen C dX7_copyAll_7 ha1 hi1 rfl ?_
  refine r_min C dX7_copyAll_8 u4_55 u2_188 u1_10 u2_189 (by decide) (Nat.le_of_ble_eq_true rfl) ?_
  obtain ⟨h1, h2, h3, h4, h5, h⟩ := h
  refine r_arraycopy C dX7_copyAll_11 u4_236 u4_238 u4_237 u1_19 ha0 hi0 ha1 hi1 h1 h2 h3 h4 h5 (Nat.le_of_ble_eq_true rfl) (Nat.le_of_ble_eq_true rfl) ?_
  have h := h _ rfl
  exact r_return C dX7_copyAll_14 ⟨rfl, h⟩
def S_X0_copy (S : Nat) (S2 : Nat) (σ : Hp) (Q : Hp → Prop) : Prop :=
  ∀ σ1, σ1 = sI σ 0 S 0 (gI σ 0 S2 0) → S_X7_copyAll 9 S2 9 S σ1 (fun σ2 => S_X7_copyAll 10 S2 10 S σ2 (fun σ3 => S_X7_copyAll 11 S2 11 S σ3 (fun σ4 => S_X7_copyAll 12 S2 12 S σ4 (fun σ5 => S_X7_copyAll 13 S2 13 S σ5 (fun σ6 => S_X7_copyAll 14 S2 14 S σ6 (fun σ7 => S_X7_copyAll 15 S2 15 S σ7 (fun σ8 => S_X7_copyAll 16 S2 16 S σ8 (fun σ9 => S_X7_copyAll 17 S2 17 S σ9 (fun σ10 => S_X7_copyAll 18 S2 18 S σ10 (fun σ11 => Q σ11))))))))))
set_option maxHeartbeats 2000000 in
set_option maxRecDepth 20000 in
theorem ok_X0_copy (l : Launch) (g : Gm) (S : Nat) (S2 : Nat) (hS : S < 3) (hS2 : S2 < 3) (σ : Hp) (Q : Hp → Prop) (h : S_X0_copy S S2 σ Q) : Ct l g yX0_copy cX0_copy 2 none 2 [.ref (gad g 0 S), .ref (gad g 0 S2)] σ (QV Q) := by
  refine Ct.of (by decide +kernel) (Nat.le_of_ble_eq_true rfl) ?_
  intro p e R s m args below meth c C
  have C : Cx g p R s m args meth c cX0_copy 2 RX0 none 2 := C
  unfold S_X0_copy at h
  show G g p l e R s m args below meth c (QV Q) 2 0 [(0, .ref (gad g 0 S)), (1, .ref (gad g 0 S2))] [] σ
  refine r_aload_n C dX0_copy_0 rfl 0 rfl ?_
  refine r_aload_n C dX0_copy_1 rfl 1 rfl ?_
  refine gf_0_9 C dX0_copy_2 (cn_0 hS2) ?_
  refine pf_0_9 C dX0_copy_5 (cn_0 hS) ?_
  have h := h _ rfl
  refine r_aload_n C dX0_copy_8 rfl 1 rfl ?_
  refine gf_0_15 C dX0_copy_9 (cn_0 hS2) ?_
  refine r_aload_n C dX0_copy_12 rfl 0 rfl ?_
  refine gf_0_15 C dX0_copy_13 (cn_0 hS) ?_
  refine r_callNv [] C dX0_copy_16 w_0_52 (ok_X7_copyAll l g 9 S2 9 S ak_9 (cn_9 hS2) ak_9 (cn_9 hS) _ _ h) (Nat.le_of_ble_eq_true rfl) rfl rfl (Nat.le_of_ble_eq_true rfl) (fun σ2 h => ?_)
  refine r_aload_n C dX0_copy_19 rfl 1 rfl ?_
  refine gf_0_19 C dX0_copy_20 (cn_0 hS2) ?_
  refine r_aload_n C dX0_copy_23 rfl 0 rfl ?_
  refine gf_0_19 C dX0_copy_24 (cn_0 hS) ?_
  refine r_callNv [] C dX0_copy_27 w_0_52 (ok_X7_copyAll l g 10 S2 10 S ak_10 (cn_10 hS2) ak_10 (cn_10 hS) _ _ h) (Nat.le_of_ble_eq_true rfl) rfl rfl (Nat.le_of_ble_eq_true rfl) (fun σ3 h => ?_)
  refine r_aload_n C dX0_copy_30 rfl 1 rfl ?_
  refine gf_0_22 C dX0_copy_31 (cn_0 hS2) ?_
  refine r_aload_n C dX0_copy_34 rfl 0 rfl ?_
  refine gf_0_22 C dX0_copy_35 (cn_0 hS) ?_
  refine r_callNv [] C dX0_copy_38 w_0_52 (ok_X7_copyAll l g 11 S2 11 S ak_11 (cn_11 hS2) ak_11 (cn_11 hS) _ _ h) (Nat.le_of_ble_eq_true rfl) rfl rfl (Nat.le_of_ble_eq_true rfl) (fun σ4 h => ?_)
  refine r_aload_n C dX0_copy_41 rfl 1 rfl ?_
  refine gf_0_25 C dX0_copy_42 (cn_0 hS2) ?_
  refine r_aload_n C dX0_copy_45 rfl 0 rfl ?_
  refine gf_0_25 C dX0_copy_46 (cn_0 hS) ?_
  refine r_callNv [] C dX0_copy_49 w_0_52 (ok_X7_copyAll l g 12 S2 12 S ak_12 (cn_12 hS2) ak_12 (cn_12 hS) _ _ h) (Nat.le_of_ble_eq_true rfl) rfl rfl (Nat.le_of_ble_eq_true rfl) (fun σ5 h => ?_)
  refine r_aload_n C dX0_copy_52 rfl 1 rfl ?_
  refine gf_0_28 C dX0_copy_53 (cn_0 hS2) ?_
  refine r_aload_n C dX0_copy_56 rfl 0 rfl ?_
  refine gf_0_28 C dX0_copy_57 (cn_0 hS) ?_
  refine r_callNv [] C dX0_copy_60 w_0_52 (ok_X7_copyAll l g 13 S2 13 S ak_13 (cn_13 hS2) ak_13 (cn_13 hS) _ _ h) (Nat.le_of_ble_eq_true rfl) rfl rfl (Nat.le_of_ble_eq_true rfl) (fun σ6 h => ?_)
  refine r_aload_n C dX0_copy_63 rfl 1 rfl ?_
  refine gf_0_31 C dX0_copy_64 (cn_0 hS2) ?_
  refine r_aload_n C dX0_copy_67 rfl 0 rfl ?_
  refine gf_0_31 C dX0_copy_68 (cn_0 hS) ?_
  refine r_callNv [] C dX0_copy_71 w_0_52 (ok_X7_copyAll l g 14 S2 14 S ak_14 (cn_14 hS2) ak_14 (cn_14 hS) _ _ h) (Nat.le_of_ble_eq_true rfl) rfl rfl (Nat.le_of_ble_eq_true rfl) (fun σ7 h => ?_)
  refine r_aload_n C dX0_copy_74 rfl 1 rfl ?_
  refine gf_0_34 C dX0_copy_75 (cn_0 hS2) ?_
  refine r_aload_n C dX0_copy_78 rfl 0 rfl ?_
  refine gf_0_34 C dX0_copy_79 (cn_0 hS) ?_
  refine r_callNv [] C dX0_copy_82 w_0_52 (ok_X7_copyAll l g 15 S2 15 S ak_15 (cn_15 hS2) ak_15 (cn_15 hS) _ _ h) (Nat.le_of_ble_eq_true rfl) rfl rfl (Nat.le_of_ble_eq_true rfl) (fun σ8 h => ?_)
  refine r_aload_n C dX0_copy_85 rfl 1 rfl ?_
  refine gf_0_37 C dX0_copy_86 (cn_0 hS2) ?_
  refine r_aload_n C dX0_copy_89 rfl 0 rfl ?_
  refine gf_0_37 C dX0_copy_90 (cn_0 hS) ?_
  refine r_callNv [] C dX0_copy_93 w_0_52 (ok_X7_copyAll l g 16 S2 16 S ak_16 (cn_16 hS2) ak_16 (cn_16 hS) _ _ h) (Nat.le_of_ble_eq_true rfl) rfl rfl (Nat.le_of_ble_eq_true rfl) (fun σ9 h => ?_)
  refine r_aload_n C dX0_copy_96 rfl 1 rfl ?_
  refine gf_0_40 C dX0_copy_97 (cn_0 hS2) ?_
  refine r_aload_n C dX0_copy_100 rfl 0 rfl ?_
  refine gf_0_40 C dX0_copy_101 (cn_0 hS) ?_
  refine r_callNv [] C dX0_copy_104 w_0_52 (ok_X7_copyAll l g 17 S2 17 S ak_17 (cn_17 hS2) ak_17 (cn_17 hS) _ _ h) (Nat.le_of_ble_eq_true rfl) rfl rfl (Nat.le_of_ble_eq_true rfl) (fun σ10 h => ?_)
  refine r_aload_n C dX0_copy_107 rfl 1 rfl ?_
  refine gf_0_43 C dX0_copy_108 (cn_0 hS2) ?_
  refine r_aload_n C dX0_copy_111 rfl 0 rfl ?_
  refine gf_0_43 C dX0_copy_112 (cn_0 hS) ?_
  refine r_callNv [] C dX0_copy_115 w_0_52 (ok_X7_copyAll l g 18 S2 18 S ak_18 (cn_18 hS2) ak_18 (cn_18 hS) _ _ h) (Nat.le_of_ble_eq_true rfl) rfl rfl (Nat.le_of_ble_eq_true rfl) (fun σ11 h => ?_)
  exact r_return C dX0_copy_118 ⟨rfl, h⟩
def S_X0_tells (x0 : Int32) (σ : Hp) (Q : Int32 → Hp → Prop) : Prop :=
  ((x0 < 0 → Q 0 σ) ∧ (¬ x0 < 0 → (((7 : Int32) < x0 → Q 0 σ) ∧ (¬ (7 : Int32) < x0 → Q 1 σ))))
set_option maxHeartbeats 2000000 in
set_option maxRecDepth 20000 in
theorem ok_X0_tells (l : Launch) (g : Gm) (x0 : Int32) (σ : Hp) (Q : Int32 → Hp → Prop) (h : S_X0_tells x0 σ Q) : Ct l g yX0_tells cX0_tells 1 (some .boolean) 0 [.int x0] σ (QI Q) := by
  refine Ct.of (by decide +kernel) (Nat.le_of_ble_eq_true rfl) ?_
  intro p e R s m args below meth c C
  have C : Cx g p R s m args meth c cX0_tells 1 RX0 (some .boolean) 0 := C
  unfold S_X0_tells at h
  show G g p l e R s m args below meth c (QI Q) 1 0 [(0, .int x0)] [] σ
  refine r_iload_n C dX0_tells_0 rfl 0 rfl ?_
  refine r_if_lt (tgt := 14) C dX0_tells_1 rfl (fun q => ?_) (fun q => ?_)
  · have h := h.1 q
    refine r_iconst C dX0_tells_14 ic_0 ?_
    exact r_zreturn C dX0_tells_15 zb0.1 ⟨_, rfl, h⟩
  · have h := h.2 q
    refine r_iload_n C dX0_tells_4 rfl 0 rfl ?_
    refine r_bipush C dX0_tells_5 bi_7 ?_
    refine r_icmp_gt (tgt := 14) C dX0_tells_7 rfl (fun q => ?_) (fun q => ?_)
    · have h := h.1 q
      refine r_iconst C dX0_tells_14 ic_0 ?_
      exact r_zreturn C dX0_tells_15 zb0.1 ⟨_, rfl, h⟩
    · have h := h.2 q
      refine r_iconst C dX0_tells_10 ic_1 ?_
      refine r_goto (tgt := 15) C dX0_tells_11 rfl ?_
      exact r_zreturn C dX0_tells_15 zb1.1 ⟨_, rfl, h⟩
def S_X0_told (S : Nat) (x1 : Int32) (x2 : Int32) (σ : Hp) (Q : Int32 → Hp → Prop) : Prop :=
  ((x2 = 0 → vp_in x1 24 ∧ Q (gI σ 9 S (ix x1)) σ) ∧ (x2 = 1 → vp_in x1 24 ∧ Q (gI σ 10 S (ix x1)) σ) ∧ (x2 = 2 → vp_in x1 24 ∧ Q (gI σ 11 S (ix x1)) σ) ∧ (x2 = 3 → vp_in x1 24 ∧ Q (gI σ 12 S (ix x1)) σ) ∧ (x2 = 4 → vp_in x1 24 ∧ Q (gI σ 13 S (ix x1)) σ) ∧ (x2 = 5 → vp_in x1 24 ∧ Q (gI σ 14 S (ix x1)) σ) ∧ (x2 = 6 → vp_in x1 24 ∧ Q (gI σ 15 S (ix x1)) σ) ∧ (¬ x2 = 0 → ¬ x2 = 1 → ¬ x2 = 2 → ¬ x2 = 3 → ¬ x2 = 4 → ¬ x2 = 5 → ¬ x2 = 6 → vp_in x1 24 ∧ Q (gI σ 16 S (ix x1)) σ))
set_option maxHeartbeats 2000000 in
set_option maxRecDepth 20000 in
theorem ok_X0_told (l : Launch) (g : Gm) (S : Nat) (hS : S < 3) (x1 : Int32) (x2 : Int32) (σ : Hp) (Q : Int32 → Hp → Prop) (h : S_X0_told S x1 x2 σ Q) : Ct l g yX0_told cX0_told 3 (some .int) 0 [.ref (gad g 0 S), .int x1, .int x2] σ (QI Q) := by
  refine Ct.of (by decide +kernel) (Nat.le_of_ble_eq_true rfl) ?_
  intro p e R s m args below meth c C
  have C : Cx g p R s m args meth c cX0_told 3 RX0 (some .int) 0 := C
  unfold S_X0_told at h
  show G g p l e R s m args below meth c (QI Q) 3 0 [(0, .ref (gad g 0 S)), (1, .int x1), (2, .int x2)] [] σ
  refine r_iload_n C dX0_told_0 rfl 2 rfl ?_
  obtain ⟨h0, h1, h2, h3, h4, h5, h6, h⟩ := h
  by_cases q0 : x2 = 0
  · have h := h0 q0
    refine r_tableIn (off := 43) (tgt := 44) C dX0_told_1 (by rw [q0]; decide) (by rw [q0]; decide) (by rw [q0]; rfl) rfl ?_
    refine r_aload_n C dX0_told_44 rfl 0 rfl ?_
    refine gf_0_15 C dX0_told_45 (cn_0 hS) ?_
    refine r_iload_n C dX0_told_48 rfl 1 rfl ?_
    obtain ⟨h0, h⟩ := h
    refine r_iaload C dX0_told_49 ak_9 (cn_9 hS) al_9 h0 ?_
    exact r_ireturn C dX0_told_50 ⟨_, rfl, h⟩
  by_cases q1 : x2 = 1
  · have h := h1 q1
    refine r_tableIn (off := 50) (tgt := 51) C dX0_told_1 (by rw [q1]; decide) (by rw [q1]; decide) (by rw [q1]; rfl) rfl ?_
    refine r_aload_n C dX0_told_51 rfl 0 rfl ?_
    refine gf_0_19 C dX0_told_52 (cn_0 hS) ?_
    refine r_iload_n C dX0_told_55 rfl 1 rfl ?_
    obtain ⟨h0, h⟩ := h
    refine r_iaload C dX0_told_56 ak_10 (cn_10 hS) al_10 h0 ?_
    exact r_ireturn C dX0_told_57 ⟨_, rfl, h⟩
  by_cases q2 : x2 = 2
  · have h := h2 q2
    refine r_tableIn (off := 57) (tgt := 58) C dX0_told_1 (by rw [q2]; decide) (by rw [q2]; decide) (by rw [q2]; rfl) rfl ?_
    refine r_aload_n C dX0_told_58 rfl 0 rfl ?_
    refine gf_0_22 C dX0_told_59 (cn_0 hS) ?_
    refine r_iload_n C dX0_told_62 rfl 1 rfl ?_
    obtain ⟨h0, h⟩ := h
    refine r_iaload C dX0_told_63 ak_11 (cn_11 hS) al_11 h0 ?_
    exact r_ireturn C dX0_told_64 ⟨_, rfl, h⟩
  by_cases q3 : x2 = 3
  · have h := h3 q3
    refine r_tableIn (off := 64) (tgt := 65) C dX0_told_1 (by rw [q3]; decide) (by rw [q3]; decide) (by rw [q3]; rfl) rfl ?_
    refine r_aload_n C dX0_told_65 rfl 0 rfl ?_
    refine gf_0_25 C dX0_told_66 (cn_0 hS) ?_
    refine r_iload_n C dX0_told_69 rfl 1 rfl ?_
    obtain ⟨h0, h⟩ := h
    refine r_iaload C dX0_told_70 ak_12 (cn_12 hS) al_12 h0 ?_
    exact r_ireturn C dX0_told_71 ⟨_, rfl, h⟩
  by_cases q4 : x2 = 4
  · have h := h4 q4
    refine r_tableIn (off := 71) (tgt := 72) C dX0_told_1 (by rw [q4]; decide) (by rw [q4]; decide) (by rw [q4]; rfl) rfl ?_
    refine r_aload_n C dX0_told_72 rfl 0 rfl ?_
    refine gf_0_28 C dX0_told_73 (cn_0 hS) ?_
    refine r_iload_n C dX0_told_76 rfl 1 rfl ?_
    obtain ⟨h0, h⟩ := h
    refine r_iaload C dX0_told_77 ak_13 (cn_13 hS) al_13 h0 ?_
    exact r_ireturn C dX0_told_78 ⟨_, rfl, h⟩
  by_cases q5 : x2 = 5
  · have h := h5 q5
    refine r_tableIn (off := 78) (tgt := 79) C dX0_told_1 (by rw [q5]; decide) (by rw [q5]; decide) (by rw [q5]; rfl) rfl ?_
    refine r_aload_n C dX0_told_79 rfl 0 rfl ?_
    refine gf_0_31 C dX0_told_80 (cn_0 hS) ?_
    refine r_iload_n C dX0_told_83 rfl 1 rfl ?_
    obtain ⟨h0, h⟩ := h
    refine r_iaload C dX0_told_84 ak_14 (cn_14 hS) al_14 h0 ?_
    exact r_ireturn C dX0_told_85 ⟨_, rfl, h⟩
  by_cases q6 : x2 = 6
  · have h := h6 q6
    refine r_tableIn (off := 85) (tgt := 86) C dX0_told_1 (by rw [q6]; decide) (by rw [q6]; decide) (by rw [q6]; rfl) rfl ?_
    refine r_aload_n C dX0_told_86 rfl 0 rfl ?_
    refine gf_0_34 C dX0_told_87 (cn_0 hS) ?_
    refine r_iload_n C dX0_told_90 rfl 1 rfl ?_
    obtain ⟨h0, h⟩ := h
    refine r_iaload C dX0_told_91 ak_15 (cn_15 hS) al_15 h0 ?_
    exact r_ireturn C dX0_told_92 ⟨_, rfl, h⟩
  have h := h q0 q1 q2 q3 q4 q5 q6
  refine r_tableOut (tgt := 93) C dX0_told_1 (sw_out6 q0 q1 q2 q3 q4 q5 q6) rfl ?_
  refine r_aload_n C dX0_told_93 rfl 0 rfl ?_
  refine gf_0_37 C dX0_told_94 (cn_0 hS) ?_
  refine r_iload_n C dX0_told_97 rfl 1 rfl ?_
  obtain ⟨h0, h⟩ := h
  refine r_iaload C dX0_told_98 ak_16 (cn_16 hS) al_16 h0 ?_
  exact r_ireturn C dX0_told_99 ⟨_, rfl, h⟩
def S_X0_remembers (S : Nat) (x1 : Int32) (x2 : Int32) (σ : Hp) (Q : Int32 → Hp → Prop) : Prop :=
  ((x2 < 0 → Q 0 σ) ∧ (¬ x2 < 0 → vp_in x1 24 ∧ (((if (gI σ 9 S (ix x1)) < 10 then (gI σ 9 S (ix x1)) else 10) ≤ x2 → Q 0 σ) ∧ (¬ (if (gI σ 9 S (ix x1)) < 10 then (gI σ 9 S (ix x1)) else 10) ≤ x2 → Q 1 σ))))
set_option maxHeartbeats 2000000 in
set_option maxRecDepth 20000 in
theorem ok_X0_remembers (l : Launch) (g : Gm) (S : Nat) (hS : S < 3) (x1 : Int32) (x2 : Int32) (σ : Hp) (Q : Int32 → Hp → Prop) (h : S_X0_remembers S x1 x2 σ Q) : Ct l g yX0_remembers cX0_remembers 3 (some .boolean) 1 [.ref (gad g 0 S), .int x1, .int x2] σ (QI Q) := by
  refine Ct.of (by decide +kernel) (Nat.le_of_ble_eq_true rfl) ?_
  intro p e R s m args below meth c C
  have C : Cx g p R s m args meth c cX0_remembers 3 RX0 (some .boolean) 1 := C
  unfold S_X0_remembers at h
  show G g p l e R s m args below meth c (QI Q) 3 0 [(0, .ref (gad g 0 S)), (1, .int x1), (2, .int x2)] [] σ
  refine r_iload_n C dX0_remembers_0 rfl 2 rfl ?_
  refine r_if_lt (tgt := 23) C dX0_remembers_1 rfl (fun q => ?_) (fun q => ?_)
  · have h := h.1 q
    refine r_iconst C dX0_remembers_23 ic_0 ?_
    exact r_zreturn C dX0_remembers_24 zb0.1 ⟨_, rfl, h⟩
  · have h := h.2 q
    refine r_iload_n C dX0_remembers_4 rfl 2 rfl ?_
    refine r_bipush C dX0_remembers_5 bi_10 ?_
    refine r_aload_n C dX0_remembers_7 rfl 0 rfl ?_
    refine gf_0_15 C dX0_remembers_8 (cn_0 hS) ?_
    refine r_iload_n C dX0_remembers_11 rfl 1 rfl ?_
    obtain ⟨h0, h⟩ := h
    refine r_iaload C dX0_remembers_12 ak_9 (cn_9 hS) al_9 h0 ?_
    refine r_min C dX0_remembers_13 u4_27 u2_188 u1_10 u2_189 (by decide) (Nat.le_of_ble_eq_true rfl) ?_
    refine r_icmp_ge (tgt := 23) C dX0_remembers_16 rfl (fun q => ?_) (fun q => ?_)
    · have h := h.1 q
      refine r_iconst C dX0_remembers_23 ic_0 ?_
      exact r_zreturn C dX0_remembers_24 zb0.1 ⟨_, rfl, h⟩
    · have h := h.2 q
      refine r_iconst C dX0_remembers_19 ic_1 ?_
      refine r_goto (tgt := 24) C dX0_remembers_20 rfl ?_
      exact r_zreturn C dX0_remembers_24 zb1.1 ⟨_, rfl, h⟩
def S_X0_memoryOf (x0 : Int32) (x1 : Int32) (σ : Hp) (Q : Int32 → Hp → Prop) : Prop :=
  Q ((x0 * 10) + (jrem x1 10)) σ
set_option maxHeartbeats 2000000 in
set_option maxRecDepth 20000 in
theorem ok_X0_memoryOf (l : Launch) (g : Gm) (x0 : Int32) (x1 : Int32) (σ : Hp) (Q : Int32 → Hp → Prop) (h : S_X0_memoryOf x0 x1 σ Q) : Ct l g yX0_memoryOf cX0_memoryOf 2 (some .int) 0 [.int x0, .int x1] σ (QI Q) := by
  refine Ct.of (by decide +kernel) (Nat.le_of_ble_eq_true rfl) ?_
  intro p e R s m args below meth c C
  have C : Cx g p R s m args meth c cX0_memoryOf 2 RX0 (some .int) 0 := C
  unfold S_X0_memoryOf at h
  show G g p l e R s m args below meth c (QI Q) 2 0 [(0, .int x0), (1, .int x1)] [] σ
  refine r_iload_n C dX0_memoryOf_0 rfl 0 rfl ?_
  refine r_bipush C dX0_memoryOf_1 bi_10 ?_
  refine r_imul C dX0_memoryOf_3 ?_
  refine r_iload_n C dX0_memoryOf_4 rfl 1 rfl ?_
  refine r_bipush C dX0_memoryOf_5 bi_10 ?_
  refine r_irem C dX0_memoryOf_7 (by decide) ?_
  refine r_iadd C dX0_memoryOf_8 ?_
  exact r_ireturn C dX0_memoryOf_9 ⟨_, rfl, h⟩
def S_X0_remembered (S : Nat) (x1 : Int32) (x2 : Int32) (σ : Hp) (Q : Int32 → Hp → Prop) : Prop :=
  vp_in x1 24 ∧ S_X0_memoryOf x1 (((gI σ 9 S (ix x1)) - 1) - x2) σ (fun r2 σ1 => vp_in r2 240 ∧ Q (gI σ1 18 S (ix r2)) σ1)
set_option maxHeartbeats 2000000 in
set_option maxRecDepth 20000 in
theorem ok_X0_remembered (l : Launch) (g : Gm) (S : Nat) (hS : S < 3) (x1 : Int32) (x2 : Int32) (σ : Hp) (Q : Int32 → Hp → Prop) (h : S_X0_remembered S x1 x2 σ Q) : Ct l g yX0_remembered cX0_remembered 3 (some .int) 1 [.ref (gad g 0 S), .int x1, .int x2] σ (QI Q) := by
  refine Ct.of (by decide +kernel) (Nat.le_of_ble_eq_true rfl) ?_
  intro p e R s m args below meth c C
  have C : Cx g p R s m args meth c cX0_remembered 3 RX0 (some .int) 1 := C
  unfold S_X0_remembered at h
  show G g p l e R s m args below meth c (QI Q) 3 0 [(0, .ref (gad g 0 S)), (1, .int x1), (2, .int x2)] [] σ
  refine r_aload_n C dX0_remembered_0 rfl 0 rfl ?_
  refine gf_0_43 C dX0_remembered_1 (cn_0 hS) ?_
  refine r_iload_n C dX0_remembered_4 rfl 1 rfl ?_
  refine r_aload_n C dX0_remembered_5 rfl 0 rfl ?_
  refine gf_0_15 C dX0_remembered_6 (cn_0 hS) ?_
  refine r_iload_n C dX0_remembered_9 rfl 1 rfl ?_
  obtain ⟨h0, h⟩ := h
  refine r_iaload C dX0_remembered_10 ak_9 (cn_9 hS) al_9 h0 ?_
  refine r_iconst C dX0_remembered_11 ic_1 ?_
  refine r_isub C dX0_remembered_12 ?_
  refine r_iload_n C dX0_remembered_13 rfl 2 rfl ?_
  refine r_isub C dX0_remembered_14 ?_
  refine r_callSi [.ref (gad g 18 S)] C dX0_remembered_15 w_0_62 (ok_X0_memoryOf l g _ _ _ _ h) (Nat.le_of_ble_eq_true rfl) rfl rfl (Nat.le_of_ble_eq_true rfl) (fun r2 σ1 h => ?_)
  obtain ⟨h0, h⟩ := h
  refine r_iaload C dX0_remembered_18 ak_18 (cn_18 hS) al_18 h0 ?_
  exact r_ireturn C dX0_remembered_19 ⟨_, rfl, h⟩
def S_X7_earOf (x0 : Int32) (x1 : Int32) (σ : Hp) (Q : Int32 → Hp → Prop) : Prop :=
  Q ((x0 * 3) + x1) σ
set_option maxHeartbeats 2000000 in
set_option maxRecDepth 20000 in
theorem ok_X7_earOf (l : Launch) (g : Gm) (x0 : Int32) (x1 : Int32) (σ : Hp) (Q : Int32 → Hp → Prop) (h : S_X7_earOf x0 x1 σ Q) : Ct l g yX7_earOf cX7_earOf 2 (some .int) 0 [.int x0, .int x1] σ (QI Q) := by
  refine Ct.of (by decide +kernel) (Nat.le_of_ble_eq_true rfl) ?_
  intro p e R s m args below meth c C
  have C : Cx g p R s m args meth c cX7_earOf 2 RX7 (some .int) 0 := C
  unfold S_X7_earOf at h
  show G g p l e R s m args below meth c (QI Q) 2 0 [(0, .int x0), (1, .int x1)] [] σ
  refine r_iload_n C dX7_earOf_0 rfl 0 rfl ?_
  refine r_iconst C dX7_earOf_1 ic_3 ?_
  refine r_imul C dX7_earOf_2 ?_
  refine r_iload_n C dX7_earOf_3 rfl 1 rfl ?_
  refine r_iadd C dX7_earOf_4 ?_
  exact r_ireturn C dX7_earOf_5 ⟨_, rfl, h⟩
def L_X0_allTook_2 (Q : Int32 → Hp → Prop) (K28 : Hp → Prop) (K20 : Hp → Prop) (S : Nat) (y1 : Int32) (y2 : Int32) : Nat → Int32 → Hp → Prop
  | 0, _, _ => False
  | n + 1, y3, σ =>
  ((y2 ≤ y3 → K28 σ) ∧ (¬ y2 ≤ y3 → S_X7_earOf y1 y3 σ (fun r2 σ1 => vp_in r2 24 ∧ ((¬ (gI σ1 9 S (ix r2)) = 0 → L_X0_allTook_2 Q K28 K20 S y1 y2 n (y3 + 1) σ1) ∧ ((gI σ1 9 S (ix r2)) = 0 → K20 σ1)))))
def S_X0_allTook (S : Nat) (x1 : Int32) (x2 : Int32) (σ : Hp) (Q : Int32 → Hp → Prop) : Prop :=
  (∃ n3, L_X0_allTook_2 Q (fun σ4 => Q 1 σ4) (fun σ5 => Q 0 σ5) S x1 x2 n3 0 σ)
set_option maxHeartbeats 2000000 in
set_option maxRecDepth 20000 in
theorem ok_X0_allTook (l : Launch) (g : Gm) (S : Nat) (hS : S < 3) (x1 : Int32) (x2 : Int32) (σ : Hp) (Q : Int32 → Hp → Prop) (h : S_X0_allTook S x1 x2 σ Q) : Ct l g yX0_allTook cX0_allTook 4 (some .boolean) 1 [.ref (gad g 0 S), .int x1, .int x2] σ (QI Q) := by
  refine Ct.of (by decide +kernel) (Nat.le_of_ble_eq_true rfl) ?_
  intro p e R s m args below meth c C
  have C : Cx g p R s m args meth c cX0_allTook 4 RX0 (some .boolean) 1 := C
  have l2 : ∀ (K28 : Hp → Prop) (K20 : Hp → Prop) (y1 : Int32) (y2 : Int32) (hK28 : ∀ (σ : Hp), K28 σ → G g p l e R s m args below meth c (QI Q) 4 28 [] [] σ) (hK20 : ∀ (σ : Hp), K20 σ → G g p l e R s m args below meth c (QI Q) 4 20 [] [] σ) (n : Nat) (y3 : Int32) (σ : Hp), L_X0_allTook_2 Q K28 K20 S y1 y2 n y3 σ → G g p l e R s m args below meth c (QI Q) 4 2 [(0, .ref (gad g 0 S)), (1, .int y1), (2, .int y2), (3, .int y3)] [] σ := by
    intro K28 K20 y1 y2 hK28 hK20 n
    induction n with
    | zero => intro y3 σ h; exact False.elim h
    | succ n ih =>
      intro y3 σ h
      unfold L_X0_allTook_2 at h
      refine r_iload_n C dX0_allTook_2 rfl 3 rfl ?_
      refine r_iload_n C dX0_allTook_3 rfl 2 rfl ?_
      refine r_icmp_ge (tgt := 28) C dX0_allTook_4 rfl (fun q => ?_) (fun q => ?_)
      · have h := h.1 q
        refine r_sub [] rfl ?_
        exact hK28 _ h
      · have h := h.2 q
        refine r_aload_n C dX0_allTook_7 rfl 0 rfl ?_
        refine gf_0_15 C dX0_allTook_8 (cn_0 hS) ?_
        refine r_iload_n C dX0_allTook_11 rfl 1 rfl ?_
        refine r_iload_n C dX0_allTook_12 rfl 3 rfl ?_
        refine r_callNi [.ref (gad g 9 S)] C dX0_allTook_13 w_0_65 (ok_X7_earOf l g _ _ _ _ h) (Nat.le_of_ble_eq_true rfl) rfl rfl (Nat.le_of_ble_eq_true rfl) (fun r2 σ1 h => ?_)
        obtain ⟨h0, h⟩ := h
        refine r_iaload C dX0_allTook_16 ak_9 (cn_9 hS) al_9 h0 ?_
        refine r_if_ne (tgt := 22) C dX0_allTook_17 rfl (fun q => ?_) (fun q => ?_)
        · have h := h.1 q
          refine r_iinc (v := y3 + 1) C dX0_allTook_22 3 rfl rfl (Nat.le_of_ble_eq_true rfl) rfl ?_
          refine r_goto (tgt := 2) C dX0_allTook_25 rfl ?_
          refine r_sub [1, 2, 3, 0] rfl ?_
          exact ih _ _ h
        · have h := h.2 q
          refine r_sub [] rfl ?_
          exact hK20 _ h
  unfold S_X0_allTook at h
  show G g p l e R s m args below meth c (QI Q) 4 0 [(0, .ref (gad g 0 S)), (1, .int x1), (2, .int x2)] [] σ
  refine r_iconst C dX0_allTook_0 ic_0 ?_
  refine r_istore_n C dX0_allTook_1 rfl (Nat.le_of_ble_eq_true rfl) rfl ?_
  refine r_sub [1, 2, 3, 0] rfl ?_
  obtain ⟨n3, h⟩ := h
  refine l2 _ _ _ _ (fun σ4 h => ?_) (fun σ5 h => ?_) n3 _ _ h
  · refine r_iconst C dX0_allTook_28 ic_1 ?_
    exact r_zreturn C dX0_allTook_29 zb1.1 ⟨_, rfl, h⟩
  · refine r_iconst C dX0_allTook_20 ic_0 ?_
    exact r_zreturn C dX0_allTook_21 zb0.1 ⟨_, rfl, h⟩
def S_X7_numberBehind (x0 : Int32) (σ : Hp) (Q : Int32 → Hp → Prop) : Prop :=
  ((¬ x0 = 255 → Q (x0 + 1) σ) ∧ (x0 = 255 → Q 1 σ))
set_option maxHeartbeats 2000000 in
set_option maxRecDepth 20000 in
theorem ok_X7_numberBehind (l : Launch) (g : Gm) (x0 : Int32) (σ : Hp) (Q : Int32 → Hp → Prop) (h : S_X7_numberBehind x0 σ Q) : Ct l g yX7_numberBehind cX7_numberBehind 1 (some .int) 0 [.int x0] σ (QI Q) := by
  refine Ct.of (by decide +kernel) (Nat.le_of_ble_eq_true rfl) ?_
  intro p e R s m args below meth c C
  have C : Cx g p R s m args meth c cX7_numberBehind 1 RX7 (some .int) 0 := C
  unfold S_X7_numberBehind at h
  show G g p l e R s m args below meth c (QI Q) 1 0 [(0, .int x0)] [] σ
  refine r_iload_n C dX7_numberBehind_0 rfl 0 rfl ?_
  refine r_sipush C dX7_numberBehind_1 si_255 ?_
  refine r_icmp_ne (tgt := 11) C dX7_numberBehind_4 rfl (fun q => ?_) (fun q => ?_)
  · have h := h.1 q
    refine r_iload_n C dX7_numberBehind_11 rfl 0 rfl ?_
    refine r_iconst C dX7_numberBehind_12 ic_1 ?_
    refine r_iadd C dX7_numberBehind_13 ?_
    exact r_ireturn C dX7_numberBehind_14 ⟨_, rfl, h⟩
  · have h := h.2 q
    refine r_iconst C dX7_numberBehind_7 ic_1 ?_
    refine r_goto (tgt := 14) C dX7_numberBehind_8 rfl ?_
    exact r_ireturn C dX7_numberBehind_14 ⟨_, rfl, h⟩
def S_X0_isWhole (x0 : Int32) (x1 : Int32) (σ : Hp) (Q : Int32 → Hp → Prop) : Prop :=
  ((x0 = (-2) → Q 1 σ) ∧ (¬ x0 = (-2) → ((¬ x1 = 0 → S_X7_numberBehind x0 σ (fun r2 σ1 => ((x1 = r2 → Q 1 σ1) ∧ (¬ x1 = r2 → S_X7_numberBehind r2 σ1 (fun r4 σ3 => ((¬ x1 = r4 → Q 0 σ3) ∧ (x1 = r4 → Q 1 σ3))))))) ∧ (x1 = 0 → Q 1 σ))))
set_option maxHeartbeats 2000000 in
set_option maxRecDepth 20000 in
theorem ok_X0_isWhole (l : Launch) (g : Gm) (x0 : Int32) (x1 : Int32) (σ : Hp) (Q : Int32 → Hp → Prop) (h : S_X0_isWhole x0 x1 σ Q) : Ct l g yX0_isWhole cX0_isWhole 3 (some .boolean) 1 [.int x0, .int x1] σ (QI Q) := by
  refine Ct.of (by decide +kernel) (Nat.le_of_ble_eq_true rfl) ?_
  intro p e R s m args below meth c C
  have C : Cx g p R s m args meth c cX0_isWhole 3 RX0 (some .boolean) 1 := C
  unfold S_X0_isWhole at h
  show G g p l e R s m args below meth c (QI Q) 3 0 [(0, .int x0), (1, .int x1)] [] σ
  refine r_iload_n C dX0_isWhole_0 rfl 0 rfl ?_
  refine r_bipush C dX0_isWhole_1 bi_m2 ?_
  refine r_icmp_eq (tgt := 10) C dX0_isWhole_3 rfl (fun q => ?_) (fun q => ?_)
  · have h := h.1 q
    refine r_iconst C dX0_isWhole_10 ic_1 ?_
    exact r_zreturn C dX0_isWhole_11 zb1.1 ⟨_, rfl, h⟩
  · have h := h.2 q
    refine r_iload_n C dX0_isWhole_6 rfl 1 rfl ?_
    refine r_if_ne (tgt := 12) C dX0_isWhole_7 rfl (fun q => ?_) (fun q => ?_)
    · have h := h.1 q
      refine r_iload_n C dX0_isWhole_12 rfl 0 rfl ?_
      refine r_callNi [] C dX0_isWhole_13 w_0_80 (ok_X7_numberBehind l g _ _ _ h) (Nat.le_of_ble_eq_true rfl) rfl rfl (Nat.le_of_ble_eq_true rfl) (fun r2 σ1 h => ?_)
      refine r_istore_n C dX0_isWhole_16 rfl (Nat.le_of_ble_eq_true rfl) rfl ?_
      refine r_iload_n C dX0_isWhole_17 rfl 2 rfl ?_
      refine r_iload_n C dX0_isWhole_18 rfl 0 rfl ?_
      refine r_icmp_eq (tgt := 30) C dX0_isWhole_19 rfl (fun q => ?_) (fun q => ?_)
      · have h := h.1 q
        refine r_iconst C dX0_isWhole_30 ic_1 ?_
        refine r_goto (tgt := 35) C dX0_isWhole_31 rfl ?_
        exact r_zreturn C dX0_isWhole_35 zb1.1 ⟨_, rfl, h⟩
      · have h := h.2 q
        refine r_iload_n C dX0_isWhole_22 rfl 2 rfl ?_
        refine r_iload_n C dX0_isWhole_23 rfl 0 rfl ?_
        refine r_callNi [.int _] C dX0_isWhole_24 w_0_80 (ok_X7_numberBehind l g _ _ _ h) (Nat.le_of_ble_eq_true rfl) rfl rfl (Nat.le_of_ble_eq_true rfl) (fun r4 σ3 h => ?_)
        refine r_icmp_ne (tgt := 34) C dX0_isWhole_27 rfl (fun q => ?_) (fun q => ?_)
        · have h := h.1 q
          refine r_iconst C dX0_isWhole_34 ic_0 ?_
          exact r_zreturn C dX0_isWhole_35 zb0.1 ⟨_, rfl, h⟩
        · have h := h.2 q
          refine r_iconst C dX0_isWhole_30 ic_1 ?_
          refine r_goto (tgt := 35) C dX0_isWhole_31 rfl ?_
          exact r_zreturn C dX0_isWhole_35 zb1.1 ⟨_, rfl, h⟩
    · have h := h.2 q
      refine r_iconst C dX0_isWhole_10 ic_1 ?_
      exact r_zreturn C dX0_isWhole_11 zb1.1 ⟨_, rfl, h⟩
def J_X0_isFresh_71 (Q : Int32 → Hp → Prop) (S : Nat) (P : Nat) (z0 : Int32) (σ : Hp) : Prop :=
  ((z0 < 1 → Q 0 σ) ∧ (¬ z0 < 1 → (((gI σ 2 P 3) < z0 → Q 0 σ) ∧ (¬ (gI σ 2 P 3) < z0 → Q 1 σ))))
def S_X0_isFresh (S : Nat) (P : Nat) (x2 : Int32) (x3 : Int32) (x4 : Int32) (σ : Hp) (Q : Int32 → Hp → Prop) : Prop :=
  vp_in x2 24 ∧ (((gI σ 9 S (ix x2)) = 0 → Q 1 σ) ∧ (¬ (gI σ 9 S (ix x2)) = 0 → vp_in x2 24 ∧ (((x4 - (gI σ 13 S (ix x2))) ≤ (gI σ 2 P 4) → vp_in x2 24 ∧ ((¬ x3 = 0 → ((¬ (gI σ 12 S (ix x2)) = 0 → J_X0_isFresh_71 Q S P (jrem ((x3 - (gI σ 12 S (ix x2))) + 255) 255) σ) ∧ ((gI σ 12 S (ix x2)) = 0 → J_X0_isFresh_71 Q S P x3 σ))) ∧ (x3 = 0 → (((gI σ 12 S (ix x2)) = 0 → Q 0 σ) ∧ (¬ (gI σ 12 S (ix x2)) = 0 → Q 1 σ))))) ∧ (¬ (x4 - (gI σ 13 S (ix x2))) ≤ (gI σ 2 P 4) → Q 1 σ))))
set_option maxHeartbeats 2000000 in
set_option maxRecDepth 20000 in
theorem ok_X0_isFresh (l : Launch) (g : Gm) (S : Nat) (P : Nat) (hS : S < 3) (hP : P < 2) (x2 : Int32) (x3 : Int32) (x4 : Int32) (σ : Hp) (Q : Int32 → Hp → Prop) (h : S_X0_isFresh S P x2 x3 x4 σ Q) : Ct l g yX0_isFresh cX0_isFresh 7 (some .boolean) 0 [.ref (gad g 0 S), .ref (gad g 2 P), .int x2, .int x3, .int x4] σ (QI Q) := by
  refine Ct.of (by decide +kernel) (Nat.le_of_ble_eq_true rfl) ?_
  intro p e R s m args below meth c C
  have C : Cx g p R s m args meth c cX0_isFresh 7 RX0 (some .boolean) 0 := C
  have j71 : ∀ (z0 : Int32) (σ : Hp), J_X0_isFresh_71 Q S P z0 σ → G g p l e R s m args below meth c (QI Q) 7 71 [(1, .ref (gad g 2 P))] [.int z0] σ := by
    intro z0 σ h
    unfold J_X0_isFresh_71 at h
    refine r_istore C dX0_isFresh_71 (Nat.le_of_ble_eq_true rfl) rfl ?_
    refine r_iload C dX0_isFresh_73 0 rfl ?_
    refine r_iconst C dX0_isFresh_75 ic_1 ?_
    refine r_icmp_lt (tgt := 92) C dX0_isFresh_76 rfl (fun q => ?_) (fun q => ?_)
    · have h := h.1 q
      refine r_iconst C dX0_isFresh_92 ic_0 ?_
      exact r_zreturn C dX0_isFresh_93 zb0.1 ⟨_, rfl, h⟩
    · have h := h.2 q
      refine r_iload C dX0_isFresh_79 0 rfl ?_
      refine r_aload_n C dX0_isFresh_81 rfl 1 rfl ?_
      refine gf_0_89 C dX0_isFresh_82 (cn_2 hP) ?_
      refine r_icmp_gt (tgt := 92) C dX0_isFresh_85 rfl (fun q => ?_) (fun q => ?_)
      · have h := h.1 q
        refine r_iconst C dX0_isFresh_92 ic_0 ?_
        exact r_zreturn C dX0_isFresh_93 zb0.1 ⟨_, rfl, h⟩
      · have h := h.2 q
        refine r_iconst C dX0_isFresh_88 ic_1 ?_
        refine r_goto (tgt := 93) C dX0_isFresh_89 rfl ?_
        exact r_zreturn C dX0_isFresh_93 zb1.1 ⟨_, rfl, h⟩
  unfold S_X0_isFresh at h
  show G g p l e R s m args below meth c (QI Q) 7 0 [(0, .ref (gad g 0 S)), (1, .ref (gad g 2 P)), (2, .int x2), (3, .int x3), (4, .int x4)] [] σ
  refine r_aload_n C dX0_isFresh_0 rfl 0 rfl ?_
  refine gf_0_15 C dX0_isFresh_1 (cn_0 hS) ?_
  refine r_iload_n C dX0_isFresh_4 rfl 2 rfl ?_
  obtain ⟨h0, h⟩ := h
  refine r_iaload C dX0_isFresh_5 ak_9 (cn_9 hS) al_9 h0 ?_
  refine r_if_eq (tgt := 25) C dX0_isFresh_6 rfl (fun q => ?_) (fun q => ?_)
  · have h := h.1 q
    refine r_iconst C dX0_isFresh_25 ic_1 ?_
    exact r_zreturn C dX0_isFresh_26 zb1.1 ⟨_, rfl, h⟩
  · have h := h.2 q
    refine r_iload C dX0_isFresh_9 4 rfl ?_
    refine r_aload_n C dX0_isFresh_11 rfl 0 rfl ?_
    refine gf_0_28 C dX0_isFresh_12 (cn_0 hS) ?_
    refine r_iload_n C dX0_isFresh_15 rfl 2 rfl ?_
    obtain ⟨h0, h⟩ := h
    refine r_iaload C dX0_isFresh_16 ak_13 (cn_13 hS) al_13 h0 ?_
    refine r_isub C dX0_isFresh_17 ?_
    refine r_aload_n C dX0_isFresh_18 rfl 1 rfl ?_
    refine gf_0_84 C dX0_isFresh_19 (cn_2 hP) ?_
    refine r_icmp_le (tgt := 27) C dX0_isFresh_22 rfl (fun q => ?_) (fun q => ?_)
    · have h := h.1 q
      refine r_aload_n C dX0_isFresh_27 rfl 0 rfl ?_
      refine gf_0_25 C dX0_isFresh_28 (cn_0 hS) ?_
      refine r_iload_n C dX0_isFresh_31 rfl 2 rfl ?_
      obtain ⟨h0, h⟩ := h
      refine r_iaload C dX0_isFresh_32 ak_12 (cn_12 hS) al_12 h0 ?_
      refine r_istore C dX0_isFresh_33 (Nat.le_of_ble_eq_true rfl) rfl ?_
      refine r_iload_n C dX0_isFresh_35 rfl 4 rfl ?_
      refine r_if_ne (tgt := 50) C dX0_isFresh_36 rfl (fun q => ?_) (fun q => ?_)
      · have h := h.1 q
        refine r_iload C dX0_isFresh_50 0 rfl ?_
        refine r_if_ne (tgt := 59) C dX0_isFresh_52 rfl (fun q => ?_) (fun q => ?_)
        · have h := h.1 q
          refine r_iload_n C dX0_isFresh_59 rfl 4 rfl ?_
          refine r_iload C dX0_isFresh_60 0 rfl ?_
          refine r_isub C dX0_isFresh_62 ?_
          refine r_sipush C dX0_isFresh_63 si_255 ?_
          refine r_iadd C dX0_isFresh_66 ?_
          refine r_sipush C dX0_isFresh_67 si_255 ?_
          refine r_irem C dX0_isFresh_70 (by decide) ?_
          refine r_sub [2] rfl ?_
          exact j71 _ _ h
        · have h := h.2 q
          refine r_iload_n C dX0_isFresh_55 rfl 4 rfl ?_
          refine r_goto (tgt := 71) C dX0_isFresh_56 rfl ?_
          refine r_sub [2] rfl ?_
          exact j71 _ _ h
      · have h := h.2 q
        refine r_iload C dX0_isFresh_39 0 rfl ?_
        refine r_if_eq (tgt := 48) C dX0_isFresh_41 rfl (fun q => ?_) (fun q => ?_)
        · have h := h.1 q
          refine r_iconst C dX0_isFresh_48 ic_0 ?_
          exact r_zreturn C dX0_isFresh_49 zb0.1 ⟨_, rfl, h⟩
        · have h := h.2 q
          refine r_iconst C dX0_isFresh_44 ic_1 ?_
          refine r_goto (tgt := 49) C dX0_isFresh_45 rfl ?_
          exact r_zreturn C dX0_isFresh_49 zb1.1 ⟨_, rfl, h⟩
    · have h := h.2 q
      refine r_iconst C dX0_isFresh_25 ic_1 ?_
      exact r_zreturn C dX0_isFresh_26 zb1.1 ⟨_, rfl, h⟩
def J_X0_take_54 (Q : Hp → Prop) (S : Nat) (y1 : Int32) (y2 : Int32) (y3 : Int32) (y5 : Int32) (z0 : Int32) (z1 : Int32) (σ : Hp) : Prop :=
  vp_in z1 24 ∧ ∀ σ2, σ2 = sI σ 16 S (ix z1) z0 → vp_in y1 24 ∧ S_X0_memoryOf y1 (gI σ2 9 S (ix y1)) σ2 (fun r4 σ3 => vp_in r4 240 ∧ ∀ σ5, σ5 = sI σ3 18 S (ix r4) y3 → vp_in y1 24 ∧ ∀ σ6, σ6 = sI σ5 12 S (ix y1) y3 → vp_in y1 24 ∧ ∀ σ7, σ7 = sI σ6 13 S (ix y1) y5 → vp_in y1 24 ∧ ∀ σ8, σ8 = sI σ7 14 S (ix y1) y2 → vp_in y1 24 ∧ vp_in y1 24 ∧ ∀ σ9, σ9 = sI σ8 9 S (ix y1) ((gI σ8 9 S (ix y1)) + 1) → ∀ σ10, σ10 = sI σ9 0 S 0 ((gI σ9 0 S 0) + 1) → Q σ10)
def S_X0_take (S : Nat) (x1 : Int32) (x2 : Int32) (x3 : Int32) (x4 : Int32) (x5 : Int32) (σ : Hp) (Q : Hp → Prop) : Prop :=
  vp_in x1 24 ∧ vp_in x1 24 ∧ ∀ σ1, σ1 = sI σ 15 S (ix x1) (if (gI σ 15 S (ix x1)) < (x5 - x4) then (x5 - x4) else (gI σ 15 S (ix x1))) → vp_in x1 24 ∧ ((¬ (gI σ1 9 S (ix x1)) = 0 → vp_in x1 24 ∧ J_X0_take_54 Q S x1 x2 x3 x5 (if (x5 - x4) < (gI σ1 16 S (ix x1)) then (x5 - x4) else (gI σ1 16 S (ix x1))) x1 σ1) ∧ ((gI σ1 9 S (ix x1)) = 0 → J_X0_take_54 Q S x1 x2 x3 x5 (x5 - x4) x1 σ1))
set_option maxHeartbeats 2000000 in
set_option maxRecDepth 20000 in
theorem ok_X0_take (l : Launch) (g : Gm) (S : Nat) (hS : S < 3) (x1 : Int32) (x2 : Int32) (x3 : Int32) (x4 : Int32) (x5 : Int32) (σ : Hp) (Q : Hp → Prop) (h : S_X0_take S x1 x2 x3 x4 x5 σ Q) : Ct l g yX0_take cX0_take 7 none 1 [.ref (gad g 0 S), .int x1, .int x2, .int x3, .int x4, .int x5] σ (QV Q) := by
  refine Ct.of (by decide +kernel) (Nat.le_of_ble_eq_true rfl) ?_
  intro p e R s m args below meth c C
  have C : Cx g p R s m args meth c cX0_take 7 RX0 none 1 := C
  have j54 : ∀ (y1 : Int32) (y2 : Int32) (y3 : Int32) (y5 : Int32) (z0 : Int32) (z1 : Int32) (σ : Hp), J_X0_take_54 Q S y1 y2 y3 y5 z0 z1 σ → G g p l e R s m args below meth c (QV Q) 7 54 [(0, .ref (gad g 0 S)), (1, .int y1), (2, .int y2), (3, .int y3), (5, .int y5)] [.int z0, .int z1, .ref (gad g 16 S)] σ := by
    intro y1 y2 y3 y5 z0 z1 σ h
    unfold J_X0_take_54 at h
    obtain ⟨h0, h⟩ := h
    refine r_iastore C dX0_take_54 ak_16 (cn_16 hS) al_16 h0 ?_
    have h := h _ rfl
    refine r_aload_n C dX0_take_55 rfl 0 rfl ?_
    refine gf_0_43 C dX0_take_56 (cn_0 hS) ?_
    refine r_iload_n C dX0_take_59 rfl 1 rfl ?_
    refine r_aload_n C dX0_take_60 rfl 0 rfl ?_
    refine gf_0_15 C dX0_take_61 (cn_0 hS) ?_
    refine r_iload_n C dX0_take_64 rfl 1 rfl ?_
    obtain ⟨h0, h⟩ := h
    refine r_iaload C dX0_take_65 ak_9 (cn_9 hS) al_9 h0 ?_
    refine r_callSi [.ref (gad g 18 S)] C dX0_take_66 w_0_62 (ok_X0_memoryOf l g _ _ _ _ h) (Nat.le_of_ble_eq_true rfl) rfl rfl (Nat.le_of_ble_eq_true rfl) (fun r4 σ3 h => ?_)
    refine r_iload_n C dX0_take_69 rfl 3 rfl ?_
    obtain ⟨h0, h⟩ := h
    refine r_iastore C dX0_take_70 ak_18 (cn_18 hS) al_18 h0 ?_
    have h := h _ rfl
    refine r_aload_n C dX0_take_71 rfl 0 rfl ?_
    refine gf_0_25 C dX0_take_72 (cn_0 hS) ?_
    refine r_iload_n C dX0_take_75 rfl 1 rfl ?_
    refine r_iload_n C dX0_take_76 rfl 3 rfl ?_
    obtain ⟨h0, h⟩ := h
    refine r_iastore C dX0_take_77 ak_12 (cn_12 hS) al_12 h0 ?_
    have h := h _ rfl
    refine r_aload_n C dX0_take_78 rfl 0 rfl ?_
    refine gf_0_28 C dX0_take_79 (cn_0 hS) ?_
    refine r_iload_n C dX0_take_82 rfl 1 rfl ?_
    refine r_iload C dX0_take_83 4 rfl ?_
    obtain ⟨h0, h⟩ := h
    refine r_iastore C dX0_take_85 ak_13 (cn_13 hS) al_13 h0 ?_
    have h := h _ rfl
    refine r_aload_n C dX0_take_86 rfl 0 rfl ?_
    refine gf_0_31 C dX0_take_87 (cn_0 hS) ?_
    refine r_iload_n C dX0_take_90 rfl 1 rfl ?_
    refine r_iload_n C dX0_take_91 rfl 2 rfl ?_
    obtain ⟨h0, h⟩ := h
    refine r_iastore C dX0_take_92 ak_14 (cn_14 hS) al_14 h0 ?_
    have h := h _ rfl
    refine r_aload_n C dX0_take_93 rfl 0 rfl ?_
    refine gf_0_15 C dX0_take_94 (cn_0 hS) ?_
    refine r_iload_n C dX0_take_97 rfl 1 rfl ?_
    refine r_dup2 C dX0_take_98 rfl rfl ?_
    obtain ⟨h0, h⟩ := h
    refine r_iaload C dX0_take_99 ak_9 (cn_9 hS) al_9 h0 ?_
    refine r_iconst C dX0_take_100 ic_1 ?_
    refine r_iadd C dX0_take_101 ?_
    obtain ⟨h0, h⟩ := h
    refine r_iastore C dX0_take_102 ak_9 (cn_9 hS) al_9 h0 ?_
    have h := h _ rfl
    refine r_aload_n C dX0_take_103 rfl 0 rfl ?_
    refine r_dup C dX0_take_104 rfl ?_
    refine gf_0_9 C dX0_take_105 (cn_0 hS) ?_
    refine r_iconst C dX0_take_108 ic_1 ?_
    refine r_iadd C dX0_take_109 ?_
    refine pf_0_9 C dX0_take_110 (cn_0 hS) ?_
    have h := h _ rfl
    exact r_return C dX0_take_113 ⟨rfl, h⟩
  unfold S_X0_take at h
  show G g p l e R s m args below meth c (QV Q) 7 0 [(0, .ref (gad g 0 S)), (1, .int x1), (2, .int x2), (3, .int x3), (4, .int x4), (5, .int x5)] [] σ
  refine r_iload C dX0_take_0 5 rfl ?_
  refine r_iload C dX0_take_2 4 rfl ?_
  refine r_isub C dX0_take_4 ?_
  refine r_istore C dX0_take_5 (Nat.le_of_ble_eq_true rfl) rfl ?_
  refine r_aload_n C dX0_take_7 rfl 1 rfl ?_
  refine gf_0_34 C dX0_take_8 (cn_0 hS) ?_
  refine r_iload_n C dX0_take_11 rfl 2 rfl ?_
  refine r_aload_n C dX0_take_12 rfl 1 rfl ?_
  refine gf_0_34 C dX0_take_13 (cn_0 hS) ?_
  refine r_iload_n C dX0_take_16 rfl 2 rfl ?_
  obtain ⟨h0, h⟩ := h
  refine r_iaload C dX0_take_17 ak_15 (cn_15 hS) al_15 h0 ?_
  refine r_iload C dX0_take_18 0 rfl ?_
  refine r_max C dX0_take_20 u4_202 u4_158 u1_10 u4_159 (by decide) (Nat.le_of_ble_eq_true rfl) ?_
  obtain ⟨h0, h⟩ := h
  refine r_iastore C dX0_take_23 ak_15 (cn_15 hS) al_15 h0 ?_
  have h := h _ rfl
  refine r_aload_n C dX0_take_24 rfl 1 rfl ?_
  refine gf_0_37 C dX0_take_25 (cn_0 hS) ?_
  refine r_iload_n C dX0_take_28 rfl 2 rfl ?_
  refine r_aload_n C dX0_take_29 rfl 1 rfl ?_
  refine gf_0_15 C dX0_take_30 (cn_0 hS) ?_
  refine r_iload_n C dX0_take_33 rfl 2 rfl ?_
  obtain ⟨h0, h⟩ := h
  refine r_iaload C dX0_take_34 ak_9 (cn_9 hS) al_9 h0 ?_
  refine r_if_ne (tgt := 43) C dX0_take_35 rfl (fun q => ?_) (fun q => ?_)
  · have h := h.1 q
    refine r_aload_n C dX0_take_43 rfl 1 rfl ?_
    refine gf_0_37 C dX0_take_44 (cn_0 hS) ?_
    refine r_iload_n C dX0_take_47 rfl 2 rfl ?_
    obtain ⟨h0, h⟩ := h
    refine r_iaload C dX0_take_48 ak_16 (cn_16 hS) al_16 h0 ?_
    refine r_iload C dX0_take_49 0 rfl ?_
    refine r_min C dX0_take_51 u4_27 u2_188 u1_10 u2_189 (by decide) (Nat.le_of_ble_eq_true rfl) ?_
    refine r_sub [1, 2, 3, 4, 6] rfl ?_
    exact j54 _ _ _ _ _ _ _ h
  · have h := h.2 q
    refine r_iload C dX0_take_38 0 rfl ?_
    refine r_goto (tgt := 54) C dX0_take_40 rfl ?_
    refine r_sub [1, 2, 3, 4, 6] rfl ?_
    exact j54 _ _ _ _ _ _ _ h
def S_X0_hear (S : Nat) (P : Nat) (x2 : Int32) (x3 : Int32) (x4 : Int32) (x5 : Int32) (x6 : Int32) (σ : Hp) (Q : Hp → Prop) : Prop :=
  vp_in ((x2 * 2) + x3) 48 ∧ S_X0_isWhole (gI σ 17 S (ix ((x2 * 2) + x3))) x4 σ (fun r2 σ1 => vp_in ((x2 * 2) + x3) 48 ∧ ∀ σ3, σ3 = sI σ1 17 S (ix ((x2 * 2) + x3)) x4 → ((¬ r2 = 0 → S_X0_isFresh S P x2 x4 x6 σ3 (fun r5 σ4 => ((r5 = 0 → vp_in x2 24 ∧ vp_in x2 24 ∧ ∀ σ6, σ6 = sI σ4 11 S (ix x2) ((gI σ4 11 S (ix x2)) + 1) → Q σ6) ∧ (¬ r5 = 0 → S_X0_take S x2 x3 x4 x5 x6 σ4 (fun σ7 => Q σ7))))) ∧ (r2 = 0 → vp_in x2 24 ∧ vp_in x2 24 ∧ ∀ σ8, σ8 = sI σ3 10 S (ix x2) ((gI σ3 10 S (ix x2)) + 1) → Q σ8)))
set_option maxHeartbeats 2000000 in
set_option maxRecDepth 20000 in
theorem ok_X0_hear (l : Launch) (g : Gm) (S : Nat) (P : Nat) (hS : S < 3) (hP : P < 2) (x2 : Int32) (x3 : Int32) (x4 : Int32) (x5 : Int32) (x6 : Int32) (σ : Hp) (Q : Hp → Prop) (h : S_X0_hear S P x2 x3 x4 x5 x6 σ Q) : Ct l g yX0_hear cX0_hear 8 none 2 [.ref (gad g 0 S), .ref (gad g 2 P), .int x2, .int x3, .int x4, .int x5, .int x6] σ (QV Q) := by
  refine Ct.of (by decide +kernel) (Nat.le_of_ble_eq_true rfl) ?_
  intro p e R s m args below meth c C
  have C : Cx g p R s m args meth c cX0_hear 8 RX0 none 2 := C
  unfold S_X0_hear at h
  show G g p l e R s m args below meth c (QV Q) 8 0 [(0, .ref (gad g 0 S)), (1, .ref (gad g 2 P)), (2, .int x2), (3, .int x3), (4, .int x4), (5, .int x5), (6, .int x6)] [] σ
  refine r_aload_n C dX0_hear_0 rfl 0 rfl ?_
  refine gf_0_40 C dX0_hear_1 (cn_0 hS) ?_
  refine r_iload_n C dX0_hear_4 rfl 2 rfl ?_
  refine r_iconst C dX0_hear_5 ic_2 ?_
  refine r_imul C dX0_hear_6 ?_
  refine r_iload_n C dX0_hear_7 rfl 3 rfl ?_
  refine r_iadd C dX0_hear_8 ?_
  obtain ⟨h0, h⟩ := h
  refine r_iaload C dX0_hear_9 ak_17 (cn_17 hS) al_17 h0 ?_
  refine r_iload C dX0_hear_10 4 rfl ?_
  refine r_callSi [] C dX0_hear_12 w_0_68 (ok_X0_isWhole l g _ _ _ _ h) (Nat.le_of_ble_eq_true rfl) rfl rfl (Nat.le_of_ble_eq_true rfl) (fun r2 σ1 h => ?_)
  refine r_istore C dX0_hear_15 (Nat.le_of_ble_eq_true rfl) rfl ?_
  refine r_aload_n C dX0_hear_17 rfl 1 rfl ?_
  refine gf_0_40 C dX0_hear_18 (cn_0 hS) ?_
  refine r_iload_n C dX0_hear_21 rfl 3 rfl ?_
  refine r_iconst C dX0_hear_22 ic_2 ?_
  refine r_imul C dX0_hear_23 ?_
  refine r_iload_n C dX0_hear_24 rfl 4 rfl ?_
  refine r_iadd C dX0_hear_25 ?_
  refine r_iload C dX0_hear_26 5 rfl ?_
  obtain ⟨h0, h⟩ := h
  refine r_iastore C dX0_hear_28 ak_17 (cn_17 hS) al_17 h0 ?_
  have h := h _ rfl
  refine r_iload C dX0_hear_29 0 rfl ?_
  refine r_if_ne (tgt := 47) C dX0_hear_31 rfl (fun q => ?_) (fun q => ?_)
  · have h := h.1 q
    refine r_aload_n C dX0_hear_47 rfl 1 rfl ?_
    refine r_aload_n C dX0_hear_48 rfl 2 rfl ?_
    refine r_iload_n C dX0_hear_49 rfl 3 rfl ?_
    refine r_iload C dX0_hear_50 5 rfl ?_
    refine r_iload C dX0_hear_52 7 rfl ?_
    refine r_callVi [] C dX0_hear_54 w_0_72 (ok_X0_isFresh l g S P hS hP _ _ _ _ _ h) (Nat.le_of_ble_eq_true rfl) rfl rfl ak_0 (cn_0 hS) rfl rfl (Nat.le_of_ble_eq_true rfl) (fun r5 σ4 h => ?_)
    refine r_if_eq (tgt := 75) C dX0_hear_57 rfl (fun q => ?_) (fun q => ?_)
    · have h := h.1 q
      refine r_aload_n C dX0_hear_75 rfl 1 rfl ?_
      refine gf_0_22 C dX0_hear_76 (cn_0 hS) ?_
      refine r_iload_n C dX0_hear_79 rfl 3 rfl ?_
      refine r_dup2 C dX0_hear_80 rfl rfl ?_
      obtain ⟨h0, h⟩ := h
      refine r_iaload C dX0_hear_81 ak_11 (cn_11 hS) al_11 h0 ?_
      refine r_iconst C dX0_hear_82 ic_1 ?_
      refine r_iadd C dX0_hear_83 ?_
      obtain ⟨h0, h⟩ := h
      refine r_iastore C dX0_hear_84 ak_11 (cn_11 hS) al_11 h0 ?_
      have h := h _ rfl
      exact r_return C dX0_hear_85 ⟨rfl, h⟩
    · have h := h.2 q
      refine r_aload_n C dX0_hear_60 rfl 1 rfl ?_
      refine r_iload_n C dX0_hear_61 rfl 3 rfl ?_
      refine r_iload_n C dX0_hear_62 rfl 4 rfl ?_
      refine r_iload C dX0_hear_63 5 rfl ?_
      refine r_iload C dX0_hear_65 6 rfl ?_
      refine r_iload C dX0_hear_67 7 rfl ?_
      refine r_callVv [] C dX0_hear_69 w_0_76 (ok_X0_take l g S hS _ _ _ _ _ _ _ h) (Nat.le_of_ble_eq_true rfl) rfl rfl ak_0 (cn_0 hS) rfl rfl (Nat.le_of_ble_eq_true rfl) (fun σ7 h => ?_)
      refine r_goto (tgt := 85) C dX0_hear_72 rfl ?_
      exact r_return C dX0_hear_85 ⟨rfl, h⟩
  · have h := h.2 q
    refine r_aload_n C dX0_hear_34 rfl 1 rfl ?_
    refine gf_0_19 C dX0_hear_35 (cn_0 hS) ?_
    refine r_iload_n C dX0_hear_38 rfl 3 rfl ?_
    refine r_dup2 C dX0_hear_39 rfl rfl ?_
    obtain ⟨h0, h⟩ := h
    refine r_iaload C dX0_hear_40 ak_10 (cn_10 hS) al_10 h0 ?_
    refine r_iconst C dX0_hear_41 ic_1 ?_
    refine r_iadd C dX0_hear_42 ?_
    obtain ⟨h0, h⟩ := h
    refine r_iastore C dX0_hear_43 ak_10 (cn_10 hS) al_10 h0 ?_
    have h := h _ rfl
    refine r_goto (tgt := 85) C dX0_hear_44 rfl ?_
    exact r_return C dX0_hear_85 ⟨rfl, h⟩
def S_X6_uses (P : Nat) (x1 : Int32) (x2 : Int32) (σ : Hp) (Q : Int32 → Hp → Prop) : Prop :=
  vp_in x2 16 ∧ ((¬ (((gI σ 49 P (ix x2)) >>> (x1 &&& 31)) &&& 1) = 1 → Q 0 σ) ∧ ((((gI σ 49 P (ix x2)) >>> (x1 &&& 31)) &&& 1) = 1 → Q 1 σ))
set_option maxHeartbeats 2000000 in
set_option maxRecDepth 20000 in
theorem ok_X6_uses (l : Launch) (g : Gm) (P : Nat) (hP : P < 2) (x1 : Int32) (x2 : Int32) (σ : Hp) (Q : Int32 → Hp → Prop) (h : S_X6_uses P x1 x2 σ Q) : Ct l g yX6_uses cX6_uses 3 (some .boolean) 0 [.ref (gad g 6 P), .int x1, .int x2] σ (QI Q) := by
  refine Ct.of (by decide +kernel) (Nat.le_of_ble_eq_true rfl) ?_
  intro p e R s m args below meth c C
  have C : Cx g p R s m args meth c cX6_uses 3 RX6 (some .boolean) 0 := C
  unfold S_X6_uses at h
  show G g p l e R s m args below meth c (QI Q) 3 0 [(0, .ref (gad g 6 P)), (1, .int x1), (2, .int x2)] [] σ
  refine r_aload_n C dX6_uses_0 rfl 0 rfl ?_
  refine gf_6_18 C dX6_uses_1 (cn_6 hP) ?_
  refine r_iload_n C dX6_uses_4 rfl 2 rfl ?_
  obtain ⟨h0, h⟩ := h
  refine r_iaload C dX6_uses_5 ak_49 (cn_49 hP) al_49 h0 ?_
  refine r_iload_n C dX6_uses_6 rfl 1 rfl ?_
  refine r_ishr C dX6_uses_7 ?_
  refine r_iconst C dX6_uses_8 ic_1 ?_
  refine r_iand C dX6_uses_9 ?_
  refine r_iconst C dX6_uses_10 ic_1 ?_
  refine r_icmp_ne (tgt := 18) C dX6_uses_11 rfl (fun q => ?_) (fun q => ?_)
  · have h := h.1 q
    refine r_iconst C dX6_uses_18 ic_0 ?_
    exact r_zreturn C dX6_uses_19 zb0.1 ⟨_, rfl, h⟩
  · have h := h.2 q
    refine r_iconst C dX6_uses_14 ic_1 ?_
    refine r_goto (tgt := 19) C dX6_uses_15 rfl ?_
    exact r_zreturn C dX6_uses_19 zb1.1 ⟨_, rfl, h⟩
def J_X1_loadWith_71 (Q : Int32 → Hp → Prop) (kb : Int32 → Int32 → Hp → Prop) (K77 : Int32 → Hp → Prop) (P : Nat) (y1 : Int32) (y2 : Int32) (y3 : Int32) (y4 : Int32) (y5 : Int32) (σ : Hp) : Prop :=
  kb y4 (y5 + 1) σ
def J_X1_loadWith_32 (Q : Int32 → Hp → Prop) (kb : Int32 → Int32 → Hp → Prop) (K77 : Int32 → Hp → Prop) (P : Nat) (y1 : Int32) (y2 : Int32) (y3 : Int32) (y4 : Int32) (y5 : Int32) (z0 : Int32) (σ : Hp) : Prop :=
  S_X6_uses P y5 y1 σ (fun r2 σ1 => ((r2 = 0 → J_X1_loadWith_71 Q kb K77 P y1 y2 y3 y4 y5 σ1) ∧ (¬ r2 = 0 → ((z0 ≤ 0 → J_X1_loadWith_71 Q kb K77 P y1 y2 y3 y4 y5 σ1) ∧ (¬ z0 ≤ 0 → vp_in y5 8 ∧ ¬ z0 = 0 ∧ J_X1_loadWith_71 Q kb K77 P y1 y2 y3 (y4 + ((gI σ1 27 P (ix y5)) * (256 / z0))) y5 σ1)))))
def L_X1_loadWith_6 (Q : Int32 → Hp → Prop) (K77 : Int32 → Hp → Prop) (P : Nat) (y1 : Int32) (y2 : Int32) (y3 : Int32) : Nat → Int32 → Int32 → Hp → Prop
  | 0, _, _, _ => False
  | n + 1, y4, y5, σ =>
  (((gI σ 2 P 6) ≤ y5 → K77 y4 σ) ∧ (¬ (gI σ 2 P 6) ≤ y5 → ((¬ y5 = y2 → vp_in y5 8 ∧ J_X1_loadWith_32 Q (L_X1_loadWith_6 Q K77 P y1 y2 y3 n) K77 P y1 y2 y3 y4 y5 (gI σ 26 P (ix y5)) σ) ∧ (y5 = y2 → J_X1_loadWith_32 Q (L_X1_loadWith_6 Q K77 P y1 y2 y3 n) K77 P y1 y2 y3 y4 y5 y3 σ))))
def S_X1_loadWith (P : Nat) (x1 : Int32) (x2 : Int32) (x3 : Int32) (σ : Hp) (Q : Int32 → Hp → Prop) : Prop :=
  (∃ n3, L_X1_loadWith_6 Q (fun w5 σ4 => Q w5 σ4) P x1 x2 x3 n3 0 0 σ)
set_option maxHeartbeats 2000000 in
set_option maxRecDepth 20000 in
theorem ok_X1_loadWith (l : Launch) (g : Gm) (P : Nat) (hP : P < 2) (x1 : Int32) (x2 : Int32) (x3 : Int32) (σ : Hp) (Q : Int32 → Hp → Prop) (h : S_X1_loadWith P x1 x2 x3 σ Q) : Ct l g yX1_loadWith cX1_loadWith 7 (some .int) 1 [.ref (gad g 2 P), .int x1, .int x2, .int x3] σ (QI Q) := by
  refine Ct.of (by decide +kernel) (Nat.le_of_ble_eq_true rfl) ?_
  intro p e R s m args below meth c C
  have C : Cx g p R s m args meth c cX1_loadWith 7 RX1 (some .int) 1 := C
  have j71 : ∀ (kb : Int32 → Int32 → Hp → Prop) (K77 : Int32 → Hp → Prop) (y1 : Int32) (y2 : Int32) (y3 : Int32) (y4 : Int32) (y5 : Int32) (hkb : ∀ (v4 : Int32) (v5 : Int32) (σ : Hp), kb v4 v5 σ → G g p l e R s m args below meth c (QI Q) 7 6 [(0, .ref (gad g 2 P)), (1, .int y1), (2, .int y2), (3, .int y3), (4, .int v4), (5, .int v5)] [] σ) (hK77 : ∀ (v4 : Int32) (σ : Hp), K77 v4 σ → G g p l e R s m args below meth c (QI Q) 7 77 [(4, .int v4)] [] σ) (σ : Hp), J_X1_loadWith_71 Q kb K77 P y1 y2 y3 y4 y5 σ → G g p l e R s m args below meth c (QI Q) 7 71 [(0, .ref (gad g 2 P)), (1, .int y1), (2, .int y2), (3, .int y3), (4, .int y4), (5, .int y5)] [] σ := by
    intro kb K77 y1 y2 y3 y4 y5 hkb hK77 σ h
    unfold J_X1_loadWith_71 at h
    refine r_iinc (v := y5 + 1) C dX1_loadWith_71 5 rfl rfl (Nat.le_of_ble_eq_true rfl) rfl ?_
    refine r_goto (tgt := 6) C dX1_loadWith_74 rfl ?_
    refine r_sub [1, 2, 3, 4, 5, 0] rfl ?_
    exact hkb _ _ _ h
  have j32 : ∀ (kb : Int32 → Int32 → Hp → Prop) (K77 : Int32 → Hp → Prop) (y1 : Int32) (y2 : Int32) (y3 : Int32) (y4 : Int32) (y5 : Int32) (z0 : Int32) (hkb : ∀ (v4 : Int32) (v5 : Int32) (σ : Hp), kb v4 v5 σ → G g p l e R s m args below meth c (QI Q) 7 6 [(0, .ref (gad g 2 P)), (1, .int y1), (2, .int y2), (3, .int y3), (4, .int v4), (5, .int v5)] [] σ) (hK77 : ∀ (v4 : Int32) (σ : Hp), K77 v4 σ → G g p l e R s m args below meth c (QI Q) 7 77 [(4, .int v4)] [] σ) (σ : Hp), J_X1_loadWith_32 Q kb K77 P y1 y2 y3 y4 y5 z0 σ → G g p l e R s m args below meth c (QI Q) 7 32 [(0, .ref (gad g 2 P)), (1, .int y1), (2, .int y2), (3, .int y3), (4, .int y4), (5, .int y5)] [.int z0] σ := by
    intro kb K77 y1 y2 y3 y4 y5 z0 hkb hK77 σ h
    unfold J_X1_loadWith_32 at h
    refine r_istore C dX1_loadWith_32 (Nat.le_of_ble_eq_true rfl) rfl ?_
    refine r_aload_n C dX1_loadWith_34 rfl 1 rfl ?_
    refine gf_1_51 C dX1_loadWith_35 (cn_2 hP) ?_
    refine r_iload C dX1_loadWith_38 6 rfl ?_
    refine r_iload_n C dX1_loadWith_40 rfl 2 rfl ?_
    refine r_callVi [] C dX1_loadWith_41 w_1_55 (ok_X6_uses l g P hP _ _ _ _ h) (Nat.le_of_ble_eq_true rfl) rfl rfl ak_6 (cn_6 hP) rfl rfl (Nat.le_of_ble_eq_true rfl) (fun r2 σ1 h => ?_)
    refine r_if_eq (tgt := 71) C dX1_loadWith_44 rfl (fun q => ?_) (fun q => ?_)
    · have h := h.1 q
      refine r_sub [1, 2, 3, 4, 5, 6] rfl ?_
      exact j71 _ _ _ _ _ _ _ hkb hK77 _ h
    · have h := h.2 q
      refine r_iload C dX1_loadWith_47 0 rfl ?_
      refine r_if_le (tgt := 71) C dX1_loadWith_49 rfl (fun q => ?_) (fun q => ?_)
      · have h := h.1 q
        refine r_sub [1, 2, 3, 4, 5, 6] rfl ?_
        exact j71 _ _ _ _ _ _ _ hkb hK77 _ h
      · have h := h.2 q
        refine r_iload C dX1_loadWith_52 5 rfl ?_
        refine r_aload_n C dX1_loadWith_54 rfl 1 rfl ?_
        refine gf_1_61 C dX1_loadWith_55 (cn_2 hP) ?_
        refine r_iload C dX1_loadWith_58 6 rfl ?_
        obtain ⟨h0, h⟩ := h
        refine r_iaload C dX1_loadWith_60 ak_27 (cn_27 hP) al_27 h0 ?_
        refine r_sipush C dX1_loadWith_61 si_256 ?_
        refine r_iload C dX1_loadWith_64 0 rfl ?_
        obtain ⟨h0, h⟩ := h
        refine r_idiv C dX1_loadWith_66 h0 ?_
        refine r_imul C dX1_loadWith_67 ?_
        refine r_iadd C dX1_loadWith_68 ?_
        refine r_istore C dX1_loadWith_69 (Nat.le_of_ble_eq_true rfl) rfl ?_
        refine r_sub [2, 3, 4, 5, 0, 6] rfl ?_
        exact j71 _ _ _ _ _ _ _ hkb hK77 _ h
  have l6 : ∀ (K77 : Int32 → Hp → Prop) (y1 : Int32) (y2 : Int32) (y3 : Int32) (hK77 : ∀ (v4 : Int32) (σ : Hp), K77 v4 σ → G g p l e R s m args below meth c (QI Q) 7 77 [(4, .int v4)] [] σ) (n : Nat) (y4 : Int32) (y5 : Int32) (σ : Hp), L_X1_loadWith_6 Q K77 P y1 y2 y3 n y4 y5 σ → G g p l e R s m args below meth c (QI Q) 7 6 [(0, .ref (gad g 2 P)), (1, .int y1), (2, .int y2), (3, .int y3), (4, .int y4), (5, .int y5)] [] σ := by
    intro K77 y1 y2 y3 hK77 n
    induction n with
    | zero => intro y4 y5 σ h; exact False.elim h
    | succ n ih =>
      intro y4 y5 σ h
      unfold L_X1_loadWith_6 at h
      refine r_iload C dX1_loadWith_6 5 rfl ?_
      refine r_aload_n C dX1_loadWith_8 rfl 0 rfl ?_
      refine gf_1_42 C dX1_loadWith_9 (cn_2 hP) ?_
      refine r_icmp_ge (tgt := 77) C dX1_loadWith_12 rfl (fun q => ?_) (fun q => ?_)
      · have h := h.1 q
        refine r_sub [4] rfl ?_
        exact hK77 _ _ h
      · have h := h.2 q
        refine r_iload C dX1_loadWith_15 5 rfl ?_
        refine r_iload_n C dX1_loadWith_17 rfl 2 rfl ?_
        refine r_icmp_ne (tgt := 25) C dX1_loadWith_18 rfl (fun q => ?_) (fun q => ?_)
        · have h := h.1 q
          refine r_aload_n C dX1_loadWith_25 rfl 0 rfl ?_
          refine gf_1_48 C dX1_loadWith_26 (cn_2 hP) ?_
          refine r_iload C dX1_loadWith_29 5 rfl ?_
          obtain ⟨h0, h⟩ := h
          refine r_iaload C dX1_loadWith_31 ak_26 (cn_26 hP) al_26 h0 ?_
          exact j32 _ _ _ _ _ _ _ _ ih hK77 _ h
        · have h := h.2 q
          refine r_iload_n C dX1_loadWith_21 rfl 3 rfl ?_
          refine r_goto (tgt := 32) C dX1_loadWith_22 rfl ?_
          exact j32 _ _ _ _ _ _ _ _ ih hK77 _ h
  unfold S_X1_loadWith at h
  show G g p l e R s m args below meth c (QI Q) 7 0 [(0, .ref (gad g 2 P)), (1, .int x1), (2, .int x2), (3, .int x3)] [] σ
  refine r_iconst C dX1_loadWith_0 ic_0 ?_
  refine r_istore C dX1_loadWith_1 (Nat.le_of_ble_eq_true rfl) rfl ?_
  refine r_iconst C dX1_loadWith_3 ic_0 ?_
  refine r_istore C dX1_loadWith_4 (Nat.le_of_ble_eq_true rfl) rfl ?_
  refine r_sub [2, 3, 4, 5, 1, 0] rfl ?_
  obtain ⟨n3, h⟩ := h
  refine l6 _ _ _ _ (fun w5 σ4 h => ?_) n3 _ _ _ h
  refine r_iload C dX1_loadWith_77 0 rfl ?_
  exact r_ireturn C dX1_loadWith_79 ⟨_, rfl, h⟩
def J_X1_lengthsThrough_38 (Q : Int64 → Hp → Prop) (kb : Int64 → Int32 → Hp → Prop) (K44 : Int64 → Hp → Prop) (P : Nat) (y1 : Int32) (y2 : Int64) (y4 : Int32) (σ : Hp) : Prop :=
  kb y2 (y4 + 1) σ
def L_X1_lengthsThrough_5 (Q : Int64 → Hp → Prop) (K44 : Int64 → Hp → Prop) (P : Nat) (y1 : Int32) : Nat → Int64 → Int32 → Hp → Prop
  | 0, _, _, _ => False
  | n + 1, y2, y4, σ =>
  (((gI σ 2 P 6) ≤ y4 → K44 y2 σ) ∧ (¬ (gI σ 2 P 6) ≤ y4 → S_X6_uses P y4 y1 σ (fun r2 σ1 => ((r2 = 0 → J_X1_lengthsThrough_38 Q (L_X1_lengthsThrough_5 Q K44 P y1 n) K44 P y1 y2 y4 σ1) ∧ (¬ r2 = 0 → vp_in y4 8 ∧ J_X1_lengthsThrough_38 Q (L_X1_lengthsThrough_5 Q K44 P y1 n) K44 P y1 (y2 + ((gI σ1 27 P (ix y4)).toInt64)) y4 σ1)))))
def S_X1_lengthsThrough (P : Nat) (x1 : Int32) (σ : Hp) (Q : Int64 → Hp → Prop) : Prop :=
  (∃ n3, L_X1_lengthsThrough_5 Q (fun w5 σ4 => Q w5 σ4) P x1 n3 0 0 σ)
set_option maxHeartbeats 2000000 in
set_option maxRecDepth 20000 in
theorem ok_X1_lengthsThrough (l : Launch) (g : Gm) (P : Nat) (hP : P < 2) (x1 : Int32) (σ : Hp) (Q : Int64 → Hp → Prop) (h : S_X1_lengthsThrough P x1 σ Q) : Ct l g yX1_lengthsThrough cX1_lengthsThrough 5 (some .long) 1 [.ref (gad g 2 P), .int x1] σ (QL Q) := by
  refine Ct.of (by decide +kernel) (Nat.le_of_ble_eq_true rfl) ?_
  intro p e R s m args below meth c C
  have C : Cx g p R s m args meth c cX1_lengthsThrough 5 RX1 (some .long) 1 := C
  have j38 : ∀ (kb : Int64 → Int32 → Hp → Prop) (K44 : Int64 → Hp → Prop) (y1 : Int32) (y2 : Int64) (y4 : Int32) (hkb : ∀ (v2 : Int64) (v4 : Int32) (σ : Hp), kb v2 v4 σ → G g p l e R s m args below meth c (QL Q) 5 5 [(0, .ref (gad g 2 P)), (1, .int y1), (2, .long v2), (4, .int v4)] [] σ) (hK44 : ∀ (v2 : Int64) (σ : Hp), K44 v2 σ → G g p l e R s m args below meth c (QL Q) 5 44 [(2, .long v2)] [] σ) (σ : Hp), J_X1_lengthsThrough_38 Q kb K44 P y1 y2 y4 σ → G g p l e R s m args below meth c (QL Q) 5 38 [(0, .ref (gad g 2 P)), (1, .int y1), (2, .long y2), (4, .int y4)] [] σ := by
    intro kb K44 y1 y2 y4 hkb hK44 σ h
    unfold J_X1_lengthsThrough_38 at h
    refine r_iinc (v := y4 + 1) C dX1_lengthsThrough_38 3 rfl rfl (Nat.le_of_ble_eq_true rfl) rfl ?_
    refine r_goto (tgt := 5) C dX1_lengthsThrough_41 rfl ?_
    refine r_sub [1, 2, 3, 0] rfl ?_
    exact hkb _ _ _ h
  have l5 : ∀ (K44 : Int64 → Hp → Prop) (y1 : Int32) (hK44 : ∀ (v2 : Int64) (σ : Hp), K44 v2 σ → G g p l e R s m args below meth c (QL Q) 5 44 [(2, .long v2)] [] σ) (n : Nat) (y2 : Int64) (y4 : Int32) (σ : Hp), L_X1_lengthsThrough_5 Q K44 P y1 n y2 y4 σ → G g p l e R s m args below meth c (QL Q) 5 5 [(0, .ref (gad g 2 P)), (1, .int y1), (2, .long y2), (4, .int y4)] [] σ := by
    intro K44 y1 hK44 n
    induction n with
    | zero => intro y2 y4 σ h; exact False.elim h
    | succ n ih =>
      intro y2 y4 σ h
      unfold L_X1_lengthsThrough_5 at h
      refine r_iload C dX1_lengthsThrough_5 3 rfl ?_
      refine r_aload_n C dX1_lengthsThrough_7 rfl 0 rfl ?_
      refine gf_1_42 C dX1_lengthsThrough_8 (cn_2 hP) ?_
      refine r_icmp_ge (tgt := 44) C dX1_lengthsThrough_11 rfl (fun q => ?_) (fun q => ?_)
      · have h := h.1 q
        refine r_sub [2] rfl ?_
        exact hK44 _ _ h
      · have h := h.2 q
        refine r_aload_n C dX1_lengthsThrough_14 rfl 0 rfl ?_
        refine gf_1_51 C dX1_lengthsThrough_15 (cn_2 hP) ?_
        refine r_iload C dX1_lengthsThrough_18 3 rfl ?_
        refine r_iload_n C dX1_lengthsThrough_20 rfl 1 rfl ?_
        refine r_callVi [] C dX1_lengthsThrough_21 w_1_55 (ok_X6_uses l g P hP _ _ _ _ h) (Nat.le_of_ble_eq_true rfl) rfl rfl ak_6 (cn_6 hP) rfl rfl (Nat.le_of_ble_eq_true rfl) (fun r2 σ1 h => ?_)
        refine r_if_eq (tgt := 38) C dX1_lengthsThrough_24 rfl (fun q => ?_) (fun q => ?_)
        · have h := h.1 q
          exact j38 _ _ _ _ _ ih hK44 _ h
        · have h := h.2 q
          refine r_lload_n C dX1_lengthsThrough_27 rfl 2 rfl ?_
          refine r_aload_n C dX1_lengthsThrough_28 rfl 0 rfl ?_
          refine gf_1_61 C dX1_lengthsThrough_29 (cn_2 hP) ?_
          refine r_iload C dX1_lengthsThrough_32 3 rfl ?_
          obtain ⟨h0, h⟩ := h
          refine r_iaload C dX1_lengthsThrough_34 ak_27 (cn_27 hP) al_27 h0 ?_
          refine r_i2l C dX1_lengthsThrough_35 ?_
          refine r_ladd C dX1_lengthsThrough_36 ?_
          refine r_lstore_n C dX1_lengthsThrough_37 rfl (Nat.le_of_ble_eq_true rfl) rfl ?_
          refine r_sub [1, 2, 0, 3] rfl ?_
          exact j38 _ _ _ _ _ ih hK44 _ h
  unfold S_X1_lengthsThrough at h
  show G g p l e R s m args below meth c (QL Q) 5 0 [(0, .ref (gad g 2 P)), (1, .int x1)] [] σ
  refine r_lconst (v := 0) C dX1_lengthsThrough_0 rfl ?_
  refine r_lstore_n C dX1_lengthsThrough_1 rfl (Nat.le_of_ble_eq_true rfl) rfl ?_
  refine r_iconst C dX1_lengthsThrough_2 ic_0 ?_
  refine r_istore C dX1_lengthsThrough_3 (Nat.le_of_ble_eq_true rfl) rfl ?_
  refine r_sub [2, 3, 1, 0] rfl ?_
  obtain ⟨n3, h⟩ := h
  refine l5 _ _ (fun w5 σ4 h => ?_) n3 _ _ _ h
  refine r_lload_n C dX1_lengthsThrough_44 rfl 0 rfl ?_
  exact r_lreturn C dX1_lengthsThrough_45 ⟨_, rfl, h⟩
def S_X1_perGap (P : Nat) (x1 : Int32) (x2 : Int64) (σ : Hp) (Q : Int64 → Hp → Prop) : Prop :=
  vp_in x1 8 ∧ (((gI σ 26 P (ix x1)) ≤ 0 → Q 0 σ) ∧ (¬ (gI σ 26 P (ix x1)) ≤ 0 → vp_in x1 8 ∧ ¬ ((gI σ 26 P (ix x1)).toInt64) = 0 ∧ Q ((((gI σ 27 P (ix x1)).toInt64) * x2) / ((gI σ 26 P (ix x1)).toInt64)) σ))
set_option maxHeartbeats 2000000 in
set_option maxRecDepth 20000 in
theorem ok_X1_perGap (l : Launch) (g : Gm) (P : Nat) (hP : P < 2) (x1 : Int32) (x2 : Int64) (σ : Hp) (Q : Int64 → Hp → Prop) (h : S_X1_perGap P x1 x2 σ Q) : Ct l g yX1_perGap cX1_perGap 5 (some .long) 0 [.ref (gad g 2 P), .int x1, .long x2] σ (QL Q) := by
  refine Ct.of (by decide +kernel) (Nat.le_of_ble_eq_true rfl) ?_
  intro p e R s m args below meth c C
  have C : Cx g p R s m args meth c cX1_perGap 5 RX1 (some .long) 0 := C
  unfold S_X1_perGap at h
  show G g p l e R s m args below meth c (QL Q) 5 0 [(0, .ref (gad g 2 P)), (1, .int x1), (2, .long x2)] [] σ
  refine r_aload_n C dX1_perGap_0 rfl 0 rfl ?_
  refine gf_1_48 C dX1_perGap_1 (cn_2 hP) ?_
  refine r_iload_n C dX1_perGap_4 rfl 1 rfl ?_
  obtain ⟨h0, h⟩ := h
  refine r_iaload C dX1_perGap_5 ak_26 (cn_26 hP) al_26 h0 ?_
  refine r_istore C dX1_perGap_6 (Nat.le_of_ble_eq_true rfl) rfl ?_
  refine r_iload C dX1_perGap_8 0 rfl ?_
  refine r_if_le (tgt := 29) C dX1_perGap_10 rfl (fun q => ?_) (fun q => ?_)
  · have h := h.1 q
    refine r_lconst (v := 0) C dX1_perGap_29 rfl ?_
    exact r_lreturn C dX1_perGap_30 ⟨_, rfl, h⟩
  · have h := h.2 q
    refine r_aload_n C dX1_perGap_13 rfl 1 rfl ?_
    refine gf_1_61 C dX1_perGap_14 (cn_2 hP) ?_
    refine r_iload_n C dX1_perGap_17 rfl 2 rfl ?_
    obtain ⟨h0, h⟩ := h
    refine r_iaload C dX1_perGap_18 ak_27 (cn_27 hP) al_27 h0 ?_
    refine r_i2l C dX1_perGap_19 ?_
    refine r_lload_n C dX1_perGap_20 rfl 3 rfl ?_
    refine r_lmul C dX1_perGap_21 ?_
    refine r_iload C dX1_perGap_22 0 rfl ?_
    refine r_i2l C dX1_perGap_24 ?_
    obtain ⟨h0, h⟩ := h
    refine r_ldiv C dX1_perGap_25 h0 ?_
    refine r_goto (tgt := 30) C dX1_perGap_26 rfl ?_
    exact r_lreturn C dX1_perGap_30 ⟨_, rfl, h⟩
def S_X1_burstAt (P : Nat) (x2 : Int32) (x3 : Int32) (σ : Hp) (Q : Int64 → Hp → Prop) : Prop :=
  vp_in ((x2 * 16) + x3) 128 ∧ (((6 : Int32) ≤ (gI σ 51 P (ix ((x2 * 16) + x3))) → vp_in ((x2 * 16) + (gI σ 51 P (ix ((x2 * 16) + x3)))) 128 ∧ vp_in (gI σ 51 P (ix ((x2 * 16) + x3))) 16 ∧ S_X1_perGap P x2 (gL σ 20 0 (ix (gI σ 51 P (ix ((x2 * 16) + x3))))) σ (fun r2 σ1 => Q ((gL σ 21 0 (ix ((x2 * 16) + (gI σ 51 P (ix ((x2 * 16) + x3)))))) + r2) σ1)) ∧ (¬ (6 : Int32) ≤ (gI σ 51 P (ix ((x2 * 16) + x3))) → vp_in x2 8 ∧ S_X1_perGap P x2 (((gI σ 2 P 2).toInt64) * 16777216) σ (fun r4 σ3 => Q ((((gI σ 27 P (ix x2)).toInt64) * 16777216) + r4) σ3)))
set_option maxHeartbeats 2000000 in
set_option maxRecDepth 20000 in
theorem ok_X1_burstAt (l : Launch) (g : Gm) (P : Nat) (hP : P < 2) (x2 : Int32) (x3 : Int32) (σ : Hp) (Q : Int64 → Hp → Prop) (h : S_X1_burstAt P x2 x3 σ Q) : Ct l g yX1_burstAt cX1_burstAt 5 (some .long) 1 [.ref (gad g 1 0), .ref (gad g 2 P), .int x2, .int x3] σ (QL Q) := by
  refine Ct.of (by decide +kernel) (Nat.le_of_ble_eq_true rfl) ?_
  intro p e R s m args below meth c C
  have C : Cx g p R s m args meth c cX1_burstAt 5 RX1 (some .long) 1 := C
  unfold S_X1_burstAt at h
  show G g p l e R s m args below meth c (QL Q) 5 0 [(0, .ref (gad g 1 0)), (1, .ref (gad g 2 P)), (2, .int x2), (3, .int x3)] [] σ
  refine r_aload_n C dX1_burstAt_0 rfl 1 rfl ?_
  refine gf_1_51 C dX1_burstAt_1 (cn_2 hP) ?_
  refine gf_1_68 C dX1_burstAt_4 (cn_6 hP) ?_
  refine r_iload_n C dX1_burstAt_7 rfl 2 rfl ?_
  refine r_bipush C dX1_burstAt_8 bi_16 ?_
  refine r_imul C dX1_burstAt_10 ?_
  refine r_iload_n C dX1_burstAt_11 rfl 3 rfl ?_
  refine r_iadd C dX1_burstAt_12 ?_
  obtain ⟨h0, h⟩ := h
  refine r_iaload C dX1_burstAt_13 ak_51 (cn_51 hP) al_51 h0 ?_
  refine r_istore C dX1_burstAt_14 (Nat.le_of_ble_eq_true rfl) rfl ?_
  refine r_iload C dX1_burstAt_16 0 rfl ?_
  refine r_bipush C dX1_burstAt_18 bi_6 ?_
  refine r_icmp_ge (tgt := 50) C dX1_burstAt_20 rfl (fun q => ?_) (fun q => ?_)
  · have h := h.1 q
    refine r_aload_n C dX1_burstAt_50 rfl 1 rfl ?_
    refine gf_1_23 C dX1_burstAt_51 (cn_1 (by decide)) ?_
    refine r_iload_n C dX1_burstAt_54 rfl 3 rfl ?_
    refine r_bipush C dX1_burstAt_55 bi_16 ?_
    refine r_imul C dX1_burstAt_57 ?_
    refine r_iload C dX1_burstAt_58 0 rfl ?_
    refine r_iadd C dX1_burstAt_60 ?_
    obtain ⟨h0, h⟩ := h
    refine r_laload C dX1_burstAt_61 ak_21 (cn_21 (by decide)) al_21 h0 ?_
    refine r_aload_n C dX1_burstAt_62 rfl 2 rfl ?_
    refine r_iload_n C dX1_burstAt_63 rfl 3 rfl ?_
    refine r_aload_n C dX1_burstAt_64 rfl 1 rfl ?_
    refine gf_1_19 C dX1_burstAt_65 (cn_1 (by decide)) ?_
    refine r_iload C dX1_burstAt_68 0 rfl ?_
    obtain ⟨h0, h⟩ := h
    refine r_laload C dX1_burstAt_70 ak_20 (cn_20 (by decide)) al_20 h0 ?_
    refine r_callSl [.long _] C dX1_burstAt_71 w_1_74 (ok_X1_perGap l g P hP _ _ _ _ h) (Nat.le_of_ble_eq_true rfl) rfl rfl (Nat.le_of_ble_eq_true rfl) (fun r2 σ1 h => ?_)
    refine r_ladd C dX1_burstAt_74 ?_
    exact r_lreturn C dX1_burstAt_75 ⟨_, rfl, h⟩
  · have h := h.2 q
    refine r_aload_n C dX1_burstAt_23 rfl 2 rfl ?_
    refine gf_1_61 C dX1_burstAt_24 (cn_2 hP) ?_
    refine r_iload_n C dX1_burstAt_27 rfl 3 rfl ?_
    obtain ⟨h0, h⟩ := h
    refine r_iaload C dX1_burstAt_28 ak_27 (cn_27 hP) al_27 h0 ?_
    refine r_i2l C dX1_burstAt_29 ?_
    refine r_ldc2 (v := 16777216) C dX1_burstAt_30 u3_102 ?_
    refine r_lmul C dX1_burstAt_33 ?_
    refine r_aload_n C dX1_burstAt_34 rfl 2 rfl ?_
    refine r_iload_n C dX1_burstAt_35 rfl 3 rfl ?_
    refine r_aload_n C dX1_burstAt_36 rfl 2 rfl ?_
    refine gf_1_71 C dX1_burstAt_37 (cn_2 hP) ?_
    refine r_i2l C dX1_burstAt_40 ?_
    refine r_ldc2 (v := 16777216) C dX1_burstAt_41 u3_102 ?_
    refine r_lmul C dX1_burstAt_44 ?_
    refine r_callSl [.long _] C dX1_burstAt_45 w_1_74 (ok_X1_perGap l g P hP _ _ _ _ h) (Nat.le_of_ble_eq_true rfl) rfl rfl (Nat.le_of_ble_eq_true rfl) (fun r4 σ3 h => ?_)
    refine r_ladd C dX1_burstAt_48 ?_
    exact r_lreturn C dX1_burstAt_49 ⟨_, rfl, h⟩
def J_X1_burstsThrough_62 (Q : Int64 → Hp → Prop) (kb : Int64 → Int32 → Hp → Prop) (K68 : Int64 → Hp → Prop) (P : Nat) (y2 : Int32) (y3 : Int64) (y5 : Int32) (σ : Hp) : Prop :=
  kb y3 (y5 + 1) σ
def L_X1_burstsThrough_5 (Q : Int64 → Hp → Prop) (K68 : Int64 → Hp → Prop) (P : Nat) (y2 : Int32) : Nat → Int64 → Int32 → Hp → Prop
  | 0, _, _, _ => False
  | n + 1, y3, y5, σ =>
  (((gI σ 2 P 6) ≤ y5 → K68 y3 σ) ∧ (¬ (gI σ 2 P 6) ≤ y5 → S_X6_uses P y5 y2 σ (fun r2 σ1 => ((r2 = 0 → J_X1_burstsThrough_62 Q (L_X1_burstsThrough_5 Q K68 P y2 n) K68 P y2 y3 y5 σ1) ∧ (¬ r2 = 0 → S_X1_burstAt P y5 y2 σ1 (fun r4 σ3 => vp_in ((y5 * 16) + y2) 128 ∧ ∀ σ5, σ5 = sL σ3 21 0 (ix ((y5 * 16) + y2)) r4 → vp_in ((y5 * 16) + y2) 128 ∧ J_X1_burstsThrough_62 Q (L_X1_burstsThrough_5 Q K68 P y2 n) K68 P y2 (y3 + (gL σ5 21 0 (ix ((y5 * 16) + y2)))) y5 σ5))))))
def S_X1_burstsThrough (P : Nat) (x2 : Int32) (σ : Hp) (Q : Int64 → Hp → Prop) : Prop :=
  (∃ n6, L_X1_burstsThrough_5 Q (fun w8 σ7 => Q w8 σ7) P x2 n6 0 0 σ)
set_option maxHeartbeats 2000000 in
set_option maxRecDepth 20000 in
theorem ok_X1_burstsThrough (l : Launch) (g : Gm) (P : Nat) (hP : P < 2) (x2 : Int32) (σ : Hp) (Q : Int64 → Hp → Prop) (h : S_X1_burstsThrough P x2 σ Q) : Ct l g yX1_burstsThrough cX1_burstsThrough 6 (some .long) 2 [.ref (gad g 1 0), .ref (gad g 2 P), .int x2] σ (QL Q) := by
  refine Ct.of (by decide +kernel) (Nat.le_of_ble_eq_true rfl) ?_
  intro p e R s m args below meth c C
  have C : Cx g p R s m args meth c cX1_burstsThrough 6 RX1 (some .long) 2 := C
  have j62 : ∀ (kb : Int64 → Int32 → Hp → Prop) (K68 : Int64 → Hp → Prop) (y2 : Int32) (y3 : Int64) (y5 : Int32) (hkb : ∀ (v3 : Int64) (v5 : Int32) (σ : Hp), kb v3 v5 σ → G g p l e R s m args below meth c (QL Q) 6 5 [(0, .ref (gad g 1 0)), (1, .ref (gad g 2 P)), (2, .int y2), (3, .long v3), (5, .int v5)] [] σ) (hK68 : ∀ (v3 : Int64) (σ : Hp), K68 v3 σ → G g p l e R s m args below meth c (QL Q) 6 68 [(3, .long v3)] [] σ) (σ : Hp), J_X1_burstsThrough_62 Q kb K68 P y2 y3 y5 σ → G g p l e R s m args below meth c (QL Q) 6 62 [(0, .ref (gad g 1 0)), (1, .ref (gad g 2 P)), (2, .int y2), (3, .long y3), (5, .int y5)] [] σ := by
    intro kb K68 y2 y3 y5 hkb hK68 σ h
    unfold J_X1_burstsThrough_62 at h
    refine r_iinc (v := y5 + 1) C dX1_burstsThrough_62 4 rfl rfl (Nat.le_of_ble_eq_true rfl) rfl ?_
    refine r_goto (tgt := 5) C dX1_burstsThrough_65 rfl ?_
    refine r_sub [1, 2, 3, 4, 0] rfl ?_
    exact hkb _ _ _ h
  have l5 : ∀ (K68 : Int64 → Hp → Prop) (y2 : Int32) (hK68 : ∀ (v3 : Int64) (σ : Hp), K68 v3 σ → G g p l e R s m args below meth c (QL Q) 6 68 [(3, .long v3)] [] σ) (n : Nat) (y3 : Int64) (y5 : Int32) (σ : Hp), L_X1_burstsThrough_5 Q K68 P y2 n y3 y5 σ → G g p l e R s m args below meth c (QL Q) 6 5 [(0, .ref (gad g 1 0)), (1, .ref (gad g 2 P)), (2, .int y2), (3, .long y3), (5, .int y5)] [] σ := by
    intro K68 y2 hK68 n
    induction n with
    | zero => intro y3 y5 σ h; exact False.elim h
    | succ n ih =>
      intro y3 y5 σ h
      unfold L_X1_burstsThrough_5 at h
      refine r_iload C dX1_burstsThrough_5 4 rfl ?_
      refine r_aload_n C dX1_burstsThrough_7 rfl 1 rfl ?_
      refine gf_1_42 C dX1_burstsThrough_8 (cn_2 hP) ?_
      refine r_icmp_ge (tgt := 68) C dX1_burstsThrough_11 rfl (fun q => ?_) (fun q => ?_)
      · have h := h.1 q
        refine r_sub [3] rfl ?_
        exact hK68 _ _ h
      · have h := h.2 q
        refine r_aload_n C dX1_burstsThrough_14 rfl 1 rfl ?_
        refine gf_1_51 C dX1_burstsThrough_15 (cn_2 hP) ?_
        refine r_iload C dX1_burstsThrough_18 4 rfl ?_
        refine r_iload_n C dX1_burstsThrough_20 rfl 2 rfl ?_
        refine r_callVi [] C dX1_burstsThrough_21 w_1_55 (ok_X6_uses l g P hP _ _ _ _ h) (Nat.le_of_ble_eq_true rfl) rfl rfl ak_6 (cn_6 hP) rfl rfl (Nat.le_of_ble_eq_true rfl) (fun r2 σ1 h => ?_)
        refine r_if_eq (tgt := 62) C dX1_burstsThrough_24 rfl (fun q => ?_) (fun q => ?_)
        · have h := h.1 q
          exact j62 _ _ _ _ _ ih hK68 _ h
        · have h := h.2 q
          refine r_aload_n C dX1_burstsThrough_27 rfl 0 rfl ?_
          refine gf_1_23 C dX1_burstsThrough_28 (cn_1 (by decide)) ?_
          refine r_iload C dX1_burstsThrough_31 4 rfl ?_
          refine r_bipush C dX1_burstsThrough_33 bi_16 ?_
          refine r_imul C dX1_burstsThrough_35 ?_
          refine r_iload_n C dX1_burstsThrough_36 rfl 2 rfl ?_
          refine r_iadd C dX1_burstsThrough_37 ?_
          refine r_aload_n C dX1_burstsThrough_38 rfl 0 rfl ?_
          refine r_aload_n C dX1_burstsThrough_39 rfl 1 rfl ?_
          refine r_iload C dX1_burstsThrough_40 4 rfl ?_
          refine r_iload_n C dX1_burstsThrough_42 rfl 2 rfl ?_
          refine r_callVl [.int _, .ref (gad g 21 0)] C dX1_burstsThrough_43 w_1_64 (ok_X1_burstAt l g P hP _ _ _ _ h) (Nat.le_of_ble_eq_true rfl) rfl rfl ak_1 (cn_1 (by decide)) rfl rfl (Nat.le_of_ble_eq_true rfl) (fun r4 σ3 h => ?_)
          obtain ⟨h0, h⟩ := h
          refine r_lastore C dX1_burstsThrough_46 ak_21 (cn_21 (by decide)) al_21 h0 ?_
          have h := h _ rfl
          refine r_lload_n C dX1_burstsThrough_47 rfl 3 rfl ?_
          refine r_aload_n C dX1_burstsThrough_48 rfl 0 rfl ?_
          refine gf_1_23 C dX1_burstsThrough_49 (cn_1 (by decide)) ?_
          refine r_iload C dX1_burstsThrough_52 4 rfl ?_
          refine r_bipush C dX1_burstsThrough_54 bi_16 ?_
          refine r_imul C dX1_burstsThrough_56 ?_
          refine r_iload_n C dX1_burstsThrough_57 rfl 2 rfl ?_
          refine r_iadd C dX1_burstsThrough_58 ?_
          obtain ⟨h0, h⟩ := h
          refine r_laload C dX1_burstsThrough_59 ak_21 (cn_21 (by decide)) al_21 h0 ?_
          refine r_ladd C dX1_burstsThrough_60 ?_
          refine r_lstore_n C dX1_burstsThrough_61 rfl (Nat.le_of_ble_eq_true rfl) rfl ?_
          refine r_sub [1, 2, 3, 0, 4] rfl ?_
          exact j62 _ _ _ _ _ ih hK68 _ h
  unfold S_X1_burstsThrough at h
  show G g p l e R s m args below meth c (QL Q) 6 0 [(0, .ref (gad g 1 0)), (1, .ref (gad g 2 P)), (2, .int x2)] [] σ
  refine r_lconst (v := 0) C dX1_burstsThrough_0 rfl ?_
  refine r_lstore_n C dX1_burstsThrough_1 rfl (Nat.le_of_ble_eq_true rfl) rfl ?_
  refine r_iconst C dX1_burstsThrough_2 ic_0 ?_
  refine r_istore C dX1_burstsThrough_3 (Nat.le_of_ble_eq_true rfl) rfl ?_
  refine r_sub [2, 3, 4, 1, 0] rfl ?_
  obtain ⟨n6, h⟩ := h
  refine l5 _ _ (fun w8 σ7 h => ?_) n6 _ _ _ h
  refine r_lload_n C dX1_burstsThrough_68 rfl 0 rfl ?_
  exact r_lreturn C dX1_burstsThrough_69 ⟨_, rfl, h⟩
def J_X1_measure_51 (Q : Hp → Prop) (kb : Int32 → Hp → Prop) (K60 : Hp → Prop) (P : Nat) (y2 : Int32) (z0 : Int32) (σ : Hp) : Prop :=
  zb z0 ∧ ∀ σ5, σ5 = sI σ 1 0 0 z0 → kb (y2 + 1) σ5
def J_X1_measure_46 (Q : Hp → Prop) (kb : Int32 → Hp → Prop) (K60 : Hp → Prop) (P : Nat) (y2 : Int32) (σ : Hp) : Prop :=
  J_X1_measure_51 Q kb K60 P y2 1 σ
def L_X1_measure_7 (Q : Hp → Prop) (K60 : Hp → Prop) (P : Nat) : Nat → Int32 → Hp → Prop
  | 0, _, _ => False
  | n + 1, y2, σ =>
  (((16 : Int32) ≤ y2 → K60 σ) ∧ (¬ (16 : Int32) ≤ y2 → S_X1_loadWith P y2 (-1) 0 σ (fun r3 σ2 => vp_in y2 16 ∧ ∀ σ4, σ4 = sI σ2 19 0 (ix y2) r3 → ((¬ (gI σ4 1 0 0) = 0 → J_X1_measure_46 Q (L_X1_measure_7 Q K60 P n) K60 P y2 σ4) ∧ ((gI σ4 1 0 0) = 0 → vp_in y2 16 ∧ (((gI σ4 19 0 (ix y2)) ≤ 256 → J_X1_measure_51 Q (L_X1_measure_7 Q K60 P n) K60 P y2 0 σ4) ∧ (¬ (gI σ4 19 0 (ix y2)) ≤ 256 → J_X1_measure_46 Q (L_X1_measure_7 Q K60 P n) K60 P y2 σ4)))))))
def L_X1_measure_62 (Q : Hp → Prop) (K89 : Hp → Prop) (P : Nat) : Nat → Int32 → Hp → Prop
  | 0, _, _ => False
  | n + 1, y2, σ =>
  (((6 : Int32) ≤ y2 → K89 σ) ∧ (¬ (6 : Int32) ≤ y2 → S_X1_lengthsThrough P y2 σ (fun r9 σ8 => vp_in y2 16 ∧ ∀ σ10, σ10 = sL σ8 20 0 (ix y2) (r9 * 16777216) → L_X1_measure_62 Q K89 P n (y2 + 1) σ10)))
def L_X1_measure_99 (Q : Hp → Prop) (K131 : Hp → Prop) (P : Nat) (y3 : Int32) : Nat → Int32 → Hp → Prop
  | 0, _, _ => False
  | n + 1, y4, σ =>
  ((y3 ≤ y4 → K131 σ) ∧ (¬ y3 ≤ y4 → vp_in y4 10 ∧ S_X1_burstsThrough P (dsv.getD (ix y4) 0) σ (fun r14 σ13 => vp_in (dsv.getD (ix y4) 0) 16 ∧ ∀ σ15, σ15 = sL σ13 20 0 (ix (dsv.getD (ix y4) 0)) r14 → L_X1_measure_99 Q K131 P y3 n (y4 + 1) σ15)))
def S_X1_measure (P : Nat) (σ : Hp) (Q : Hp → Prop) : Prop :=
  ∀ σ1, σ1 = sI σ 1 0 0 0 → (∃ n6, L_X1_measure_7 Q (fun σ7 => (∃ n11, L_X1_measure_62 Q (fun σ12 => (∃ n16, L_X1_measure_99 Q (fun σ17 => Q σ17) P 10 n16 0 σ12)) P n11 0 σ7)) P n6 0 σ1)
set_option maxHeartbeats 2000000 in
set_option maxRecDepth 20000 in
theorem ok_X1_measure (l : Launch) (g : Gm) (P : Nat) (hP : P < 2) (σ : Hp) (Q : Hp → Prop) (h : S_X1_measure P σ Q) : Ct l g yX1_measure cX1_measure 6 none 3 [.ref (gad g 1 0), .ref (gad g 2 P)] σ (QV Q) := by
  refine Ct.of (by decide +kernel) (Nat.le_of_ble_eq_true rfl) ?_
  intro p e R s m args below meth c C
  have C : Cx g p R s m args meth c cX1_measure 6 RX1 none 3 := C
  have j51 : ∀ (kb : Int32 → Hp → Prop) (K60 : Hp → Prop) (y2 : Int32) (z0 : Int32) (hkb : ∀ (v2 : Int32) (σ : Hp), kb v2 σ → G g p l e R s m args below meth c (QV Q) 6 7 [(0, .ref (gad g 1 0)), (1, .ref (gad g 2 P)), (2, .int v2)] [] σ) (hK60 : ∀ (σ : Hp), K60 σ → G g p l e R s m args below meth c (QV Q) 6 60 [(0, .ref (gad g 1 0)), (1, .ref (gad g 2 P))] [] σ) (σ : Hp), J_X1_measure_51 Q kb K60 P y2 z0 σ → G g p l e R s m args below meth c (QV Q) 6 51 [(0, .ref (gad g 1 0)), (1, .ref (gad g 2 P)), (2, .int y2)] [.int z0, .ref (gad g 1 0)] σ := by
    intro kb K60 y2 z0 hkb hK60 σ h
    unfold J_X1_measure_51 at h
    obtain ⟨h0, h⟩ := h
    refine pf_1_11 C dX1_measure_51 h0 (cn_1 (by decide)) ?_
    have h := h _ rfl
    refine r_iinc (v := y2 + 1) C dX1_measure_54 2 rfl rfl (Nat.le_of_ble_eq_true rfl) rfl ?_
    refine r_goto (tgt := 7) C dX1_measure_57 rfl ?_
    refine r_sub [1, 2, 0] rfl ?_
    exact hkb _ _ h
  have j46 : ∀ (kb : Int32 → Hp → Prop) (K60 : Hp → Prop) (y2 : Int32) (hkb : ∀ (v2 : Int32) (σ : Hp), kb v2 σ → G g p l e R s m args below meth c (QV Q) 6 7 [(0, .ref (gad g 1 0)), (1, .ref (gad g 2 P)), (2, .int v2)] [] σ) (hK60 : ∀ (σ : Hp), K60 σ → G g p l e R s m args below meth c (QV Q) 6 60 [(0, .ref (gad g 1 0)), (1, .ref (gad g 2 P))] [] σ) (σ : Hp), J_X1_measure_46 Q kb K60 P y2 σ → G g p l e R s m args below meth c (QV Q) 6 46 [(0, .ref (gad g 1 0)), (1, .ref (gad g 2 P)), (2, .int y2)] [.ref (gad g 1 0)] σ := by
    intro kb K60 y2 hkb hK60 σ h
    unfold J_X1_measure_46 at h
    refine r_iconst C dX1_measure_46 ic_1 ?_
    refine r_goto (tgt := 51) C dX1_measure_47 rfl ?_
    exact j51 _ _ _ _ hkb hK60 _ h
  have l7 : ∀ (K60 : Hp → Prop) (hK60 : ∀ (σ : Hp), K60 σ → G g p l e R s m args below meth c (QV Q) 6 60 [(0, .ref (gad g 1 0)), (1, .ref (gad g 2 P))] [] σ) (n : Nat) (y2 : Int32) (σ : Hp), L_X1_measure_7 Q K60 P n y2 σ → G g p l e R s m args below meth c (QV Q) 6 7 [(0, .ref (gad g 1 0)), (1, .ref (gad g 2 P)), (2, .int y2)] [] σ := by
    intro K60 hK60 n
    induction n with
    | zero => intro y2 σ h; exact False.elim h
    | succ n ih =>
      intro y2 σ h
      unfold L_X1_measure_7 at h
      refine r_iload_n C dX1_measure_7 rfl 2 rfl ?_
      refine r_bipush C dX1_measure_8 bi_16 ?_
      refine r_icmp_ge (tgt := 60) C dX1_measure_10 rfl (fun q => ?_) (fun q => ?_)
      · have h := h.1 q
        refine r_sub [0, 1] rfl ?_
        exact hK60 _ h
      · have h := h.2 q
        refine r_aload_n C dX1_measure_13 rfl 0 rfl ?_
        refine gf_1_15 C dX1_measure_14 (cn_1 (by decide)) ?_
        refine r_iload_n C dX1_measure_17 rfl 2 rfl ?_
        refine r_aload_n C dX1_measure_18 rfl 1 rfl ?_
        refine r_iload_n C dX1_measure_19 rfl 2 rfl ?_
        refine r_iconst C dX1_measure_20 ic_m1 ?_
        refine r_iconst C dX1_measure_21 ic_0 ?_
        refine r_callSi [.int _, .ref (gad g 19 0)] C dX1_measure_22 w_1_26 (ok_X1_loadWith l g P hP _ _ _ _ _ h) (Nat.le_of_ble_eq_true rfl) rfl rfl (Nat.le_of_ble_eq_true rfl) (fun r3 σ2 h => ?_)
        obtain ⟨h0, h⟩ := h
        refine r_iastore C dX1_measure_25 ak_19 (cn_19 (by decide)) al_19 h0 ?_
        have h := h _ rfl
        refine r_aload_n C dX1_measure_26 rfl 0 rfl ?_
        refine r_aload_n C dX1_measure_27 rfl 0 rfl ?_
        refine gf_1_11 C dX1_measure_28 (cn_1 (by decide)) ?_
        refine r_if_ne (tgt := 46) C dX1_measure_31 rfl (fun q => ?_) (fun q => ?_)
        · have h := h.1 q
          exact j46 _ _ _ ih hK60 _ h
        · have h := h.2 q
          refine r_aload_n C dX1_measure_34 rfl 0 rfl ?_
          refine gf_1_15 C dX1_measure_35 (cn_1 (by decide)) ?_
          refine r_iload_n C dX1_measure_38 rfl 2 rfl ?_
          obtain ⟨h0, h⟩ := h
          refine r_iaload C dX1_measure_39 ak_19 (cn_19 (by decide)) al_19 h0 ?_
          refine r_sipush C dX1_measure_40 si_256 ?_
          refine r_icmp_le (tgt := 50) C dX1_measure_43 rfl (fun q => ?_) (fun q => ?_)
          · have h := h.1 q
            refine r_iconst C dX1_measure_50 ic_0 ?_
            exact j51 _ _ _ _ ih hK60 _ h
          · have h := h.2 q
            exact j46 _ _ _ ih hK60 _ h
  have l62 : ∀ (K89 : Hp → Prop) (hK89 : ∀ (σ : Hp), K89 σ → G g p l e R s m args below meth c (QV Q) 6 89 [(0, .ref (gad g 1 0)), (1, .ref (gad g 2 P))] [] σ) (n : Nat) (y2 : Int32) (σ : Hp), L_X1_measure_62 Q K89 P n y2 σ → G g p l e R s m args below meth c (QV Q) 6 62 [(0, .ref (gad g 1 0)), (1, .ref (gad g 2 P)), (2, .int y2)] [] σ := by
    intro K89 hK89 n
    induction n with
    | zero => intro y2 σ h; exact False.elim h
    | succ n ih =>
      intro y2 σ h
      unfold L_X1_measure_62 at h
      refine r_iload_n C dX1_measure_62 rfl 2 rfl ?_
      refine r_bipush C dX1_measure_63 bi_6 ?_
      refine r_icmp_ge (tgt := 89) C dX1_measure_65 rfl (fun q => ?_) (fun q => ?_)
      · have h := h.1 q
        refine r_sub [0, 1] rfl ?_
        exact hK89 _ h
      · have h := h.2 q
        refine r_aload_n C dX1_measure_68 rfl 0 rfl ?_
        refine gf_1_19 C dX1_measure_69 (cn_1 (by decide)) ?_
        refine r_iload_n C dX1_measure_72 rfl 2 rfl ?_
        refine r_aload_n C dX1_measure_73 rfl 1 rfl ?_
        refine r_iload_n C dX1_measure_74 rfl 2 rfl ?_
        refine r_callSl [.int _, .ref (gad g 20 0)] C dX1_measure_75 w_1_30 (ok_X1_lengthsThrough l g P hP _ _ _ h) (Nat.le_of_ble_eq_true rfl) rfl rfl (Nat.le_of_ble_eq_true rfl) (fun r9 σ8 h => ?_)
        refine r_ldc2 (v := 16777216) C dX1_measure_78 u3_102 ?_
        refine r_lmul C dX1_measure_81 ?_
        obtain ⟨h0, h⟩ := h
        refine r_lastore C dX1_measure_82 ak_20 (cn_20 (by decide)) al_20 h0 ?_
        have h := h _ rfl
        refine r_iinc (v := y2 + 1) C dX1_measure_83 2 rfl rfl (Nat.le_of_ble_eq_true rfl) rfl ?_
        refine r_goto (tgt := 62) C dX1_measure_86 rfl ?_
        refine r_sub [1, 2, 0] rfl ?_
        exact ih _ _ h
  have l99 : ∀ (K131 : Hp → Prop) (y3 : Int32) (hK131 : ∀ (σ : Hp), K131 σ → G g p l e R s m args below meth c (QV Q) 6 131 [] [] σ) (n : Nat) (y4 : Int32) (σ : Hp), L_X1_measure_99 Q K131 P y3 n y4 σ → G g p l e R s m args below meth c (QV Q) 6 99 [(0, .ref (gad g 1 0)), (1, .ref (gad g 2 P)), (2, .ref (gT g)), (3, .int y3), (4, .int y4)] [] σ := by
    intro K131 y3 hK131 n
    induction n with
    | zero => intro y4 σ h; exact False.elim h
    | succ n ih =>
      intro y4 σ h
      unfold L_X1_measure_99 at h
      refine r_iload C dX1_measure_99 4 rfl ?_
      refine r_iload_n C dX1_measure_101 rfl 3 rfl ?_
      refine r_icmp_ge (tgt := 131) C dX1_measure_102 rfl (fun q => ?_) (fun q => ?_)
      · have h := h.1 q
        refine r_sub [] rfl ?_
        exact hK131 _ h
      · have h := h.2 q
        refine r_aload_n C dX1_measure_105 rfl 2 rfl ?_
        refine r_iload C dX1_measure_106 4 rfl ?_
        obtain ⟨h0, h⟩ := h
        refine r_ialoadD C dX1_measure_108 h0 ?_
        refine r_istore C dX1_measure_109 (Nat.le_of_ble_eq_true rfl) rfl ?_
        refine r_aload_n C dX1_measure_111 rfl 1 rfl ?_
        refine gf_1_19 C dX1_measure_112 (cn_1 (by decide)) ?_
        refine r_iload C dX1_measure_115 0 rfl ?_
        refine r_aload_n C dX1_measure_117 rfl 1 rfl ?_
        refine r_aload_n C dX1_measure_118 rfl 2 rfl ?_
        refine r_iload C dX1_measure_119 0 rfl ?_
        refine r_callVl [.int _, .ref (gad g 20 0)] C dX1_measure_121 w_1_39 (ok_X1_burstsThrough l g P hP _ _ _ h) (Nat.le_of_ble_eq_true rfl) rfl rfl ak_1 (cn_1 (by decide)) rfl rfl (Nat.le_of_ble_eq_true rfl) (fun r14 σ13 h => ?_)
        obtain ⟨h0, h⟩ := h
        refine r_lastore C dX1_measure_124 ak_20 (cn_20 (by decide)) al_20 h0 ?_
        have h := h _ rfl
        refine r_iinc (v := y4 + 1) C dX1_measure_125 5 rfl rfl (Nat.le_of_ble_eq_true rfl) rfl ?_
        refine r_goto (tgt := 99) C dX1_measure_128 rfl ?_
        refine r_sub [2, 3, 4, 5, 0] rfl ?_
        exact ih _ _ h
  unfold S_X1_measure at h
  show G g p l e R s m args below meth c (QV Q) 6 0 [(0, .ref (gad g 1 0)), (1, .ref (gad g 2 P))] [] σ
  refine r_aload_n C dX1_measure_0 rfl 0 rfl ?_
  refine r_iconst C dX1_measure_1 ic_0 ?_
  refine pf_1_11 C dX1_measure_2 zb0 (cn_1 (by decide)) ?_
  have h := h _ rfl
  refine r_iconst C dX1_measure_5 ic_0 ?_
  refine r_istore_n C dX1_measure_6 rfl (Nat.le_of_ble_eq_true rfl) rfl ?_
  refine r_sub [1, 2, 0] rfl ?_
  obtain ⟨n6, h⟩ := h
  refine l7 _ (fun σ7 h => ?_) n6 _ _ h
  refine r_iconst C dX1_measure_60 ic_0 ?_
  refine r_istore_n C dX1_measure_61 rfl (Nat.le_of_ble_eq_true rfl) rfl ?_
  refine r_sub [1, 2, 0] rfl ?_
  obtain ⟨n11, h⟩ := h
  refine l62 _ (fun σ12 h => ?_) n11 _ _ h
  refine r_staticD C dX1_measure_89 u3_103 ?_
  refine r_astore_n C dX1_measure_92 rfl (Nat.le_of_ble_eq_true rfl) rfl ?_
  refine r_aload_n C dX1_measure_93 rfl 0 rfl ?_
  refine r_lenD C dX1_measure_94 ?_
  refine r_istore_n C dX1_measure_95 rfl (Nat.le_of_ble_eq_true rfl) rfl ?_
  refine r_iconst C dX1_measure_96 ic_0 ?_
  refine r_istore C dX1_measure_97 (Nat.le_of_ble_eq_true rfl) rfl ?_
  refine r_sub [3, 4, 2, 1, 0] rfl ?_
  obtain ⟨n16, h⟩ := h
  refine l99 _ _ (fun σ17 h => ?_) n16 _ _ h
  exact r_return C dX1_measure_131 ⟨rfl, h⟩
def S_X1_loadOf (x1 : Int32) (σ : Hp) (Q : Int64 → Hp → Prop) : Prop :=
  vp_in x1 16 ∧ Q (((gI σ 19 0 (ix x1)).toInt64) * 65536) σ
set_option maxHeartbeats 2000000 in
set_option maxRecDepth 20000 in
theorem ok_X1_loadOf (l : Launch) (g : Gm) (x1 : Int32) (σ : Hp) (Q : Int64 → Hp → Prop) (h : S_X1_loadOf x1 σ Q) : Ct l g yX1_loadOf cX1_loadOf 2 (some .long) 0 [.ref (gad g 1 0), .int x1] σ (QL Q) := by
  refine Ct.of (by decide +kernel) (Nat.le_of_ble_eq_true rfl) ?_
  intro p e R s m args below meth c C
  have C : Cx g p R s m args meth c cX1_loadOf 2 RX1 (some .long) 0 := C
  unfold S_X1_loadOf at h
  show G g p l e R s m args below meth c (QL Q) 2 0 [(0, .ref (gad g 1 0)), (1, .int x1)] [] σ
  refine r_aload_n C dX1_loadOf_0 rfl 0 rfl ?_
  refine gf_1_15 C dX1_loadOf_1 (cn_1 (by decide)) ?_
  refine r_iload_n C dX1_loadOf_4 rfl 1 rfl ?_
  obtain ⟨h0, h⟩ := h
  refine r_iaload C dX1_loadOf_5 ak_19 (cn_19 (by decide)) al_19 h0 ?_
  refine r_i2l C dX1_loadOf_6 ?_
  refine r_ldc2 (v := 65536) C dX1_loadOf_7 u4_43 ?_
  refine r_lmul C dX1_loadOf_10 ?_
  exact r_lreturn C dX1_loadOf_11 ⟨_, rfl, h⟩
def S_X6_portAt (P : Nat) (x1 : Int32) (x2 : Int32) (σ : Hp) (Q : Int32 → Hp → Prop) : Prop :=
  vp_in ((x1 * 4) + x2) 96 ∧ Q (gI σ 47 P (ix ((x1 * 4) + x2))) σ
set_option maxHeartbeats 2000000 in
set_option maxRecDepth 20000 in
theorem ok_X6_portAt (l : Launch) (g : Gm) (P : Nat) (hP : P < 2) (x1 : Int32) (x2 : Int32) (σ : Hp) (Q : Int32 → Hp → Prop) (h : S_X6_portAt P x1 x2 σ Q) : Ct l g yX6_portAt cX6_portAt 3 (some .int) 0 [.ref (gad g 6 P), .int x1, .int x2] σ (QI Q) := by
  refine Ct.of (by decide +kernel) (Nat.le_of_ble_eq_true rfl) ?_
  intro p e R s m args below meth c C
  have C : Cx g p R s m args meth c cX6_portAt 3 RX6 (some .int) 0 := C
  unfold S_X6_portAt at h
  show G g p l e R s m args below meth c (QI Q) 3 0 [(0, .ref (gad g 6 P)), (1, .int x1), (2, .int x2)] [] σ
  refine r_aload_n C dX6_portAt_0 rfl 0 rfl ?_
  refine gf_6_9 C dX6_portAt_1 (cn_6 hP) ?_
  refine r_iload_n C dX6_portAt_4 rfl 1 rfl ?_
  refine r_iconst C dX6_portAt_5 ic_4 ?_
  refine r_imul C dX6_portAt_6 ?_
  refine r_iload_n C dX6_portAt_7 rfl 2 rfl ?_
  refine r_iadd C dX6_portAt_8 ?_
  obtain ⟨h0, h⟩ := h
  refine r_iaload C dX6_portAt_9 ak_47 (cn_47 hP) al_47 h0 ?_
  exact r_ireturn C dX6_portAt_10 ⟨_, rfl, h⟩
def L_X1_boundOf_5 (Q : Int64 → Hp → Prop) (K43 : Int64 → Hp → Prop) (P : Nat) (y2 : Int32) : Nat → Int64 → Int32 → Hp → Prop
  | 0, _, _, _ => False
  | n + 1, y3, y5, σ =>
  vp_in y2 24 ∧ (((gI σ 48 P (ix y2)) ≤ y5 → K43 y3 σ) ∧ (¬ (gI σ 48 P (ix y2)) ≤ y5 → S_X6_portAt P y2 y5 σ (fun r2 σ1 => vp_in r2 16 ∧ L_X1_boundOf_5 Q K43 P y2 n (y3 + (gL σ1 20 0 (ix r2))) (y5 + 1) σ1)))
def S_X1_boundOf (P : Nat) (x2 : Int32) (σ : Hp) (Q : Int64 → Hp → Prop) : Prop :=
  (∃ n3, L_X1_boundOf_5 Q (fun w5 σ4 => Q w5 σ4) P x2 n3 0 0 σ)
set_option maxHeartbeats 2000000 in
set_option maxRecDepth 20000 in
theorem ok_X1_boundOf (l : Launch) (g : Gm) (P : Nat) (hP : P < 2) (x2 : Int32) (σ : Hp) (Q : Int64 → Hp → Prop) (h : S_X1_boundOf P x2 σ Q) : Ct l g yX1_boundOf cX1_boundOf 6 (some .long) 1 [.ref (gad g 1 0), .ref (gad g 2 P), .int x2] σ (QL Q) := by
  refine Ct.of (by decide +kernel) (Nat.le_of_ble_eq_true rfl) ?_
  intro p e R s m args below meth c C
  have C : Cx g p R s m args meth c cX1_boundOf 6 RX1 (some .long) 1 := C
  have l5 : ∀ (K43 : Int64 → Hp → Prop) (y2 : Int32) (hK43 : ∀ (v3 : Int64) (σ : Hp), K43 v3 σ → G g p l e R s m args below meth c (QL Q) 6 43 [(3, .long v3)] [] σ) (n : Nat) (y3 : Int64) (y5 : Int32) (σ : Hp), L_X1_boundOf_5 Q K43 P y2 n y3 y5 σ → G g p l e R s m args below meth c (QL Q) 6 5 [(0, .ref (gad g 1 0)), (1, .ref (gad g 2 P)), (2, .int y2), (3, .long y3), (5, .int y5)] [] σ := by
    intro K43 y2 hK43 n
    induction n with
    | zero => intro y3 y5 σ h; exact False.elim h
    | succ n ih =>
      intro y3 y5 σ h
      unfold L_X1_boundOf_5 at h
      refine r_iload C dX1_boundOf_5 4 rfl ?_
      refine r_aload_n C dX1_boundOf_7 rfl 1 rfl ?_
      refine gf_1_51 C dX1_boundOf_8 (cn_2 hP) ?_
      refine gf_1_80 C dX1_boundOf_11 (cn_6 hP) ?_
      refine r_iload_n C dX1_boundOf_14 rfl 2 rfl ?_
      obtain ⟨h0, h⟩ := h
      refine r_iaload C dX1_boundOf_15 ak_48 (cn_48 hP) al_48 h0 ?_
      refine r_icmp_ge (tgt := 43) C dX1_boundOf_16 rfl (fun q => ?_) (fun q => ?_)
      · have h := h.1 q
        refine r_sub [3] rfl ?_
        exact hK43 _ _ h
      · have h := h.2 q
        refine r_lload_n C dX1_boundOf_19 rfl 3 rfl ?_
        refine r_aload_n C dX1_boundOf_20 rfl 0 rfl ?_
        refine gf_1_19 C dX1_boundOf_21 (cn_1 (by decide)) ?_
        refine r_aload_n C dX1_boundOf_24 rfl 1 rfl ?_
        refine gf_1_51 C dX1_boundOf_25 (cn_2 hP) ?_
        refine r_iload_n C dX1_boundOf_28 rfl 2 rfl ?_
        refine r_iload C dX1_boundOf_29 4 rfl ?_
        refine r_callVi [.ref (gad g 20 0), .long _] C dX1_boundOf_31 w_1_83 (ok_X6_portAt l g P hP _ _ _ _ h) (Nat.le_of_ble_eq_true rfl) rfl rfl ak_6 (cn_6 hP) rfl rfl (Nat.le_of_ble_eq_true rfl) (fun r2 σ1 h => ?_)
        obtain ⟨h0, h⟩ := h
        refine r_laload C dX1_boundOf_34 ak_20 (cn_20 (by decide)) al_20 h0 ?_
        refine r_ladd C dX1_boundOf_35 ?_
        refine r_lstore_n C dX1_boundOf_36 rfl (Nat.le_of_ble_eq_true rfl) rfl ?_
        refine r_iinc (v := y5 + 1) C dX1_boundOf_37 4 rfl rfl (Nat.le_of_ble_eq_true rfl) rfl ?_
        refine r_goto (tgt := 5) C dX1_boundOf_40 rfl ?_
        refine r_sub [2, 3, 4, 1, 0] rfl ?_
        exact ih _ _ _ h
  unfold S_X1_boundOf at h
  show G g p l e R s m args below meth c (QL Q) 6 0 [(0, .ref (gad g 1 0)), (1, .ref (gad g 2 P)), (2, .int x2)] [] σ
  refine r_lconst (v := 0) C dX1_boundOf_0 rfl ?_
  refine r_lstore_n C dX1_boundOf_1 rfl (Nat.le_of_ble_eq_true rfl) rfl ?_
  refine r_iconst C dX1_boundOf_2 ic_0 ?_
  refine r_istore C dX1_boundOf_3 (Nat.le_of_ble_eq_true rfl) rfl ?_
  refine r_sub [2, 3, 4, 1, 0] rfl ?_
  obtain ⟨n3, h⟩ := h
  refine l5 _ _ (fun w5 σ4 h => ?_) n3 _ _ _ h
  refine r_lload_n C dX1_boundOf_43 rfl 0 rfl ?_
  exact r_lreturn C dX1_boundOf_44 ⟨_, rfl, h⟩
def J_X1_fullestPort_27 (Q : Int32 → Hp → Prop) (kb : Int32 → Int32 → Hp → Prop) (K33 : Int32 → Hp → Prop) (y1 : Int32) (y2 : Int32) (σ : Hp) : Prop :=
  kb y1 (y2 + 1) σ
def L_X1_fullestPort_4 (Q : Int32 → Hp → Prop) (K33 : Int32 → Hp → Prop) : Nat → Int32 → Int32 → Hp → Prop
  | 0, _, _, _ => False
  | n + 1, y1, y2, σ =>
  (((16 : Int32) ≤ y2 → K33 y1 σ) ∧ (¬ (16 : Int32) ≤ y2 → vp_in y2 16 ∧ vp_in y1 16 ∧ (((gI σ 19 0 (ix y2)) ≤ (gI σ 19 0 (ix y1)) → J_X1_fullestPort_27 Q (L_X1_fullestPort_4 Q K33 n) K33 y1 y2 σ) ∧ (¬ (gI σ 19 0 (ix y2)) ≤ (gI σ 19 0 (ix y1)) → J_X1_fullestPort_27 Q (L_X1_fullestPort_4 Q K33 n) K33 y2 y2 σ))))
def S_X1_fullestPort (σ : Hp) (Q : Int32 → Hp → Prop) : Prop :=
  (∃ n1, L_X1_fullestPort_4 Q (fun w3 σ2 => Q w3 σ2) n1 0 1 σ)
set_option maxHeartbeats 2000000 in
set_option maxRecDepth 20000 in
theorem ok_X1_fullestPort (l : Launch) (g : Gm) (σ : Hp) (Q : Int32 → Hp → Prop) (h : S_X1_fullestPort σ Q) : Ct l g yX1_fullestPort cX1_fullestPort 3 (some .int) 0 [.ref (gad g 1 0)] σ (QI Q) := by
  refine Ct.of (by decide +kernel) (Nat.le_of_ble_eq_true rfl) ?_
  intro p e R s m args below meth c C
  have C : Cx g p R s m args meth c cX1_fullestPort 3 RX1 (some .int) 0 := C
  have j27 : ∀ (kb : Int32 → Int32 → Hp → Prop) (K33 : Int32 → Hp → Prop) (y1 : Int32) (y2 : Int32) (hkb : ∀ (v1 : Int32) (v2 : Int32) (σ : Hp), kb v1 v2 σ → G g p l e R s m args below meth c (QI Q) 3 4 [(0, .ref (gad g 1 0)), (1, .int v1), (2, .int v2)] [] σ) (hK33 : ∀ (v1 : Int32) (σ : Hp), K33 v1 σ → G g p l e R s m args below meth c (QI Q) 3 33 [(1, .int v1)] [] σ) (σ : Hp), J_X1_fullestPort_27 Q kb K33 y1 y2 σ → G g p l e R s m args below meth c (QI Q) 3 27 [(0, .ref (gad g 1 0)), (1, .int y1), (2, .int y2)] [] σ := by
    intro kb K33 y1 y2 hkb hK33 σ h
    unfold J_X1_fullestPort_27 at h
    refine r_iinc (v := y2 + 1) C dX1_fullestPort_27 2 rfl rfl (Nat.le_of_ble_eq_true rfl) rfl ?_
    refine r_goto (tgt := 4) C dX1_fullestPort_30 rfl ?_
    refine r_sub [1, 2, 0] rfl ?_
    exact hkb _ _ _ h
  have l4 : ∀ (K33 : Int32 → Hp → Prop) (hK33 : ∀ (v1 : Int32) (σ : Hp), K33 v1 σ → G g p l e R s m args below meth c (QI Q) 3 33 [(1, .int v1)] [] σ) (n : Nat) (y1 : Int32) (y2 : Int32) (σ : Hp), L_X1_fullestPort_4 Q K33 n y1 y2 σ → G g p l e R s m args below meth c (QI Q) 3 4 [(0, .ref (gad g 1 0)), (1, .int y1), (2, .int y2)] [] σ := by
    intro K33 hK33 n
    induction n with
    | zero => intro y1 y2 σ h; exact False.elim h
    | succ n ih =>
      intro y1 y2 σ h
      unfold L_X1_fullestPort_4 at h
      refine r_iload_n C dX1_fullestPort_4 rfl 2 rfl ?_
      refine r_bipush C dX1_fullestPort_5 bi_16 ?_
      refine r_icmp_ge (tgt := 33) C dX1_fullestPort_7 rfl (fun q => ?_) (fun q => ?_)
      · have h := h.1 q
        refine r_sub [1] rfl ?_
        exact hK33 _ _ h
      · have h := h.2 q
        refine r_aload_n C dX1_fullestPort_10 rfl 0 rfl ?_
        refine gf_1_15 C dX1_fullestPort_11 (cn_1 (by decide)) ?_
        refine r_iload_n C dX1_fullestPort_14 rfl 2 rfl ?_
        obtain ⟨h0, h⟩ := h
        refine r_iaload C dX1_fullestPort_15 ak_19 (cn_19 (by decide)) al_19 h0 ?_
        refine r_aload_n C dX1_fullestPort_16 rfl 0 rfl ?_
        refine gf_1_15 C dX1_fullestPort_17 (cn_1 (by decide)) ?_
        refine r_iload_n C dX1_fullestPort_20 rfl 1 rfl ?_
        obtain ⟨h0, h⟩ := h
        refine r_iaload C dX1_fullestPort_21 ak_19 (cn_19 (by decide)) al_19 h0 ?_
        refine r_icmp_le (tgt := 27) C dX1_fullestPort_22 rfl (fun q => ?_) (fun q => ?_)
        · have h := h.1 q
          exact j27 _ _ _ _ ih hK33 _ h
        · have h := h.2 q
          refine r_iload_n C dX1_fullestPort_25 rfl 2 rfl ?_
          refine r_istore_n C dX1_fullestPort_26 rfl (Nat.le_of_ble_eq_true rfl) rfl ?_
          refine r_sub [1, 0, 2] rfl ?_
          exact j27 _ _ _ _ ih hK33 _ h
  unfold S_X1_fullestPort at h
  show G g p l e R s m args below meth c (QI Q) 3 0 [(0, .ref (gad g 1 0))] [] σ
  refine r_iconst C dX1_fullestPort_0 ic_0 ?_
  refine r_istore_n C dX1_fullestPort_1 rfl (Nat.le_of_ble_eq_true rfl) rfl ?_
  refine r_iconst C dX1_fullestPort_2 ic_1 ?_
  refine r_istore_n C dX1_fullestPort_3 rfl (Nat.le_of_ble_eq_true rfl) rfl ?_
  refine r_sub [2, 1, 0] rfl ?_
  obtain ⟨n1, h⟩ := h
  refine l4 _ (fun w3 σ2 h => ?_) n1 _ _ _ h
  refine r_iload_n C dX1_fullestPort_33 rfl 0 rfl ?_
  exact r_ireturn C dX1_fullestPort_34 ⟨_, rfl, h⟩
def L_X1_bears_2 (Q : Int32 → Hp → Prop) (K29 : Hp → Prop) (K21 : Hp → Prop) (P : Nat) (y1 : Int32) (y2 : Int32) : Nat → Int32 → Hp → Prop
  | 0, _, _ => False
  | n + 1, y3, σ =>
  (((16 : Int32) ≤ y3 → K29 σ) ∧ (¬ (16 : Int32) ≤ y3 → S_X1_loadWith P y3 y1 y2 σ (fun r2 σ1 => ((r2 ≤ 256 → L_X1_bears_2 Q K29 K21 P y1 y2 n (y3 + 1) σ1) ∧ (¬ r2 ≤ 256 → K21 σ1)))))
def S_X1_bears (P : Nat) (x1 : Int32) (x2 : Int32) (σ : Hp) (Q : Int32 → Hp → Prop) : Prop :=
  (∃ n3, L_X1_bears_2 Q (fun σ4 => Q 1 σ4) (fun σ5 => Q 0 σ5) P x1 x2 n3 0 σ)
set_option maxHeartbeats 2000000 in
set_option maxRecDepth 20000 in
theorem ok_X1_bears (l : Launch) (g : Gm) (P : Nat) (hP : P < 2) (x1 : Int32) (x2 : Int32) (σ : Hp) (Q : Int32 → Hp → Prop) (h : S_X1_bears P x1 x2 σ Q) : Ct l g yX1_bears cX1_bears 4 (some .boolean) 2 [.ref (gad g 2 P), .int x1, .int x2] σ (QI Q) := by
  refine Ct.of (by decide +kernel) (Nat.le_of_ble_eq_true rfl) ?_
  intro p e R s m args below meth c C
  have C : Cx g p R s m args meth c cX1_bears 4 RX1 (some .boolean) 2 := C
  have l2 : ∀ (K29 : Hp → Prop) (K21 : Hp → Prop) (y1 : Int32) (y2 : Int32) (hK29 : ∀ (σ : Hp), K29 σ → G g p l e R s m args below meth c (QI Q) 4 29 [] [] σ) (hK21 : ∀ (σ : Hp), K21 σ → G g p l e R s m args below meth c (QI Q) 4 21 [] [] σ) (n : Nat) (y3 : Int32) (σ : Hp), L_X1_bears_2 Q K29 K21 P y1 y2 n y3 σ → G g p l e R s m args below meth c (QI Q) 4 2 [(0, .ref (gad g 2 P)), (1, .int y1), (2, .int y2), (3, .int y3)] [] σ := by
    intro K29 K21 y1 y2 hK29 hK21 n
    induction n with
    | zero => intro y3 σ h; exact False.elim h
    | succ n ih =>
      intro y3 σ h
      unfold L_X1_bears_2 at h
      refine r_iload_n C dX1_bears_2 rfl 3 rfl ?_
      refine r_bipush C dX1_bears_3 bi_16 ?_
      refine r_icmp_ge (tgt := 29) C dX1_bears_5 rfl (fun q => ?_) (fun q => ?_)
      · have h := h.1 q
        refine r_sub [] rfl ?_
        exact hK29 _ h
      · have h := h.2 q
        refine r_aload_n C dX1_bears_8 rfl 0 rfl ?_
        refine r_iload_n C dX1_bears_9 rfl 3 rfl ?_
        refine r_iload_n C dX1_bears_10 rfl 1 rfl ?_
        refine r_iload_n C dX1_bears_11 rfl 2 rfl ?_
        refine r_callSi [] C dX1_bears_12 w_1_26 (ok_X1_loadWith l g P hP _ _ _ _ _ h) (Nat.le_of_ble_eq_true rfl) rfl rfl (Nat.le_of_ble_eq_true rfl) (fun r2 σ1 h => ?_)
        refine r_sipush C dX1_bears_15 si_256 ?_
        refine r_icmp_le (tgt := 23) C dX1_bears_18 rfl (fun q => ?_) (fun q => ?_)
        · have h := h.1 q
          refine r_iinc (v := y3 + 1) C dX1_bears_23 3 rfl rfl (Nat.le_of_ble_eq_true rfl) rfl ?_
          refine r_goto (tgt := 2) C dX1_bears_26 rfl ?_
          refine r_sub [1, 2, 3, 0] rfl ?_
          exact ih _ _ h
        · have h := h.2 q
          refine r_sub [] rfl ?_
          exact hK21 _ h
  unfold S_X1_bears at h
  show G g p l e R s m args below meth c (QI Q) 4 0 [(0, .ref (gad g 2 P)), (1, .int x1), (2, .int x2)] [] σ
  refine r_iconst C dX1_bears_0 ic_0 ?_
  refine r_istore_n C dX1_bears_1 rfl (Nat.le_of_ble_eq_true rfl) rfl ?_
  refine r_sub [1, 2, 3, 0] rfl ?_
  obtain ⟨n3, h⟩ := h
  refine l2 _ _ _ _ (fun σ4 h => ?_) (fun σ5 h => ?_) n3 _ _ h
  · refine r_iconst C dX1_bears_29 ic_1 ?_
    exact r_zreturn C dX1_bears_30 zb1.1 ⟨_, rfl, h⟩
  · refine r_iconst C dX1_bears_21 ic_0 ?_
    exact r_zreturn C dX1_bears_22 zb0.1 ⟨_, rfl, h⟩
def J_X1_leastGapFor_31 (Q : Int32 → Hp → Prop) (kb : Int32 → Hp → Prop) (K38 : Hp → Prop) (K29 : Int32 → Hp → Prop) (P : Nat) (y2 : Int32) (y3 : Int32) (σ : Hp) : Prop :=
  kb (y3 * 2) σ
def L_X1_leastGapFor_3 (Q : Int32 → Hp → Prop) (K38 : Hp → Prop) (K29 : Int32 → Hp → Prop) (P : Nat) (y2 : Int32) : Nat → Int32 → Hp → Prop
  | 0, _, _ => False
  | n + 1, y3, σ =>
  (((256 : Int32) < y3 → K38 σ) ∧ (¬ (256 : Int32) < y3 → vp_in y2 8 ∧ ((y3 < (gI σ 27 P (ix y2)) → J_X1_leastGapFor_31 Q (L_X1_leastGapFor_3 Q K38 K29 P y2 n) K38 K29 P y2 y3 σ) ∧ (¬ y3 < (gI σ 27 P (ix y2)) → S_X1_bears P y2 y3 σ (fun r2 σ1 => ((r2 = 0 → J_X1_leastGapFor_31 Q (L_X1_leastGapFor_3 Q K38 K29 P y2 n) K38 K29 P y2 y3 σ1) ∧ (¬ r2 = 0 → K29 y3 σ1)))))))
def S_X1_leastGapFor (P : Nat) (x2 : Int32) (σ : Hp) (Q : Int32 → Hp → Prop) : Prop :=
  (∃ n3, L_X1_leastGapFor_3 Q (fun σ4 => Q (-2) σ4) (fun w6 σ5 => Q w6 σ5) P x2 n3 8 σ)
set_option maxHeartbeats 2000000 in
set_option maxRecDepth 20000 in
theorem ok_X1_leastGapFor (l : Launch) (g : Gm) (P : Nat) (hP : P < 2) (x2 : Int32) (σ : Hp) (Q : Int32 → Hp → Prop) (h : S_X1_leastGapFor P x2 σ Q) : Ct l g yX1_leastGapFor cX1_leastGapFor 4 (some .int) 3 [.ref (gad g 1 0), .ref (gad g 2 P), .int x2] σ (QI Q) := by
  refine Ct.of (by decide +kernel) (Nat.le_of_ble_eq_true rfl) ?_
  intro p e R s m args below meth c C
  have C : Cx g p R s m args meth c cX1_leastGapFor 4 RX1 (some .int) 3 := C
  have j31 : ∀ (kb : Int32 → Hp → Prop) (K38 : Hp → Prop) (K29 : Int32 → Hp → Prop) (y2 : Int32) (y3 : Int32) (hkb : ∀ (v3 : Int32) (σ : Hp), kb v3 σ → G g p l e R s m args below meth c (QI Q) 4 3 [(1, .ref (gad g 2 P)), (2, .int y2), (3, .int v3)] [] σ) (hK38 : ∀ (σ : Hp), K38 σ → G g p l e R s m args below meth c (QI Q) 4 38 [] [] σ) (hK29 : ∀ (v3 : Int32) (σ : Hp), K29 v3 σ → G g p l e R s m args below meth c (QI Q) 4 29 [(3, .int v3)] [] σ) (σ : Hp), J_X1_leastGapFor_31 Q kb K38 K29 P y2 y3 σ → G g p l e R s m args below meth c (QI Q) 4 31 [(1, .ref (gad g 2 P)), (2, .int y2), (3, .int y3)] [] σ := by
    intro kb K38 K29 y2 y3 hkb hK38 hK29 σ h
    unfold J_X1_leastGapFor_31 at h
    refine r_iload_n C dX1_leastGapFor_31 rfl 2 rfl ?_
    refine r_iconst C dX1_leastGapFor_32 ic_2 ?_
    refine r_imul C dX1_leastGapFor_33 ?_
    refine r_istore_n C dX1_leastGapFor_34 rfl (Nat.le_of_ble_eq_true rfl) rfl ?_
    refine r_goto (tgt := 3) C dX1_leastGapFor_35 rfl ?_
    refine r_sub [1, 2, 0] rfl ?_
    exact hkb _ _ h
  have l3 : ∀ (K38 : Hp → Prop) (K29 : Int32 → Hp → Prop) (y2 : Int32) (hK38 : ∀ (σ : Hp), K38 σ → G g p l e R s m args below meth c (QI Q) 4 38 [] [] σ) (hK29 : ∀ (v3 : Int32) (σ : Hp), K29 v3 σ → G g p l e R s m args below meth c (QI Q) 4 29 [(3, .int v3)] [] σ) (n : Nat) (y3 : Int32) (σ : Hp), L_X1_leastGapFor_3 Q K38 K29 P y2 n y3 σ → G g p l e R s m args below meth c (QI Q) 4 3 [(1, .ref (gad g 2 P)), (2, .int y2), (3, .int y3)] [] σ := by
    intro K38 K29 y2 hK38 hK29 n
    induction n with
    | zero => intro y3 σ h; exact False.elim h
    | succ n ih =>
      intro y3 σ h
      unfold L_X1_leastGapFor_3 at h
      refine r_iload_n C dX1_leastGapFor_3 rfl 2 rfl ?_
      refine r_sipush C dX1_leastGapFor_4 si_256 ?_
      refine r_icmp_gt (tgt := 38) C dX1_leastGapFor_7 rfl (fun q => ?_) (fun q => ?_)
      · have h := h.1 q
        refine r_sub [] rfl ?_
        exact hK38 _ h
      · have h := h.2 q
        refine r_iload_n C dX1_leastGapFor_10 rfl 2 rfl ?_
        refine r_aload_n C dX1_leastGapFor_11 rfl 0 rfl ?_
        refine gf_1_61 C dX1_leastGapFor_12 (cn_2 hP) ?_
        refine r_iload_n C dX1_leastGapFor_15 rfl 1 rfl ?_
        obtain ⟨h0, h⟩ := h
        refine r_iaload C dX1_leastGapFor_16 ak_27 (cn_27 hP) al_27 h0 ?_
        refine r_icmp_lt (tgt := 31) C dX1_leastGapFor_17 rfl (fun q => ?_) (fun q => ?_)
        · have h := h.1 q
          exact j31 _ _ _ _ _ ih hK38 hK29 _ h
        · have h := h.2 q
          refine r_aload_n C dX1_leastGapFor_20 rfl 0 rfl ?_
          refine r_iload_n C dX1_leastGapFor_21 rfl 1 rfl ?_
          refine r_iload_n C dX1_leastGapFor_22 rfl 2 rfl ?_
          refine r_callSi [] C dX1_leastGapFor_23 w_1_87 (ok_X1_bears l g P hP _ _ _ _ h) (Nat.le_of_ble_eq_true rfl) rfl rfl (Nat.le_of_ble_eq_true rfl) (fun r2 σ1 h => ?_)
          refine r_if_eq (tgt := 31) C dX1_leastGapFor_26 rfl (fun q => ?_) (fun q => ?_)
          · have h := h.1 q
            exact j31 _ _ _ _ _ ih hK38 hK29 _ h
          · have h := h.2 q
            refine r_sub [2] rfl ?_
            exact hK29 _ _ h
  unfold S_X1_leastGapFor at h
  show G g p l e R s m args below meth c (QI Q) 4 0 [(0, .ref (gad g 1 0)), (1, .ref (gad g 2 P)), (2, .int x2)] [] σ
  refine r_bipush C dX1_leastGapFor_0 bi_8 ?_
  refine r_istore_n C dX1_leastGapFor_2 rfl (Nat.le_of_ble_eq_true rfl) rfl ?_
  refine r_sub [2, 3, 0] rfl ?_
  obtain ⟨n3, h⟩ := h
  refine l3 _ _ _ (fun σ4 h => ?_) (fun w6 σ5 h => ?_) n3 _ _ h
  · refine r_bipush C dX1_leastGapFor_38 bi_m2 ?_
    exact r_ireturn C dX1_leastGapFor_40 ⟨_, rfl, h⟩
  · refine r_iload_n C dX1_leastGapFor_29 rfl 0 rfl ?_
    exact r_ireturn C dX1_leastGapFor_30 ⟨_, rfl, h⟩
def S_X2_clear (P : Nat) (σ : Hp) (Q : Hp → Prop) : Prop :=
  ∀ σ1, σ1 = sI σ 2 P 0 0 → ∀ σ2, σ2 = sI σ1 2 P 5 0 → ∀ σ3, σ3 = sI σ2 2 P 6 0 → Q σ3
set_option maxHeartbeats 2000000 in
set_option maxRecDepth 20000 in
theorem ok_X2_clear (l : Launch) (g : Gm) (P : Nat) (hP : P < 2) (σ : Hp) (Q : Hp → Prop) (h : S_X2_clear P σ Q) : Ct l g yX2_clear cX2_clear 1 none 0 [.ref (gad g 2 P)] σ (QV Q) := by
  refine Ct.of (by decide +kernel) (Nat.le_of_ble_eq_true rfl) ?_
  intro p e R s m args below meth c C
  have C : Cx g p R s m args meth c cX2_clear 1 RX2 none 0 := C
  unfold S_X2_clear at h
  show G g p l e R s m args below meth c (QV Q) 1 0 [(0, .ref (gad g 2 P))] [] σ
  refine r_aload_n C dX2_clear_0 rfl 0 rfl ?_
  refine r_iconst C dX2_clear_1 ic_0 ?_
  refine pf_2_9 C dX2_clear_2 (cn_2 hP) ?_
  have h := h _ rfl
  refine r_aload_n C dX2_clear_5 rfl 0 rfl ?_
  refine r_iconst C dX2_clear_6 ic_0 ?_
  refine pf_2_27 C dX2_clear_7 (cn_2 hP) ?_
  have h := h _ rfl
  refine r_aload_n C dX2_clear_10 rfl 0 rfl ?_
  refine r_iconst C dX2_clear_11 ic_0 ?_
  refine pf_2_30 C dX2_clear_12 (cn_2 hP) ?_
  have h := h _ rfl
  exact r_return C dX2_clear_15 ⟨rfl, h⟩
def S_X2_hasEnd (P : Nat) (x1 : Int32) (σ : Hp) (Q : Int32 → Hp → Prop) : Prop :=
  ((x1 < 0 → Q 0 σ) ∧ (¬ x1 < 0 → (((gI σ 2 P 5) ≤ x1 → Q 0 σ) ∧ (¬ (gI σ 2 P 5) ≤ x1 → Q 1 σ))))
set_option maxHeartbeats 2000000 in
set_option maxRecDepth 20000 in
theorem ok_X2_hasEnd (l : Launch) (g : Gm) (P : Nat) (hP : P < 2) (x1 : Int32) (σ : Hp) (Q : Int32 → Hp → Prop) (h : S_X2_hasEnd P x1 σ Q) : Ct l g yX2_hasEnd cX2_hasEnd 2 (some .boolean) 0 [.ref (gad g 2 P), .int x1] σ (QI Q) := by
  refine Ct.of (by decide +kernel) (Nat.le_of_ble_eq_true rfl) ?_
  intro p e R s m args below meth c C
  have C : Cx g p R s m args meth c cX2_hasEnd 2 RX2 (some .boolean) 0 := C
  unfold S_X2_hasEnd at h
  show G g p l e R s m args below meth c (QI Q) 2 0 [(0, .ref (gad g 2 P)), (1, .int x1)] [] σ
  refine r_iload_n C dX2_hasEnd_0 rfl 1 rfl ?_
  refine r_if_lt (tgt := 16) C dX2_hasEnd_1 rfl (fun q => ?_) (fun q => ?_)
  · have h := h.1 q
    refine r_iconst C dX2_hasEnd_16 ic_0 ?_
    exact r_zreturn C dX2_hasEnd_17 zb0.1 ⟨_, rfl, h⟩
  · have h := h.2 q
    refine r_iload_n C dX2_hasEnd_4 rfl 1 rfl ?_
    refine r_aload_n C dX2_hasEnd_5 rfl 0 rfl ?_
    refine gf_2_27 C dX2_hasEnd_6 (cn_2 hP) ?_
    refine r_icmp_ge (tgt := 16) C dX2_hasEnd_9 rfl (fun q => ?_) (fun q => ?_)
    · have h := h.1 q
      refine r_iconst C dX2_hasEnd_16 ic_0 ?_
      exact r_zreturn C dX2_hasEnd_17 zb0.1 ⟨_, rfl, h⟩
    · have h := h.2 q
      refine r_iconst C dX2_hasEnd_12 ic_1 ?_
      refine r_goto (tgt := 17) C dX2_hasEnd_13 rfl ?_
      exact r_zreturn C dX2_hasEnd_17 zb1.1 ⟨_, rfl, h⟩
def S_X2_hasLink (P : Nat) (x1 : Int32) (σ : Hp) (Q : Int32 → Hp → Prop) : Prop :=
  ((x1 < 0 → Q 0 σ) ∧ (¬ x1 < 0 → (((gI σ 2 P 6) ≤ x1 → Q 0 σ) ∧ (¬ (gI σ 2 P 6) ≤ x1 → Q 1 σ))))
set_option maxHeartbeats 2000000 in
set_option maxRecDepth 20000 in
theorem ok_X2_hasLink (l : Launch) (g : Gm) (P : Nat) (hP : P < 2) (x1 : Int32) (σ : Hp) (Q : Int32 → Hp → Prop) (h : S_X2_hasLink P x1 σ Q) : Ct l g yX2_hasLink cX2_hasLink 2 (some .boolean) 0 [.ref (gad g 2 P), .int x1] σ (QI Q) := by
  refine Ct.of (by decide +kernel) (Nat.le_of_ble_eq_true rfl) ?_
  intro p e R s m args below meth c C
  have C : Cx g p R s m args meth c cX2_hasLink 2 RX2 (some .boolean) 0 := C
  unfold S_X2_hasLink at h
  show G g p l e R s m args below meth c (QI Q) 2 0 [(0, .ref (gad g 2 P)), (1, .int x1)] [] σ
  refine r_iload_n C dX2_hasLink_0 rfl 1 rfl ?_
  refine r_if_lt (tgt := 16) C dX2_hasLink_1 rfl (fun q => ?_) (fun q => ?_)
  · have h := h.1 q
    refine r_iconst C dX2_hasLink_16 ic_0 ?_
    exact r_zreturn C dX2_hasLink_17 zb0.1 ⟨_, rfl, h⟩
  · have h := h.2 q
    refine r_iload_n C dX2_hasLink_4 rfl 1 rfl ?_
    refine r_aload_n C dX2_hasLink_5 rfl 0 rfl ?_
    refine gf_2_30 C dX2_hasLink_6 (cn_2 hP) ?_
    refine r_icmp_ge (tgt := 16) C dX2_hasLink_9 rfl (fun q => ?_) (fun q => ?_)
    · have h := h.1 q
      refine r_iconst C dX2_hasLink_16 ic_0 ?_
      exact r_zreturn C dX2_hasLink_17 zb0.1 ⟨_, rfl, h⟩
    · have h := h.2 q
      refine r_iconst C dX2_hasLink_12 ic_1 ?_
      refine r_goto (tgt := 17) C dX2_hasLink_13 rfl ?_
      exact r_zreturn C dX2_hasLink_17 zb1.1 ⟨_, rfl, h⟩
def S_X2_hasReceiver (P : Nat) (x1 : Int32) (x2 : Int32) (σ : Hp) (Q : Int32 → Hp → Prop) : Prop :=
  S_X2_hasLink P x1 σ (fun r2 σ1 => ((r2 = 0 → Q 0 σ1) ∧ (¬ r2 = 0 → ((x2 < 0 → Q 0 σ1) ∧ (¬ x2 < 0 → vp_in x1 8 ∧ (((gI σ1 28 P (ix x1)) ≤ x2 → Q 0 σ1) ∧ (¬ (gI σ1 28 P (ix x1)) ≤ x2 → Q 1 σ1)))))))
set_option maxHeartbeats 2000000 in
set_option maxRecDepth 20000 in
theorem ok_X2_hasReceiver (l : Launch) (g : Gm) (P : Nat) (hP : P < 2) (x1 : Int32) (x2 : Int32) (σ : Hp) (Q : Int32 → Hp → Prop) (h : S_X2_hasReceiver P x1 x2 σ Q) : Ct l g yX2_hasReceiver cX2_hasReceiver 3 (some .boolean) 1 [.ref (gad g 2 P), .int x1, .int x2] σ (QI Q) := by
  refine Ct.of (by decide +kernel) (Nat.le_of_ble_eq_true rfl) ?_
  intro p e R s m args below meth c C
  have C : Cx g p R s m args meth c cX2_hasReceiver 3 RX2 (some .boolean) 1 := C
  unfold S_X2_hasReceiver at h
  show G g p l e R s m args below meth c (QI Q) 3 0 [(0, .ref (gad g 2 P)), (1, .int x1), (2, .int x2)] [] σ
  refine r_aload_n C dX2_hasReceiver_0 rfl 0 rfl ?_
  refine r_iload_n C dX2_hasReceiver_1 rfl 1 rfl ?_
  refine r_callVi [] C dX2_hasReceiver_2 w_2_66 (ok_X2_hasLink l g P hP _ _ _ h) (Nat.le_of_ble_eq_true rfl) rfl rfl ak_2 (cn_2 hP) rfl rfl (Nat.le_of_ble_eq_true rfl) (fun r2 σ1 h => ?_)
  refine r_if_eq (tgt := 26) C dX2_hasReceiver_5 rfl (fun q => ?_) (fun q => ?_)
  · have h := h.1 q
    refine r_iconst C dX2_hasReceiver_26 ic_0 ?_
    exact r_zreturn C dX2_hasReceiver_27 zb0.1 ⟨_, rfl, h⟩
  · have h := h.2 q
    refine r_iload_n C dX2_hasReceiver_8 rfl 2 rfl ?_
    refine r_if_lt (tgt := 26) C dX2_hasReceiver_9 rfl (fun q => ?_) (fun q => ?_)
    · have h := h.1 q
      refine r_iconst C dX2_hasReceiver_26 ic_0 ?_
      exact r_zreturn C dX2_hasReceiver_27 zb0.1 ⟨_, rfl, h⟩
    · have h := h.2 q
      refine r_iload_n C dX2_hasReceiver_12 rfl 2 rfl ?_
      refine r_aload_n C dX2_hasReceiver_13 rfl 0 rfl ?_
      refine gf_2_53 C dX2_hasReceiver_14 (cn_2 hP) ?_
      refine r_iload_n C dX2_hasReceiver_17 rfl 1 rfl ?_
      obtain ⟨h0, h⟩ := h
      refine r_iaload C dX2_hasReceiver_18 ak_28 (cn_28 hP) al_28 h0 ?_
      refine r_icmp_ge (tgt := 26) C dX2_hasReceiver_19 rfl (fun q => ?_) (fun q => ?_)
      · have h := h.1 q
        refine r_iconst C dX2_hasReceiver_26 ic_0 ?_
        exact r_zreturn C dX2_hasReceiver_27 zb0.1 ⟨_, rfl, h⟩
      · have h := h.2 q
        refine r_iconst C dX2_hasReceiver_22 ic_1 ?_
        refine r_goto (tgt := 27) C dX2_hasReceiver_23 rfl ?_
        exact r_zreturn C dX2_hasReceiver_27 zb1.1 ⟨_, rfl, h⟩
def S_X2_hasPort (P : Nat) (x1 : Int32) (σ : Hp) (Q : Int32 → Hp → Prop) : Prop :=
  (((6 : Int32) ≤ x1 → (((12 : Int32) ≤ x1 → (((14 : Int32) ≤ x1 → (((16 : Int32) ≤ x1 → Q 0 σ) ∧ (¬ (16 : Int32) ≤ x1 → (((gI σ 2 P 0) ≤ ((x1 - 14) + 1) → Q 0 σ) ∧ (¬ (gI σ 2 P 0) ≤ ((x1 - 14) + 1) → Q 1 σ))))) ∧ (¬ (14 : Int32) ≤ x1 → (((gI σ 2 P 0) ≤ ((x1 - 12) + 1) → Q 0 σ) ∧ (¬ (gI σ 2 P 0) ≤ ((x1 - 12) + 1) → Q 1 σ))))) ∧ (¬ (12 : Int32) ≤ x1 → S_X2_hasEnd P (x1 - 6) σ (fun r2 σ1 => zb r2 ∧ Q r2 σ1)))) ∧ (¬ (6 : Int32) ≤ x1 → S_X2_hasEnd P x1 σ (fun r4 σ3 => zb r4 ∧ Q r4 σ3)))
set_option maxHeartbeats 2000000 in
set_option maxRecDepth 20000 in
theorem ok_X2_hasPort (l : Launch) (g : Gm) (P : Nat) (hP : P < 2) (x1 : Int32) (σ : Hp) (Q : Int32 → Hp → Prop) (h : S_X2_hasPort P x1 σ Q) : Ct l g yX2_hasPort cX2_hasPort 2 (some .boolean) 1 [.ref (gad g 2 P), .int x1] σ (QI Q) := by
  refine Ct.of (by decide +kernel) (Nat.le_of_ble_eq_true rfl) ?_
  intro p e R s m args below meth c C
  have C : Cx g p R s m args meth c cX2_hasPort 2 RX2 (some .boolean) 1 := C
  unfold S_X2_hasPort at h
  show G g p l e R s m args below meth c (QI Q) 2 0 [(0, .ref (gad g 2 P)), (1, .int x1)] [] σ
  refine r_iload_n C dX2_hasPort_0 rfl 1 rfl ?_
  refine r_bipush C dX2_hasPort_1 bi_6 ?_
  refine r_icmp_ge (tgt := 12) C dX2_hasPort_3 rfl (fun q => ?_) (fun q => ?_)
  · have h := h.1 q
    refine r_iload_n C dX2_hasPort_12 rfl 1 rfl ?_
    refine r_bipush C dX2_hasPort_13 bi_12 ?_
    refine r_icmp_ge (tgt := 27) C dX2_hasPort_15 rfl (fun q => ?_) (fun q => ?_)
    · have h := h.1 q
      refine r_iload_n C dX2_hasPort_27 rfl 1 rfl ?_
      refine r_bipush C dX2_hasPort_28 bi_14 ?_
      refine r_icmp_ge (tgt := 52) C dX2_hasPort_30 rfl (fun q => ?_) (fun q => ?_)
      · have h := h.1 q
        refine r_iload_n C dX2_hasPort_52 rfl 1 rfl ?_
        refine r_bipush C dX2_hasPort_53 bi_16 ?_
        refine r_icmp_ge (tgt := 75) C dX2_hasPort_55 rfl (fun q => ?_) (fun q => ?_)
        · have h := h.1 q
          refine r_iconst C dX2_hasPort_75 ic_0 ?_
          exact r_zreturn C dX2_hasPort_76 zb0.1 ⟨_, rfl, h⟩
        · have h := h.2 q
          refine r_iload_n C dX2_hasPort_58 rfl 1 rfl ?_
          refine r_bipush C dX2_hasPort_59 bi_14 ?_
          refine r_isub C dX2_hasPort_61 ?_
          refine r_iconst C dX2_hasPort_62 ic_1 ?_
          refine r_iadd C dX2_hasPort_63 ?_
          refine r_aload_n C dX2_hasPort_64 rfl 0 rfl ?_
          refine gf_2_9 C dX2_hasPort_65 (cn_2 hP) ?_
          refine r_icmp_ge (tgt := 75) C dX2_hasPort_68 rfl (fun q => ?_) (fun q => ?_)
          · have h := h.1 q
            refine r_iconst C dX2_hasPort_75 ic_0 ?_
            exact r_zreturn C dX2_hasPort_76 zb0.1 ⟨_, rfl, h⟩
          · have h := h.2 q
            refine r_iconst C dX2_hasPort_71 ic_1 ?_
            refine r_goto (tgt := 76) C dX2_hasPort_72 rfl ?_
            exact r_zreturn C dX2_hasPort_76 zb1.1 ⟨_, rfl, h⟩
      · have h := h.2 q
        refine r_iload_n C dX2_hasPort_33 rfl 1 rfl ?_
        refine r_bipush C dX2_hasPort_34 bi_12 ?_
        refine r_isub C dX2_hasPort_36 ?_
        refine r_iconst C dX2_hasPort_37 ic_1 ?_
        refine r_iadd C dX2_hasPort_38 ?_
        refine r_aload_n C dX2_hasPort_39 rfl 0 rfl ?_
        refine gf_2_9 C dX2_hasPort_40 (cn_2 hP) ?_
        refine r_icmp_ge (tgt := 50) C dX2_hasPort_43 rfl (fun q => ?_) (fun q => ?_)
        · have h := h.1 q
          refine r_iconst C dX2_hasPort_50 ic_0 ?_
          exact r_zreturn C dX2_hasPort_51 zb0.1 ⟨_, rfl, h⟩
        · have h := h.2 q
          refine r_iconst C dX2_hasPort_46 ic_1 ?_
          refine r_goto (tgt := 51) C dX2_hasPort_47 rfl ?_
          exact r_zreturn C dX2_hasPort_51 zb1.1 ⟨_, rfl, h⟩
    · have h := h.2 q
      refine r_aload_n C dX2_hasPort_18 rfl 0 rfl ?_
      refine r_iload_n C dX2_hasPort_19 rfl 1 rfl ?_
      refine r_bipush C dX2_hasPort_20 bi_6 ?_
      refine r_isub C dX2_hasPort_22 ?_
      refine r_callVi [] C dX2_hasPort_23 w_2_70 (ok_X2_hasEnd l g P hP _ _ _ h) (Nat.le_of_ble_eq_true rfl) rfl rfl ak_2 (cn_2 hP) rfl rfl (Nat.le_of_ble_eq_true rfl) (fun r2 σ1 h => ?_)
      obtain ⟨h0, h⟩ := h
      exact r_zreturn C dX2_hasPort_26 h0.1 ⟨_, rfl, h⟩
  · have h := h.2 q
    refine r_aload_n C dX2_hasPort_6 rfl 0 rfl ?_
    refine r_iload_n C dX2_hasPort_7 rfl 1 rfl ?_
    refine r_callVi [] C dX2_hasPort_8 w_2_70 (ok_X2_hasEnd l g P hP _ _ _ h) (Nat.le_of_ble_eq_true rfl) rfl rfl ak_2 (cn_2 hP) rfl rfl (Nat.le_of_ble_eq_true rfl) (fun r4 σ3 h => ?_)
    obtain ⟨h0, h⟩ := h
    exact r_zreturn C dX2_hasPort_11 h0.1 ⟨_, rfl, h⟩
def L_X2_endNamed_2 (Q : Int32 → Hp → Prop) (K29 : Hp → Prop) (K21 : Int32 → Hp → Prop) (P : Nat) (y1 : Int64) : Nat → Int32 → Hp → Prop
  | 0, _, _ => False
  | n + 1, y3, σ =>
  (((gI σ 2 P 5) ≤ y3 → K29 σ) ∧ (¬ (gI σ 2 P 5) ≤ y3 → vp_in y3 6 ∧ ((¬ (lg_cmp (gL σ 23 P (ix y3)) y1) = 0 → L_X2_endNamed_2 Q K29 K21 P y1 n (y3 + 1) σ) ∧ ((lg_cmp (gL σ 23 P (ix y3)) y1) = 0 → K21 y3 σ))))
def S_X2_endNamed (P : Nat) (x1 : Int64) (σ : Hp) (Q : Int32 → Hp → Prop) : Prop :=
  (∃ n1, L_X2_endNamed_2 Q (fun σ2 => Q (-1) σ2) (fun w4 σ3 => Q w4 σ3) P x1 n1 0 σ)
set_option maxHeartbeats 2000000 in
set_option maxRecDepth 20000 in
theorem ok_X2_endNamed (l : Launch) (g : Gm) (P : Nat) (hP : P < 2) (x1 : Int64) (σ : Hp) (Q : Int32 → Hp → Prop) (h : S_X2_endNamed P x1 σ Q) : Ct l g yX2_endNamed cX2_endNamed 4 (some .int) 0 [.ref (gad g 2 P), .long x1] σ (QI Q) := by
  refine Ct.of (by decide +kernel) (Nat.le_of_ble_eq_true rfl) ?_
  intro p e R s m args below meth c C
  have C : Cx g p R s m args meth c cX2_endNamed 4 RX2 (some .int) 0 := C
  have l2 : ∀ (K29 : Hp → Prop) (K21 : Int32 → Hp → Prop) (y1 : Int64) (hK29 : ∀ (σ : Hp), K29 σ → G g p l e R s m args below meth c (QI Q) 4 29 [] [] σ) (hK21 : ∀ (v3 : Int32) (σ : Hp), K21 v3 σ → G g p l e R s m args below meth c (QI Q) 4 21 [(3, .int v3)] [] σ) (n : Nat) (y3 : Int32) (σ : Hp), L_X2_endNamed_2 Q K29 K21 P y1 n y3 σ → G g p l e R s m args below meth c (QI Q) 4 2 [(0, .ref (gad g 2 P)), (1, .long y1), (3, .int y3)] [] σ := by
    intro K29 K21 y1 hK29 hK21 n
    induction n with
    | zero => intro y3 σ h; exact False.elim h
    | succ n ih =>
      intro y3 σ h
      unfold L_X2_endNamed_2 at h
      refine r_iload_n C dX2_endNamed_2 rfl 2 rfl ?_
      refine r_aload_n C dX2_endNamed_3 rfl 0 rfl ?_
      refine gf_2_27 C dX2_endNamed_4 (cn_2 hP) ?_
      refine r_icmp_ge (tgt := 29) C dX2_endNamed_7 rfl (fun q => ?_) (fun q => ?_)
      · have h := h.1 q
        refine r_sub [] rfl ?_
        exact hK29 _ h
      · have h := h.2 q
        refine r_aload_n C dX2_endNamed_10 rfl 0 rfl ?_
        refine gf_2_37 C dX2_endNamed_11 (cn_2 hP) ?_
        refine r_iload_n C dX2_endNamed_14 rfl 2 rfl ?_
        obtain ⟨h0, h⟩ := h
        refine r_laload C dX2_endNamed_15 ak_23 (cn_23 hP) al_23 h0 ?_
        refine r_lload_n C dX2_endNamed_16 rfl 1 rfl ?_
        refine r_lcmp C dX2_endNamed_17 ?_
        refine r_if_ne (tgt := 23) C dX2_endNamed_18 rfl (fun q => ?_) (fun q => ?_)
        · have h := h.1 q
          refine r_iinc (v := y3 + 1) C dX2_endNamed_23 2 rfl rfl (Nat.le_of_ble_eq_true rfl) rfl ?_
          refine r_goto (tgt := 2) C dX2_endNamed_26 rfl ?_
          refine r_sub [1, 2, 0] rfl ?_
          exact ih _ _ h
        · have h := h.2 q
          refine r_sub [2] rfl ?_
          exact hK21 _ _ h
  unfold S_X2_endNamed at h
  show G g p l e R s m args below meth c (QI Q) 4 0 [(0, .ref (gad g 2 P)), (1, .long x1)] [] σ
  refine r_iconst C dX2_endNamed_0 ic_0 ?_
  refine r_istore_n C dX2_endNamed_1 rfl (Nat.le_of_ble_eq_true rfl) rfl ?_
  refine r_sub [1, 2, 0] rfl ?_
  obtain ⟨n1, h⟩ := h
  refine l2 _ _ _ (fun σ2 h => ?_) (fun w4 σ3 h => ?_) n1 _ _ h
  · refine r_iconst C dX2_endNamed_29 ic_m1 ?_
    exact r_ireturn C dX2_endNamed_30 ⟨_, rfl, h⟩
  · refine r_iload_n C dX2_endNamed_21 rfl 0 rfl ?_
    exact r_ireturn C dX2_endNamed_22 ⟨_, rfl, h⟩
def L_X2_linkNamed_2 (Q : Int32 → Hp → Prop) (K29 : Hp → Prop) (K21 : Int32 → Hp → Prop) (P : Nat) (y1 : Int64) : Nat → Int32 → Hp → Prop
  | 0, _, _ => False
  | n + 1, y3, σ =>
  (((gI σ 2 P 6) ≤ y3 → K29 σ) ∧ (¬ (gI σ 2 P 6) ≤ y3 → vp_in y3 8 ∧ ((¬ (lg_cmp (gL σ 24 P (ix y3)) y1) = 0 → L_X2_linkNamed_2 Q K29 K21 P y1 n (y3 + 1) σ) ∧ ((lg_cmp (gL σ 24 P (ix y3)) y1) = 0 → K21 y3 σ))))
def S_X2_linkNamed (P : Nat) (x1 : Int64) (σ : Hp) (Q : Int32 → Hp → Prop) : Prop :=
  (∃ n1, L_X2_linkNamed_2 Q (fun σ2 => Q (-1) σ2) (fun w4 σ3 => Q w4 σ3) P x1 n1 0 σ)
set_option maxHeartbeats 2000000 in
set_option maxRecDepth 20000 in
theorem ok_X2_linkNamed (l : Launch) (g : Gm) (P : Nat) (hP : P < 2) (x1 : Int64) (σ : Hp) (Q : Int32 → Hp → Prop) (h : S_X2_linkNamed P x1 σ Q) : Ct l g yX2_linkNamed cX2_linkNamed 4 (some .int) 0 [.ref (gad g 2 P), .long x1] σ (QI Q) := by
  refine Ct.of (by decide +kernel) (Nat.le_of_ble_eq_true rfl) ?_
  intro p e R s m args below meth c C
  have C : Cx g p R s m args meth c cX2_linkNamed 4 RX2 (some .int) 0 := C
  have l2 : ∀ (K29 : Hp → Prop) (K21 : Int32 → Hp → Prop) (y1 : Int64) (hK29 : ∀ (σ : Hp), K29 σ → G g p l e R s m args below meth c (QI Q) 4 29 [] [] σ) (hK21 : ∀ (v3 : Int32) (σ : Hp), K21 v3 σ → G g p l e R s m args below meth c (QI Q) 4 21 [(3, .int v3)] [] σ) (n : Nat) (y3 : Int32) (σ : Hp), L_X2_linkNamed_2 Q K29 K21 P y1 n y3 σ → G g p l e R s m args below meth c (QI Q) 4 2 [(0, .ref (gad g 2 P)), (1, .long y1), (3, .int y3)] [] σ := by
    intro K29 K21 y1 hK29 hK21 n
    induction n with
    | zero => intro y3 σ h; exact False.elim h
    | succ n ih =>
      intro y3 σ h
      unfold L_X2_linkNamed_2 at h
      refine r_iload_n C dX2_linkNamed_2 rfl 2 rfl ?_
      refine r_aload_n C dX2_linkNamed_3 rfl 0 rfl ?_
      refine gf_2_30 C dX2_linkNamed_4 (cn_2 hP) ?_
      refine r_icmp_ge (tgt := 29) C dX2_linkNamed_7 rfl (fun q => ?_) (fun q => ?_)
      · have h := h.1 q
        refine r_sub [] rfl ?_
        exact hK29 _ h
      · have h := h.2 q
        refine r_aload_n C dX2_linkNamed_10 rfl 0 rfl ?_
        refine gf_2_41 C dX2_linkNamed_11 (cn_2 hP) ?_
        refine r_iload_n C dX2_linkNamed_14 rfl 2 rfl ?_
        obtain ⟨h0, h⟩ := h
        refine r_laload C dX2_linkNamed_15 ak_24 (cn_24 hP) al_24 h0 ?_
        refine r_lload_n C dX2_linkNamed_16 rfl 1 rfl ?_
        refine r_lcmp C dX2_linkNamed_17 ?_
        refine r_if_ne (tgt := 23) C dX2_linkNamed_18 rfl (fun q => ?_) (fun q => ?_)
        · have h := h.1 q
          refine r_iinc (v := y3 + 1) C dX2_linkNamed_23 2 rfl rfl (Nat.le_of_ble_eq_true rfl) rfl ?_
          refine r_goto (tgt := 2) C dX2_linkNamed_26 rfl ?_
          refine r_sub [1, 2, 0] rfl ?_
          exact ih _ _ h
        · have h := h.2 q
          refine r_sub [2] rfl ?_
          exact hK21 _ _ h
  unfold S_X2_linkNamed at h
  show G g p l e R s m args below meth c (QI Q) 4 0 [(0, .ref (gad g 2 P)), (1, .long x1)] [] σ
  refine r_iconst C dX2_linkNamed_0 ic_0 ?_
  refine r_istore_n C dX2_linkNamed_1 rfl (Nat.le_of_ble_eq_true rfl) rfl ?_
  refine r_sub [1, 2, 0] rfl ?_
  obtain ⟨n1, h⟩ := h
  refine l2 _ _ _ (fun σ2 h => ?_) (fun w4 σ3 h => ?_) n1 _ _ h
  · refine r_iconst C dX2_linkNamed_29 ic_m1 ?_
    exact r_ireturn C dX2_linkNamed_30 ⟨_, rfl, h⟩
  · refine r_iload_n C dX2_linkNamed_21 rfl 0 rfl ?_
    exact r_ireturn C dX2_linkNamed_22 ⟨_, rfl, h⟩
def L_X2_allReceivers_4 (Q : Int32 → Hp → Prop) (K27 : Int32 → Hp → Prop) (P : Nat) : Nat → Int32 → Int32 → Hp → Prop
  | 0, _, _, _ => False
  | n + 1, y1, y2, σ =>
  (((gI σ 2 P 6) ≤ y2 → K27 y1 σ) ∧ (¬ (gI σ 2 P 6) ≤ y2 → vp_in y2 8 ∧ L_X2_allReceivers_4 Q K27 P n (y1 + (gI σ 28 P (ix y2))) (y2 + 1) σ))
def S_X2_allReceivers (P : Nat) (σ : Hp) (Q : Int32 → Hp → Prop) : Prop :=
  (∃ n1, L_X2_allReceivers_4 Q (fun w3 σ2 => Q w3 σ2) P n1 0 0 σ)
set_option maxHeartbeats 2000000 in
set_option maxRecDepth 20000 in
theorem ok_X2_allReceivers (l : Launch) (g : Gm) (P : Nat) (hP : P < 2) (σ : Hp) (Q : Int32 → Hp → Prop) (h : S_X2_allReceivers P σ Q) : Ct l g yX2_allReceivers cX2_allReceivers 3 (some .int) 0 [.ref (gad g 2 P)] σ (QI Q) := by
  refine Ct.of (by decide +kernel) (Nat.le_of_ble_eq_true rfl) ?_
  intro p e R s m args below meth c C
  have C : Cx g p R s m args meth c cX2_allReceivers 3 RX2 (some .int) 0 := C
  have l4 : ∀ (K27 : Int32 → Hp → Prop) (hK27 : ∀ (v1 : Int32) (σ : Hp), K27 v1 σ → G g p l e R s m args below meth c (QI Q) 3 27 [(1, .int v1)] [] σ) (n : Nat) (y1 : Int32) (y2 : Int32) (σ : Hp), L_X2_allReceivers_4 Q K27 P n y1 y2 σ → G g p l e R s m args below meth c (QI Q) 3 4 [(0, .ref (gad g 2 P)), (1, .int y1), (2, .int y2)] [] σ := by
    intro K27 hK27 n
    induction n with
    | zero => intro y1 y2 σ h; exact False.elim h
    | succ n ih =>
      intro y1 y2 σ h
      unfold L_X2_allReceivers_4 at h
      refine r_iload_n C dX2_allReceivers_4 rfl 2 rfl ?_
      refine r_aload_n C dX2_allReceivers_5 rfl 0 rfl ?_
      refine gf_2_30 C dX2_allReceivers_6 (cn_2 hP) ?_
      refine r_icmp_ge (tgt := 27) C dX2_allReceivers_9 rfl (fun q => ?_) (fun q => ?_)
      · have h := h.1 q
        refine r_sub [1] rfl ?_
        exact hK27 _ _ h
      · have h := h.2 q
        refine r_iload_n C dX2_allReceivers_12 rfl 1 rfl ?_
        refine r_aload_n C dX2_allReceivers_13 rfl 0 rfl ?_
        refine gf_2_53 C dX2_allReceivers_14 (cn_2 hP) ?_
        refine r_iload_n C dX2_allReceivers_17 rfl 2 rfl ?_
        obtain ⟨h0, h⟩ := h
        refine r_iaload C dX2_allReceivers_18 ak_28 (cn_28 hP) al_28 h0 ?_
        refine r_iadd C dX2_allReceivers_19 ?_
        refine r_istore_n C dX2_allReceivers_20 rfl (Nat.le_of_ble_eq_true rfl) rfl ?_
        refine r_iinc (v := y2 + 1) C dX2_allReceivers_21 2 rfl rfl (Nat.le_of_ble_eq_true rfl) rfl ?_
        refine r_goto (tgt := 4) C dX2_allReceivers_24 rfl ?_
        refine r_sub [2, 1, 0] rfl ?_
        exact ih _ _ _ h
  unfold S_X2_allReceivers at h
  show G g p l e R s m args below meth c (QI Q) 3 0 [(0, .ref (gad g 2 P))] [] σ
  refine r_iconst C dX2_allReceivers_0 ic_0 ?_
  refine r_istore_n C dX2_allReceivers_1 rfl (Nat.le_of_ble_eq_true rfl) rfl ?_
  refine r_iconst C dX2_allReceivers_2 ic_0 ?_
  refine r_istore_n C dX2_allReceivers_3 rfl (Nat.le_of_ble_eq_true rfl) rfl ?_
  refine r_sub [2, 1, 0] rfl ?_
  obtain ⟨n1, h⟩ := h
  refine l4 _ (fun w3 σ2 h => ?_) n1 _ _ _ h
  refine r_iload_n C dX2_allReceivers_27 rfl 0 rfl ?_
  exact r_ireturn C dX2_allReceivers_28 ⟨_, rfl, h⟩
def L_X2_earAt_2 (Q : Int32 → Hp → Prop) (K38 : Hp → Prop) (K26 : Int32 → Hp → Prop) (P : Nat) (y1 : Int32) (y2 : Int32) : Nat → Int32 → Hp → Prop
  | 0, _, _ => False
  | n + 1, y3, σ =>
  vp_in y1 8 ∧ (((gI σ 28 P (ix y1)) ≤ y3 → K38 σ) ∧ (¬ (gI σ 28 P (ix y1)) ≤ y3 → S_X7_earOf y1 y3 σ (fun r2 σ1 => vp_in r2 24 ∧ ((¬ (gI σ1 29 P (ix r2)) = y2 → L_X2_earAt_2 Q K38 K26 P y1 y2 n (y3 + 1) σ1) ∧ ((gI σ1 29 P (ix r2)) = y2 → K26 y3 σ1)))))
def S_X2_earAt (P : Nat) (x1 : Int32) (x2 : Int32) (σ : Hp) (Q : Int32 → Hp → Prop) : Prop :=
  (∃ n3, L_X2_earAt_2 Q (fun σ4 => Q (-1) σ4) (fun w6 σ5 => S_X7_earOf x1 w6 σ5 (fun r8 σ7 => Q r8 σ7)) P x1 x2 n3 0 σ)
set_option maxHeartbeats 2000000 in
set_option maxRecDepth 20000 in
theorem ok_X2_earAt (l : Launch) (g : Gm) (P : Nat) (hP : P < 2) (x1 : Int32) (x2 : Int32) (σ : Hp) (Q : Int32 → Hp → Prop) (h : S_X2_earAt P x1 x2 σ Q) : Ct l g yX2_earAt cX2_earAt 4 (some .int) 1 [.ref (gad g 2 P), .int x1, .int x2] σ (QI Q) := by
  refine Ct.of (by decide +kernel) (Nat.le_of_ble_eq_true rfl) ?_
  intro p e R s m args below meth c C
  have C : Cx g p R s m args meth c cX2_earAt 4 RX2 (some .int) 1 := C
  have l2 : ∀ (K38 : Hp → Prop) (K26 : Int32 → Hp → Prop) (y1 : Int32) (y2 : Int32) (hK38 : ∀ (σ : Hp), K38 σ → G g p l e R s m args below meth c (QI Q) 4 38 [] [] σ) (hK26 : ∀ (v3 : Int32) (σ : Hp), K26 v3 σ → G g p l e R s m args below meth c (QI Q) 4 26 [(1, .int y1), (3, .int v3)] [] σ) (n : Nat) (y3 : Int32) (σ : Hp), L_X2_earAt_2 Q K38 K26 P y1 y2 n y3 σ → G g p l e R s m args below meth c (QI Q) 4 2 [(0, .ref (gad g 2 P)), (1, .int y1), (2, .int y2), (3, .int y3)] [] σ := by
    intro K38 K26 y1 y2 hK38 hK26 n
    induction n with
    | zero => intro y3 σ h; exact False.elim h
    | succ n ih =>
      intro y3 σ h
      unfold L_X2_earAt_2 at h
      refine r_iload_n C dX2_earAt_2 rfl 3 rfl ?_
      refine r_aload_n C dX2_earAt_3 rfl 0 rfl ?_
      refine gf_2_53 C dX2_earAt_4 (cn_2 hP) ?_
      refine r_iload_n C dX2_earAt_7 rfl 1 rfl ?_
      obtain ⟨h0, h⟩ := h
      refine r_iaload C dX2_earAt_8 ak_28 (cn_28 hP) al_28 h0 ?_
      refine r_icmp_ge (tgt := 38) C dX2_earAt_9 rfl (fun q => ?_) (fun q => ?_)
      · have h := h.1 q
        refine r_sub [] rfl ?_
        exact hK38 _ h
      · have h := h.2 q
        refine r_aload_n C dX2_earAt_12 rfl 0 rfl ?_
        refine gf_2_56 C dX2_earAt_13 (cn_2 hP) ?_
        refine r_iload_n C dX2_earAt_16 rfl 1 rfl ?_
        refine r_iload_n C dX2_earAt_17 rfl 3 rfl ?_
        refine r_callNi [.ref (gad g 29 P)] C dX2_earAt_18 w_2_73 (ok_X7_earOf l g _ _ _ _ h) (Nat.le_of_ble_eq_true rfl) rfl rfl (Nat.le_of_ble_eq_true rfl) (fun r2 σ1 h => ?_)
        obtain ⟨h0, h⟩ := h
        refine r_iaload C dX2_earAt_21 ak_29 (cn_29 hP) al_29 h0 ?_
        refine r_iload_n C dX2_earAt_22 rfl 2 rfl ?_
        refine r_icmp_ne (tgt := 32) C dX2_earAt_23 rfl (fun q => ?_) (fun q => ?_)
        · have h := h.1 q
          refine r_iinc (v := y3 + 1) C dX2_earAt_32 3 rfl rfl (Nat.le_of_ble_eq_true rfl) rfl ?_
          refine r_goto (tgt := 2) C dX2_earAt_35 rfl ?_
          refine r_sub [1, 2, 3, 0] rfl ?_
          exact ih _ _ h
        · have h := h.2 q
          refine r_sub [1, 3] rfl ?_
          exact hK26 _ _ h
  unfold S_X2_earAt at h
  show G g p l e R s m args below meth c (QI Q) 4 0 [(0, .ref (gad g 2 P)), (1, .int x1), (2, .int x2)] [] σ
  refine r_iconst C dX2_earAt_0 ic_0 ?_
  refine r_istore_n C dX2_earAt_1 rfl (Nat.le_of_ble_eq_true rfl) rfl ?_
  refine r_sub [1, 2, 3, 0] rfl ?_
  obtain ⟨n3, h⟩ := h
  refine l2 _ _ _ _ (fun σ4 h => ?_) (fun w6 σ5 h => ?_) n3 _ _ h
  · refine r_iconst C dX2_earAt_38 ic_m1 ?_
    exact r_ireturn C dX2_earAt_39 ⟨_, rfl, h⟩
  · refine r_iload_n C dX2_earAt_26 rfl 0 rfl ?_
    refine r_iload_n C dX2_earAt_27 rfl 1 rfl ?_
    refine r_callNi [] C dX2_earAt_28 w_2_73 (ok_X7_earOf l g _ _ _ _ h) (Nat.le_of_ble_eq_true rfl) rfl rfl (Nat.le_of_ble_eq_true rfl) (fun r8 σ7 h => ?_)
    exact r_ireturn C dX2_earAt_31 ⟨_, rfl, h⟩
def S_X2_creditLimit (P : Nat) (x1 : Int32) (σ : Hp) (Q : Int32 → Hp → Prop) : Prop :=
  vp_in x1 8 ∧ vp_in x1 8 ∧ Q ((gI σ 27 P (ix x1)) * ((gI σ 26 P (ix x1)) + (gI σ 2 P 2))) σ
set_option maxHeartbeats 2000000 in
set_option maxRecDepth 20000 in
theorem ok_X2_creditLimit (l : Launch) (g : Gm) (P : Nat) (hP : P < 2) (x1 : Int32) (σ : Hp) (Q : Int32 → Hp → Prop) (h : S_X2_creditLimit P x1 σ Q) : Ct l g yX2_creditLimit cX2_creditLimit 2 (some .int) 0 [.ref (gad g 2 P), .int x1] σ (QI Q) := by
  refine Ct.of (by decide +kernel) (Nat.le_of_ble_eq_true rfl) ?_
  intro p e R s m args below meth c C
  have C : Cx g p R s m args meth c cX2_creditLimit 2 RX2 (some .int) 0 := C
  unfold S_X2_creditLimit at h
  show G g p l e R s m args below meth c (QI Q) 2 0 [(0, .ref (gad g 2 P)), (1, .int x1)] [] σ
  refine r_aload_n C dX2_creditLimit_0 rfl 0 rfl ?_
  refine gf_2_50 C dX2_creditLimit_1 (cn_2 hP) ?_
  refine r_iload_n C dX2_creditLimit_4 rfl 1 rfl ?_
  obtain ⟨h0, h⟩ := h
  refine r_iaload C dX2_creditLimit_5 ak_27 (cn_27 hP) al_27 h0 ?_
  refine r_aload_n C dX2_creditLimit_6 rfl 0 rfl ?_
  refine gf_2_47 C dX2_creditLimit_7 (cn_2 hP) ?_
  refine r_iload_n C dX2_creditLimit_10 rfl 1 rfl ?_
  obtain ⟨h0, h⟩ := h
  refine r_iaload C dX2_creditLimit_11 ak_26 (cn_26 hP) al_26 h0 ?_
  refine r_aload_n C dX2_creditLimit_12 rfl 0 rfl ?_
  refine gf_2_18 C dX2_creditLimit_13 (cn_2 hP) ?_
  refine r_iadd C dX2_creditLimit_16 ?_
  refine r_imul C dX2_creditLimit_17 ?_
  exact r_ireturn C dX2_creditLimit_18 ⟨_, rfl, h⟩
def S_X3_clear (S : Nat) (σ : Hp) (Q : Hp → Prop) : Prop :=
  ∀ σ1, σ1 = sI σ 3 S 0 0 → S_J7_fill_53178 30 S 0 σ1 (fun σ2 => S_J7_fill_53178 31 S 0 σ2 (fun σ3 => S_J7_fill_53178 32 S (-2) σ3 (fun σ4 => S_J7_fill_53178 33 S 0 σ4 (fun σ5 => Q σ5))))
set_option maxHeartbeats 2000000 in
set_option maxRecDepth 20000 in
theorem ok_X3_clear (l : Launch) (g : Gm) (S : Nat) (hS : S < 3) (σ : Hp) (Q : Hp → Prop) (h : S_X3_clear S σ Q) : Ct l g yX3_clear cX3_clear 1 none 1 [.ref (gad g 3 S)] σ (QV Q) := by
  refine Ct.of (by decide +kernel) (Nat.le_of_ble_eq_true rfl) ?_
  intro p e R s m args below meth c C
  have C : Cx g p R s m args meth c cX3_clear 1 RX3 none 1 := C
  unfold S_X3_clear at h
  show G g p l e R s m args below meth c (QV Q) 1 0 [(0, .ref (gad g 3 S))] [] σ
  refine r_aload_n C dX3_clear_0 rfl 0 rfl ?_
  refine r_iconst C dX3_clear_1 ic_0 ?_
  refine pf_3_9 C dX3_clear_2 (cn_3 hS) ?_
  have h := h _ rfl
  refine r_aload_n C dX3_clear_5 rfl 0 rfl ?_
  refine gf_3_15 C dX3_clear_6 (cn_3 hS) ?_
  refine r_iconst C dX3_clear_9 ic_0 ?_
  refine r_callSv [] C dX3_clear_10 w_3_37 (ok_J7_fill_53178 l g 30 S ak_30 (cn_30 hS) _ _ _ h) (Nat.le_of_ble_eq_true rfl) rfl rfl (Nat.le_of_ble_eq_true rfl) (fun σ2 h => ?_)
  refine r_aload_n C dX3_clear_13 rfl 0 rfl ?_
  refine gf_3_19 C dX3_clear_14 (cn_3 hS) ?_
  refine r_iconst C dX3_clear_17 ic_0 ?_
  refine r_callSv [] C dX3_clear_18 w_3_37 (ok_J7_fill_53178 l g 31 S ak_31 (cn_31 hS) _ _ _ h) (Nat.le_of_ble_eq_true rfl) rfl rfl (Nat.le_of_ble_eq_true rfl) (fun σ3 h => ?_)
  refine r_aload_n C dX3_clear_21 rfl 0 rfl ?_
  refine gf_3_22 C dX3_clear_22 (cn_3 hS) ?_
  refine r_bipush C dX3_clear_25 bi_m2 ?_
  refine r_callSv [] C dX3_clear_27 w_3_37 (ok_J7_fill_53178 l g 32 S ak_32 (cn_32 hS) _ _ _ h) (Nat.le_of_ble_eq_true rfl) rfl rfl (Nat.le_of_ble_eq_true rfl) (fun σ4 h => ?_)
  refine r_aload_n C dX3_clear_30 rfl 0 rfl ?_
  refine gf_3_25 C dX3_clear_31 (cn_3 hS) ?_
  refine r_iconst C dX3_clear_34 ic_0 ?_
  refine r_callSv [] C dX3_clear_35 w_3_37 (ok_J7_fill_53178 l g 33 S ak_33 (cn_33 hS) _ _ _ h) (Nat.le_of_ble_eq_true rfl) rfl rfl (Nat.le_of_ble_eq_true rfl) (fun σ5 h => ?_)
  exact r_return C dX3_clear_38 ⟨rfl, h⟩
def S_X3_copy (S : Nat) (S2 : Nat) (σ : Hp) (Q : Hp → Prop) : Prop :=
  ∀ σ1, σ1 = sI σ 3 S 0 (gI σ 3 S2 0) → S_X7_copyAll 30 S2 30 S σ1 (fun σ2 => S_X7_copyAll 31 S2 31 S σ2 (fun σ3 => S_X7_copyAll 32 S2 32 S σ3 (fun σ4 => S_X7_copyAll 33 S2 33 S σ4 (fun σ5 => S_X7_copyAll 34 S2 34 S σ5 (fun σ6 => S_X7_copyAll 35 S2 35 S σ6 (fun σ7 => S_X7_copyAll 36 S2 36 S σ7 (fun σ8 => Q σ8)))))))
set_option maxHeartbeats 2000000 in
set_option maxRecDepth 20000 in
theorem ok_X3_copy (l : Launch) (g : Gm) (S : Nat) (S2 : Nat) (hS : S < 3) (hS2 : S2 < 3) (σ : Hp) (Q : Hp → Prop) (h : S_X3_copy S S2 σ Q) : Ct l g yX3_copy cX3_copy 2 none 2 [.ref (gad g 3 S), .ref (gad g 3 S2)] σ (QV Q) := by
  refine Ct.of (by decide +kernel) (Nat.le_of_ble_eq_true rfl) ?_
  intro p e R s m args below meth c C
  have C : Cx g p R s m args meth c cX3_copy 2 RX3 none 2 := C
  unfold S_X3_copy at h
  show G g p l e R s m args below meth c (QV Q) 2 0 [(0, .ref (gad g 3 S)), (1, .ref (gad g 3 S2))] [] σ
  refine r_aload_n C dX3_copy_0 rfl 0 rfl ?_
  refine r_aload_n C dX3_copy_1 rfl 1 rfl ?_
  refine gf_3_9 C dX3_copy_2 (cn_3 hS2) ?_
  refine pf_3_9 C dX3_copy_5 (cn_3 hS) ?_
  have h := h _ rfl
  refine r_aload_n C dX3_copy_8 rfl 1 rfl ?_
  refine gf_3_15 C dX3_copy_9 (cn_3 hS2) ?_
  refine r_aload_n C dX3_copy_12 rfl 0 rfl ?_
  refine gf_3_15 C dX3_copy_13 (cn_3 hS) ?_
  refine r_callNv [] C dX3_copy_16 w_3_43 (ok_X7_copyAll l g 30 S2 30 S ak_30 (cn_30 hS2) ak_30 (cn_30 hS) _ _ h) (Nat.le_of_ble_eq_true rfl) rfl rfl (Nat.le_of_ble_eq_true rfl) (fun σ2 h => ?_)
  refine r_aload_n C dX3_copy_19 rfl 1 rfl ?_
  refine gf_3_19 C dX3_copy_20 (cn_3 hS2) ?_
  refine r_aload_n C dX3_copy_23 rfl 0 rfl ?_
  refine gf_3_19 C dX3_copy_24 (cn_3 hS) ?_
  refine r_callNv [] C dX3_copy_27 w_3_43 (ok_X7_copyAll l g 31 S2 31 S ak_31 (cn_31 hS2) ak_31 (cn_31 hS) _ _ h) (Nat.le_of_ble_eq_true rfl) rfl rfl (Nat.le_of_ble_eq_true rfl) (fun σ3 h => ?_)
  refine r_aload_n C dX3_copy_30 rfl 1 rfl ?_
  refine gf_3_22 C dX3_copy_31 (cn_3 hS2) ?_
  refine r_aload_n C dX3_copy_34 rfl 0 rfl ?_
  refine gf_3_22 C dX3_copy_35 (cn_3 hS) ?_
  refine r_callNv [] C dX3_copy_38 w_3_43 (ok_X7_copyAll l g 32 S2 32 S ak_32 (cn_32 hS2) ak_32 (cn_32 hS) _ _ h) (Nat.le_of_ble_eq_true rfl) rfl rfl (Nat.le_of_ble_eq_true rfl) (fun σ4 h => ?_)
  refine r_aload_n C dX3_copy_41 rfl 1 rfl ?_
  refine gf_3_25 C dX3_copy_42 (cn_3 hS2) ?_
  refine r_aload_n C dX3_copy_45 rfl 0 rfl ?_
  refine gf_3_25 C dX3_copy_46 (cn_3 hS) ?_
  refine r_callNv [] C dX3_copy_49 w_3_43 (ok_X7_copyAll l g 33 S2 33 S ak_33 (cn_33 hS2) ak_33 (cn_33 hS) _ _ h) (Nat.le_of_ble_eq_true rfl) rfl rfl (Nat.le_of_ble_eq_true rfl) (fun σ5 h => ?_)
  refine r_aload_n C dX3_copy_52 rfl 1 rfl ?_
  refine gf_3_28 C dX3_copy_53 (cn_3 hS2) ?_
  refine r_aload_n C dX3_copy_56 rfl 0 rfl ?_
  refine gf_3_28 C dX3_copy_57 (cn_3 hS) ?_
  refine r_callNv [] C dX3_copy_60 w_3_43 (ok_X7_copyAll l g 34 S2 34 S ak_34 (cn_34 hS2) ak_34 (cn_34 hS) _ _ h) (Nat.le_of_ble_eq_true rfl) rfl rfl (Nat.le_of_ble_eq_true rfl) (fun σ6 h => ?_)
  refine r_aload_n C dX3_copy_63 rfl 1 rfl ?_
  refine gf_3_31 C dX3_copy_64 (cn_3 hS2) ?_
  refine r_aload_n C dX3_copy_67 rfl 0 rfl ?_
  refine gf_3_31 C dX3_copy_68 (cn_3 hS) ?_
  refine r_callNv [] C dX3_copy_71 w_3_43 (ok_X7_copyAll l g 35 S2 35 S ak_35 (cn_35 hS2) ak_35 (cn_35 hS) _ _ h) (Nat.le_of_ble_eq_true rfl) rfl rfl (Nat.le_of_ble_eq_true rfl) (fun σ7 h => ?_)
  refine r_aload_n C dX3_copy_74 rfl 1 rfl ?_
  refine gf_3_34 C dX3_copy_75 (cn_3 hS2) ?_
  refine r_aload_n C dX3_copy_78 rfl 0 rfl ?_
  refine gf_3_34 C dX3_copy_79 (cn_3 hS) ?_
  refine r_callNv [] C dX3_copy_82 w_3_43 (ok_X7_copyAll l g 36 S2 36 S ak_36 (cn_36 hS2) ak_36 (cn_36 hS) _ _ h) (Nat.le_of_ble_eq_true rfl) rfl rfl (Nat.le_of_ble_eq_true rfl) (fun σ8 h => ?_)
  exact r_return C dX3_copy_85 ⟨rfl, h⟩
