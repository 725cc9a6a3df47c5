def S_X8_in (x0 : Int32) (x1 : Int32) (x2 : Int32) (σ : Hp) (Q : Int32 → Hp → Prop) : Prop :=
  ((x0 < x1 → Q 0 σ) ∧ (¬ x0 < x1 → ((x2 < x0 → Q 0 σ) ∧ (¬ x2 < x0 → Q 1 σ))))
set_option maxHeartbeats 2000000 in
set_option maxRecDepth 20000 in
theorem ok_X8_in (l : Launch) (g : Gm) (x0 : Int32) (x1 : Int32) (x2 : Int32) (σ : Hp) (Q : Int32 → Hp → Prop) (h : S_X8_in x0 x1 x2 σ Q) : Ct l g yX8_in cX8_in 3 (some .boolean) 0 [.int x0, .int x1, .int x2] σ (QI Q) := by
  refine Ct.of (by decide +kernel) (Nat.le_of_ble_eq_true rfl) ?_
  intro p e R s m args below meth c C
  have C : Cx g p R s m args meth c cX8_in 3 RX8 (some .boolean) 0 := C
  unfold S_X8_in at h
  show G g p l e R s m args below meth c (QI Q) 3 0 [(0, .int x0), (1, .int x1), (2, .int x2)] [] σ
  refine r_iload_n C dX8_in_0 rfl 0 rfl ?_
  refine r_iload_n C dX8_in_1 rfl 1 rfl ?_
  refine r_icmp_lt (tgt := 14) C dX8_in_2 rfl (fun q => ?_) (fun q => ?_)
  · have h := h.1 q
    refine r_iconst C dX8_in_14 ic_0 ?_
    exact r_zreturn C dX8_in_15 zb0.1 ⟨_, rfl, h⟩
  · have h := h.2 q
    refine r_iload_n C dX8_in_5 rfl 0 rfl ?_
    refine r_iload_n C dX8_in_6 rfl 2 rfl ?_
    refine r_icmp_gt (tgt := 14) C dX8_in_7 rfl (fun q => ?_) (fun q => ?_)
    · have h := h.1 q
      refine r_iconst C dX8_in_14 ic_0 ?_
      exact r_zreturn C dX8_in_15 zb0.1 ⟨_, rfl, h⟩
    · have h := h.2 q
      refine r_iconst C dX8_in_10 ic_1 ?_
      refine r_goto (tgt := 15) C dX8_in_11 rfl ?_
      exact r_zreturn C dX8_in_15 zb1.1 ⟨_, rfl, h⟩
def S_X8_portAt (x0 : Int32) (x1 : Int32) (σ : Hp) (Q : Int32 → Hp → Prop) : Prop :=
  Q (81 + (39 * ((16 * x0) + x1))) σ
set_option maxHeartbeats 2000000 in
set_option maxRecDepth 20000 in
theorem ok_X8_portAt (l : Launch) (g : Gm) (x0 : Int32) (x1 : Int32) (σ : Hp) (Q : Int32 → Hp → Prop) (h : S_X8_portAt x0 x1 σ Q) : Ct l g yX8_portAt cX8_portAt 2 (some .int) 0 [.int x0, .int x1] σ (QI Q) := by
  refine Ct.of (by decide +kernel) (Nat.le_of_ble_eq_true rfl) ?_
  intro p e R s m args below meth c C
  have C : Cx g p R s m args meth c cX8_portAt 2 RX8 (some .int) 0 := C
  unfold S_X8_portAt at h
  show G g p l e R s m args below meth c (QI Q) 2 0 [(0, .int x0), (1, .int x1)] [] σ
  refine r_bipush C dX8_portAt_0 bi_81 ?_
  refine r_bipush C dX8_portAt_2 bi_39 ?_
  refine r_bipush C dX8_portAt_4 bi_16 ?_
  refine r_iload_n C dX8_portAt_6 rfl 0 rfl ?_
  refine r_imul C dX8_portAt_7 ?_
  refine r_iload_n C dX8_portAt_8 rfl 1 rfl ?_
  refine r_iadd C dX8_portAt_9 ?_
  refine r_imul C dX8_portAt_10 ?_
  refine r_iadd C dX8_portAt_11 ?_
  exact r_ireturn C dX8_portAt_12 ⟨_, rfl, h⟩
def S_X8_linkOf (x1 : Int32) (x2 : Int32) (σ : Hp) (Q : Int32 → Hp → Prop) : Prop :=
  vp_in ((7 * x1) + x2) 56 ∧ Q (gI σ 57 0 (ix ((7 * x1) + x2))) σ
set_option maxHeartbeats 2000000 in
set_option maxRecDepth 20000 in
theorem ok_X8_linkOf (l : Launch) (g : Gm) (x1 : Int32) (x2 : Int32) (σ : Hp) (Q : Int32 → Hp → Prop) (h : S_X8_linkOf x1 x2 σ Q) : Ct l g yX8_linkOf cX8_linkOf 3 (some .int) 0 [.ref (gad g 8 0), .int x1, .int x2] σ (QI Q) := by
  refine Ct.of (by decide +kernel) (Nat.le_of_ble_eq_true rfl) ?_
  intro p e R s m args below meth c C
  have C : Cx g p R s m args meth c cX8_linkOf 3 RX8 (some .int) 0 := C
  unfold S_X8_linkOf at h
  show G g p l e R s m args below meth c (QI Q) 3 0 [(0, .ref (gad g 8 0)), (1, .int x1), (2, .int x2)] [] σ
  refine r_aload_n C dX8_linkOf_0 rfl 0 rfl ?_
  refine gf_8_29 C dX8_linkOf_1 (cn_8 (by decide)) ?_
  refine r_bipush C dX8_linkOf_4 bi_7 ?_
  refine r_iload_n C dX8_linkOf_6 rfl 1 rfl ?_
  refine r_imul C dX8_linkOf_7 ?_
  refine r_iload_n C dX8_linkOf_8 rfl 2 rfl ?_
  refine r_iadd C dX8_linkOf_9 ?_
  obtain ⟨h0, h⟩ := h
  refine r_iaload C dX8_linkOf_10 ak_57 (cn_57 (by decide)) al_57 h0 ?_
  exact r_ireturn C dX8_linkOf_11 ⟨_, rfl, h⟩
def S_X8_fresh (σ : Hp) (Q : Hp → Prop) : Prop :=
  ∀ σ1, σ1 = sI σ 8 0 0 0 → ∀ σ2, σ2 = sI σ1 8 0 1 0 → ∀ σ3, σ3 = sI σ2 8 0 3 (-1) → Q σ3
set_option maxHeartbeats 2000000 in
set_option maxRecDepth 20000 in
theorem ok_X8_fresh (l : Launch) (g : Gm) (σ : Hp) (Q : Hp → Prop) (h : S_X8_fresh σ Q) : Ct l g yX8_fresh cX8_fresh 1 none 0 [.ref (gad g 8 0)] σ (QV Q) := by
  refine Ct.of (by decide +kernel) (Nat.le_of_ble_eq_true rfl) ?_
  intro p e R s m args below meth c C
  have C : Cx g p R s m args meth c cX8_fresh 1 RX8 none 0 := C
  unfold S_X8_fresh at h
  show G g p l e R s m args below meth c (QV Q) 1 0 [(0, .ref (gad g 8 0))] [] σ
  refine r_aload_n C dX8_fresh_0 rfl 0 rfl ?_
  refine r_iconst C dX8_fresh_1 ic_0 ?_
  refine pf_8_51 C dX8_fresh_2 (cn_8 (by decide)) ?_
  have h := h _ rfl
  refine r_aload_n C dX8_fresh_5 rfl 0 rfl ?_
  refine r_iconst C dX8_fresh_6 ic_0 ?_
  refine pf_8_54 C dX8_fresh_7 (cn_8 (by decide)) ?_
  have h := h _ rfl
  refine r_aload_n C dX8_fresh_10 rfl 0 rfl ?_
  refine r_iconst C dX8_fresh_11 ic_m1 ?_
  refine pf_8_9 C dX8_fresh_12 (cn_8 (by decide)) ?_
  have h := h _ rfl
  exact r_return C dX8_fresh_15 ⟨rfl, h⟩
def L_X8_laysWord_2 (Q : Hp → Prop) (K37 : Hp → Prop) (y1 : Int32) : Nat → Int32 → Hp → Prop
  | 0, _, _ => False
  | n + 1, y2, σ =>
  (((4 : Int32) ≤ y2 → K37 σ) ∧ (¬ (4 : Int32) ≤ y2 → vp_in ((gI σ 8 0 5) + y2) 900 ∧ ∀ σ1, σ1 = sI σ 52 0 (ix ((gI σ 8 0 5) + y2)) ((y1 >>> ((24 - (8 * y2)) &&& 31)) &&& 255) → L_X8_laysWord_2 Q K37 y1 n (y2 + 1) σ1))
def S_X8_laysWord (x1 : Int32) (σ : Hp) (Q : Hp → Prop) : Prop :=
  (∃ n2, L_X8_laysWord_2 Q (fun σ3 => ∀ σ4, σ4 = sI σ3 8 0 5 ((gI σ3 8 0 5) + 4) → Q σ4) x1 n2 0 σ)
set_option maxHeartbeats 2000000 in
set_option maxRecDepth 20000 in
theorem ok_X8_laysWord (l : Launch) (g : Gm) (x1 : Int32) (σ : Hp) (Q : Hp → Prop) (h : S_X8_laysWord x1 σ Q) : Ct l g yX8_laysWord cX8_laysWord 3 none 0 [.ref (gad g 8 0), .int x1] σ (QV Q) := by
  refine Ct.of (by decide +kernel) (Nat.le_of_ble_eq_true rfl) ?_
  intro p e R s m args below meth c C
  have C : Cx g p R s m args meth c cX8_laysWord 3 RX8 none 0 := C
  have l2 : ∀ (K37 : Hp → Prop) (y1 : Int32) (hK37 : ∀ (σ : Hp), K37 σ → G g p l e R s m args below meth c (QV Q) 3 37 [(0, .ref (gad g 8 0))] [] σ) (n : Nat) (y2 : Int32) (σ : Hp), L_X8_laysWord_2 Q K37 y1 n y2 σ → G g p l e R s m args below meth c (QV Q) 3 2 [(0, .ref (gad g 8 0)), (1, .int y1), (2, .int y2)] [] σ := by
    intro K37 y1 hK37 n
    induction n with
    | zero => intro y2 σ h; exact False.elim h
    | succ n ih =>
      intro y2 σ h
      unfold L_X8_laysWord_2 at h
      refine r_iload_n C dX8_laysWord_2 rfl 2 rfl ?_
      refine r_iconst C dX8_laysWord_3 ic_4 ?_
      refine r_icmp_ge (tgt := 37) C dX8_laysWord_4 rfl (fun q => ?_) (fun q => ?_)
      · have h := h.1 q
        refine r_sub [0] rfl ?_
        exact hK37 _ h
      · have h := h.2 q
        refine r_aload_n C dX8_laysWord_7 rfl 0 rfl ?_
        refine gf_8_13 C dX8_laysWord_8 (cn_8 (by decide)) ?_
        refine r_aload_n C dX8_laysWord_11 rfl 0 rfl ?_
        refine gf_8_57 C dX8_laysWord_12 (cn_8 (by decide)) ?_
        refine r_iload_n C dX8_laysWord_15 rfl 2 rfl ?_
        refine r_iadd C dX8_laysWord_16 ?_
        refine r_iload_n C dX8_laysWord_17 rfl 1 rfl ?_
        refine r_bipush C dX8_laysWord_18 bi_24 ?_
        refine r_bipush C dX8_laysWord_20 bi_8 ?_
        refine r_iload_n C dX8_laysWord_22 rfl 2 rfl ?_
        refine r_imul C dX8_laysWord_23 ?_
        refine r_isub C dX8_laysWord_24 ?_
        refine r_ishr C dX8_laysWord_25 ?_
        refine r_sipush C dX8_laysWord_26 si_255 ?_
        refine r_iand C dX8_laysWord_29 ?_
        obtain ⟨h0, h⟩ := h
        refine r_iastore C dX8_laysWord_30 ak_52 (cn_52 (by decide)) al_52 h0 ?_
        have h := h _ rfl
        refine r_iinc (v := y2 + 1) C dX8_laysWord_31 2 rfl rfl (Nat.le_of_ble_eq_true rfl) rfl ?_
        refine r_goto (tgt := 2) C dX8_laysWord_34 rfl ?_
        refine r_sub [1, 2, 0] rfl ?_
        exact ih _ _ h
  unfold S_X8_laysWord at h
  show G g p l e R s m args below meth c (QV Q) 3 0 [(0, .ref (gad g 8 0)), (1, .int x1)] [] σ
  refine r_iconst C dX8_laysWord_0 ic_0 ?_
  refine r_istore_n C dX8_laysWord_1 rfl (Nat.le_of_ble_eq_true rfl) rfl ?_
  refine r_sub [1, 2, 0] rfl ?_
  obtain ⟨n2, h⟩ := h
  refine l2 _ _ (fun σ3 h => ?_) n2 _ _ h
  refine r_aload_n C dX8_laysWord_37 rfl 0 rfl ?_
  refine r_dup C dX8_laysWord_38 rfl ?_
  refine gf_8_57 C dX8_laysWord_39 (cn_8 (by decide)) ?_
  refine r_iconst C dX8_laysWord_42 ic_4 ?_
  refine r_iadd C dX8_laysWord_43 ?_
  refine pf_8_57 C dX8_laysWord_44 (cn_8 (by decide)) ?_
  have h := h _ rfl
  exact r_return C dX8_laysWord_47 ⟨rfl, h⟩
def S_X8_feed (x1 : Int32) (x2 : Int32) (x3 : Int32) (x4 : Int32) (x5 : Int32) (σ : Hp) (Q : Int32 → Hp → Prop) : Prop :=
  ∀ σ1, σ1 = sI σ 8 0 0 0 → (((gI σ1 8 0 5) ≤ 880 → S_X8_laysWord x1 σ1 (fun σ2 => S_X8_laysWord x2 σ2 (fun σ3 => S_X8_laysWord x3 σ3 (fun σ4 => S_X8_laysWord x4 σ4 (fun σ5 => S_X8_laysWord x5 σ5 (fun σ6 => Q (gI σ6 8 0 5) σ6)))))) ∧ (¬ (gI σ1 8 0 5) ≤ 880 → Q (-1) σ1))
set_option maxHeartbeats 2000000 in
set_option maxRecDepth 20000 in
theorem ok_X8_feed (l : Launch) (g : Gm) (x1 : Int32) (x2 : Int32) (x3 : Int32) (x4 : Int32) (x5 : Int32) (σ : Hp) (Q : Int32 → Hp → Prop) (h : S_X8_feed x1 x2 x3 x4 x5 σ Q) : Ct l g yX8_feed cX8_feed 6 (some .int) 1 [.ref (gad g 8 0), .int x1, .int x2, .int x3, .int x4, .int x5] σ (QI Q) := by
  refine Ct.of (by decide +kernel) (Nat.le_of_ble_eq_true rfl) ?_
  intro p e R s m args below meth c C
  have C : Cx g p R s m args meth c cX8_feed 6 RX8 (some .int) 1 := C
  unfold S_X8_feed at h
  show G g p l e R s m args below meth c (QI Q) 6 0 [(0, .ref (gad g 8 0)), (1, .int x1), (2, .int x2), (3, .int x3), (4, .int x4), (5, .int x5)] [] σ
  refine r_aload_n C dX8_feed_0 rfl 0 rfl ?_
  refine r_iconst C dX8_feed_1 ic_0 ?_
  refine pf_8_51 C dX8_feed_2 (cn_8 (by decide)) ?_
  have h := h _ rfl
  refine r_aload_n C dX8_feed_5 rfl 0 rfl ?_
  refine gf_8_57 C dX8_feed_6 (cn_8 (by decide)) ?_
  refine r_sipush C dX8_feed_9 si_880 ?_
  refine r_icmp_le (tgt := 17) C dX8_feed_12 rfl (fun q => ?_) (fun q => ?_)
  · have h := h.1 q
    refine r_aload_n C dX8_feed_17 rfl 0 rfl ?_
    refine r_iload_n C dX8_feed_18 rfl 1 rfl ?_
    refine r_callVv [] C dX8_feed_19 w_8_60 (ok_X8_laysWord l g _ _ _ h) (Nat.le_of_ble_eq_true rfl) rfl rfl ak_8 (cn_8 (by decide)) rfl rfl (Nat.le_of_ble_eq_true rfl) (fun σ2 h => ?_)
    refine r_aload_n C dX8_feed_22 rfl 0 rfl ?_
    refine r_iload_n C dX8_feed_23 rfl 2 rfl ?_
    refine r_callVv [] C dX8_feed_24 w_8_60 (ok_X8_laysWord l g _ _ _ h) (Nat.le_of_ble_eq_true rfl) rfl rfl ak_8 (cn_8 (by decide)) rfl rfl (Nat.le_of_ble_eq_true rfl) (fun σ3 h => ?_)
    refine r_aload_n C dX8_feed_27 rfl 0 rfl ?_
    refine r_iload_n C dX8_feed_28 rfl 3 rfl ?_
    refine r_callVv [] C dX8_feed_29 w_8_60 (ok_X8_laysWord l g _ _ _ h) (Nat.le_of_ble_eq_true rfl) rfl rfl ak_8 (cn_8 (by decide)) rfl rfl (Nat.le_of_ble_eq_true rfl) (fun σ4 h => ?_)
    refine r_aload_n C dX8_feed_32 rfl 0 rfl ?_
    refine r_iload C dX8_feed_33 4 rfl ?_
    refine r_callVv [] C dX8_feed_35 w_8_60 (ok_X8_laysWord l g _ _ _ h) (Nat.le_of_ble_eq_true rfl) rfl rfl ak_8 (cn_8 (by decide)) rfl rfl (Nat.le_of_ble_eq_true rfl) (fun σ5 h => ?_)
    refine r_aload_n C dX8_feed_38 rfl 0 rfl ?_
    refine r_iload C dX8_feed_39 5 rfl ?_
    refine r_callVv [] C dX8_feed_41 w_8_60 (ok_X8_laysWord l g _ _ _ h) (Nat.le_of_ble_eq_true rfl) rfl rfl ak_8 (cn_8 (by decide)) rfl rfl (Nat.le_of_ble_eq_true rfl) (fun σ6 h => ?_)
    refine r_aload_n C dX8_feed_44 rfl 0 rfl ?_
    refine gf_8_57 C dX8_feed_45 (cn_8 (by decide)) ?_
    exact r_ireturn C dX8_feed_48 ⟨_, rfl, h⟩
  · have h := h.2 q
    refine r_iconst C dX8_feed_15 ic_m1 ?_
    exact r_ireturn C dX8_feed_16 ⟨_, rfl, h⟩
def S_X8_isEnd (x1 : Int32) (σ : Hp) (Q : Int32 → Hp → Prop) : Prop :=
  (((gI σ 8 0 14) = 0 → Q 0 σ) ∧ (¬ (gI σ 8 0 14) = 0 → vp_in 5 7 ∧ S_X8_in x1 0 ((gI σ 53 0 (ix 5)) - 1) σ (fun r2 σ1 => ((r2 = 0 → Q 0 σ1) ∧ (¬ r2 = 0 → Q 1 σ1)))))
set_option maxHeartbeats 2000000 in
set_option maxRecDepth 20000 in
theorem ok_X8_isEnd (l : Launch) (g : Gm) (x1 : Int32) (σ : Hp) (Q : Int32 → Hp → Prop) (h : S_X8_isEnd x1 σ Q) : Ct l g yX8_isEnd cX8_isEnd 2 (some .boolean) 1 [.ref (gad g 8 0), .int x1] σ (QI Q) := by
  refine Ct.of (by decide +kernel) (Nat.le_of_ble_eq_true rfl) ?_
  intro p e R s m args below meth c C
  have C : Cx g p R s m args meth c cX8_isEnd 2 RX8 (some .boolean) 1 := C
  unfold S_X8_isEnd at h
  show G g p l e R s m args below meth c (QI Q) 2 0 [(0, .ref (gad g 8 0)), (1, .int x1)] [] σ
  refine r_aload_n C dX8_isEnd_0 rfl 0 rfl ?_
  refine gf_8_212 C dX8_isEnd_1 (cn_8 (by decide)) ?_
  refine r_if_eq (tgt := 27) C dX8_isEnd_4 rfl (fun q => ?_) (fun q => ?_)
  · have h := h.1 q
    refine r_iconst C dX8_isEnd_27 ic_0 ?_
    exact r_zreturn C dX8_isEnd_28 zb0.1 ⟨_, rfl, h⟩
  · have h := h.2 q
    refine r_iload_n C dX8_isEnd_7 rfl 1 rfl ?_
    refine r_iconst C dX8_isEnd_8 ic_0 ?_
    refine r_aload_n C dX8_isEnd_9 rfl 0 rfl ?_
    refine gf_8_17 C dX8_isEnd_10 (cn_8 (by decide)) ?_
    refine r_iconst C dX8_isEnd_13 ic_5 ?_
    obtain ⟨h0, h⟩ := h
    refine r_iaload C dX8_isEnd_14 ak_53 (cn_53 (by decide)) al_53 h0 ?_
    refine r_iconst C dX8_isEnd_15 ic_1 ?_
    refine r_isub C dX8_isEnd_16 ?_
    refine r_callSi [] C dX8_isEnd_17 w_8_80 (ok_X8_in l g _ _ _ _ _ h) (Nat.le_of_ble_eq_true rfl) rfl rfl (Nat.le_of_ble_eq_true rfl) (fun r2 σ1 h => ?_)
    refine r_if_eq (tgt := 27) C dX8_isEnd_20 rfl (fun q => ?_) (fun q => ?_)
    · have h := h.1 q
      refine r_iconst C dX8_isEnd_27 ic_0 ?_
      exact r_zreturn C dX8_isEnd_28 zb0.1 ⟨_, rfl, h⟩
    · have h := h.2 q
      refine r_iconst C dX8_isEnd_23 ic_1 ?_
      refine r_goto (tgt := 28) C dX8_isEnd_24 rfl ?_
      exact r_zreturn C dX8_isEnd_28 zb1.1 ⟨_, rfl, h⟩
def S_X8_isPort (x1 : Int32) (σ : Hp) (Q : Int32 → Hp → Prop) : Prop :=
  S_X8_in x1 0 15 σ (fun r2 σ1 => ((¬ r2 = 0 → (((12 : Int32) ≤ x1 → (((gI σ1 8 0 14) = 0 → Q 0 σ1) ∧ (¬ (gI σ1 8 0 14) = 0 → vp_in 0 7 ∧ (((gI σ1 53 0 (ix 0)) ≤ ((jrem (x1 - 12) 2) + 1) → Q 0 σ1) ∧ (¬ (gI σ1 53 0 (ix 0)) ≤ ((jrem (x1 - 12) 2) + 1) → Q 1 σ1))))) ∧ (¬ (12 : Int32) ≤ x1 → S_X8_isEnd (jrem x1 6) σ1 (fun r4 σ3 => zb r4 ∧ Q r4 σ3)))) ∧ (r2 = 0 → Q 0 σ1)))
set_option maxHeartbeats 2000000 in
set_option maxRecDepth 20000 in
theorem ok_X8_isPort (l : Launch) (g : Gm) (x1 : Int32) (σ : Hp) (Q : Int32 → Hp → Prop) (h : S_X8_isPort x1 σ Q) : Ct l g yX8_isPort cX8_isPort 2 (some .boolean) 2 [.ref (gad g 8 0), .int x1] σ (QI Q) := by
  refine Ct.of (by decide +kernel) (Nat.le_of_ble_eq_true rfl) ?_
  intro p e R s m args below meth c C
  have C : Cx g p R s m args meth c cX8_isPort 2 RX8 (some .boolean) 2 := C
  unfold S_X8_isPort at h
  show G g p l e R s m args below meth c (QI Q) 2 0 [(0, .ref (gad g 8 0)), (1, .int x1)] [] σ
  refine r_iload_n C dX8_isPort_0 rfl 1 rfl ?_
  refine r_iconst C dX8_isPort_1 ic_0 ?_
  refine r_bipush C dX8_isPort_2 bi_15 ?_
  refine r_callSi [] C dX8_isPort_4 w_8_80 (ok_X8_in l g _ _ _ _ _ h) (Nat.le_of_ble_eq_true rfl) rfl rfl (Nat.le_of_ble_eq_true rfl) (fun r2 σ1 h => ?_)
  refine r_if_ne (tgt := 12) C dX8_isPort_7 rfl (fun q => ?_) (fun q => ?_)
  · have h := h.1 q
    refine r_iload_n C dX8_isPort_12 rfl 1 rfl ?_
    refine r_bipush C dX8_isPort_13 bi_12 ?_
    refine r_icmp_ge (tgt := 29) C dX8_isPort_15 rfl (fun q => ?_) (fun q => ?_)
    · have h := h.1 q
      refine r_aload_n C dX8_isPort_29 rfl 0 rfl ?_
      refine gf_8_212 C dX8_isPort_30 (cn_8 (by decide)) ?_
      refine r_if_eq (tgt := 57) C dX8_isPort_33 rfl (fun q => ?_) (fun q => ?_)
      · have h := h.1 q
        refine r_iconst C dX8_isPort_57 ic_0 ?_
        exact r_zreturn C dX8_isPort_58 zb0.1 ⟨_, rfl, h⟩
      · have h := h.2 q
        refine r_iload_n C dX8_isPort_36 rfl 1 rfl ?_
        refine r_bipush C dX8_isPort_37 bi_12 ?_
        refine r_isub C dX8_isPort_39 ?_
        refine r_iconst C dX8_isPort_40 ic_2 ?_
        refine r_irem C dX8_isPort_41 (by decide) ?_
        refine r_iconst C dX8_isPort_42 ic_1 ?_
        refine r_iadd C dX8_isPort_43 ?_
        refine r_aload_n C dX8_isPort_44 rfl 0 rfl ?_
        refine gf_8_17 C dX8_isPort_45 (cn_8 (by decide)) ?_
        refine r_iconst C dX8_isPort_48 ic_0 ?_
        obtain ⟨h0, h⟩ := h
        refine r_iaload C dX8_isPort_49 ak_53 (cn_53 (by decide)) al_53 h0 ?_
        refine r_icmp_ge (tgt := 57) C dX8_isPort_50 rfl (fun q => ?_) (fun q => ?_)
        · have h := h.1 q
          refine r_iconst C dX8_isPort_57 ic_0 ?_
          exact r_zreturn C dX8_isPort_58 zb0.1 ⟨_, rfl, h⟩
        · have h := h.2 q
          refine r_iconst C dX8_isPort_53 ic_1 ?_
          refine r_goto (tgt := 58) C dX8_isPort_54 rfl ?_
          exact r_zreturn C dX8_isPort_58 zb1.1 ⟨_, rfl, h⟩
    · have h := h.2 q
      refine r_aload_n C dX8_isPort_18 rfl 0 rfl ?_
      refine r_iload_n C dX8_isPort_19 rfl 1 rfl ?_
      refine r_bipush C dX8_isPort_20 bi_6 ?_
      refine r_irem C dX8_isPort_22 (by decide) ?_
      refine r_callVi [] C dX8_isPort_23 w_8_227 (ok_X8_isEnd l g _ _ _ h) (Nat.le_of_ble_eq_true rfl) rfl rfl ak_8 (cn_8 (by decide)) rfl rfl (Nat.le_of_ble_eq_true rfl) (fun r4 σ3 h => ?_)
      refine r_goto (tgt := 58) C dX8_isPort_26 rfl ?_
      obtain ⟨h0, h⟩ := h
      exact r_zreturn C dX8_isPort_58 h0.1 ⟨_, rfl, h⟩
  · have h := h.2 q
    refine r_iconst C dX8_isPort_10 ic_0 ?_
    exact r_zreturn C dX8_isPort_11 zb0.1 ⟨_, rfl, h⟩
def S_X8_comes (x1 : Int32) (x2 : Int32) (x3 : Int32) (x4 : Int32) (x5 : Int32) (σ : Hp) (Q : Int32 → Hp → Prop) : Prop :=
  S_X8_portAt x1 x2 σ (fun r2 σ1 => vp_in (r2 + 0) 1809 ∧ vp_in 1 7 ∧ ((¬ (gI σ1 61 0 (ix (r2 + 0))) = (gI σ1 53 0 (ix 1)) → vp_in (r2 + 0) 1809 ∧ vp_in ((r2 + 3) + (3 * (gI σ1 61 0 (ix (r2 + 0))))) 1809 ∧ ∀ σ3, σ3 = sI σ1 61 0 (ix ((r2 + 3) + (3 * (gI σ1 61 0 (ix (r2 + 0)))))) x3 → vp_in (((r2 + 3) + (3 * (gI σ1 61 0 (ix (r2 + 0))))) + 1) 1809 ∧ ∀ σ4, σ4 = sI σ3 61 0 (ix (((r2 + 3) + (3 * (gI σ1 61 0 (ix (r2 + 0))))) + 1)) x4 → vp_in (((r2 + 3) + (3 * (gI σ1 61 0 (ix (r2 + 0))))) + 2) 1809 ∧ ∀ σ5, σ5 = sI σ4 61 0 (ix (((r2 + 3) + (3 * (gI σ1 61 0 (ix (r2 + 0))))) + 2)) x5 → vp_in (r2 + 0) 1809 ∧ vp_in (r2 + 0) 1809 ∧ ∀ σ6, σ6 = sI σ5 61 0 (ix (r2 + 0)) ((gI σ5 61 0 (ix (r2 + 0))) + 1) → Q 1 σ6) ∧ ((gI σ1 61 0 (ix (r2 + 0))) = (gI σ1 53 0 (ix 1)) → vp_in ((73 + (3 * x1)) + 0) 1809 ∧ vp_in ((73 + (3 * x1)) + 0) 1809 ∧ ∀ σ7, σ7 = sI σ1 61 0 (ix ((73 + (3 * x1)) + 0)) ((gI σ1 61 0 (ix ((73 + (3 * x1)) + 0))) + 1) → Q 0 σ7)))
set_option maxHeartbeats 2000000 in
set_option maxRecDepth 20000 in
theorem ok_X8_comes (l : Launch) (g : Gm) (x1 : Int32) (x2 : Int32) (x3 : Int32) (x4 : Int32) (x5 : Int32) (σ : Hp) (Q : Int32 → Hp → Prop) (h : S_X8_comes x1 x2 x3 x4 x5 σ Q) : Ct l g yX8_comes cX8_comes 8 (some .boolean) 1 [.ref (gad g 8 0), .int x1, .int x2, .int x3, .int x4, .int x5] σ (QI Q) := by
  refine Ct.of (by decide +kernel) (Nat.le_of_ble_eq_true rfl) ?_
  intro p e R s m args below meth c C
  have C : Cx g p R s m args meth c cX8_comes 8 RX8 (some .boolean) 1 := C
  unfold S_X8_comes at h
  show G g p l e R s m args below meth c (QI Q) 8 0 [(0, .ref (gad g 8 0)), (1, .int x1), (2, .int x2), (3, .int x3), (4, .int x4), (5, .int x5)] [] σ
  refine r_iload_n C dX8_comes_0 rfl 1 rfl ?_
  refine r_iload_n C dX8_comes_1 rfl 2 rfl ?_
  refine r_callSi [] C dX8_comes_2 w_8_255 (ok_X8_portAt l g _ _ _ _ h) (Nat.le_of_ble_eq_true rfl) rfl rfl (Nat.le_of_ble_eq_true rfl) (fun r2 σ1 h => ?_)
  refine r_istore C dX8_comes_5 (Nat.le_of_ble_eq_true rfl) rfl ?_
  refine r_aload_n C dX8_comes_7 rfl 1 rfl ?_
  refine gf_8_42 C dX8_comes_8 (cn_8 (by decide)) ?_
  refine r_iload C dX8_comes_11 0 rfl ?_
  refine r_iconst C dX8_comes_13 ic_0 ?_
  refine r_iadd C dX8_comes_14 ?_
  obtain ⟨h0, h⟩ := h
  refine r_iaload C dX8_comes_15 ak_61 (cn_61 (by decide)) al_61 h0 ?_
  refine r_aload_n C dX8_comes_16 rfl 1 rfl ?_
  refine gf_8_17 C dX8_comes_17 (cn_8 (by decide)) ?_
  refine r_iconst C dX8_comes_20 ic_1 ?_
  obtain ⟨h0, h⟩ := h
  refine r_iaload C dX8_comes_21 ak_53 (cn_53 (by decide)) al_53 h0 ?_
  refine r_icmp_ne (tgt := 44) C dX8_comes_22 rfl (fun q => ?_) (fun q => ?_)
  · have h := h.1 q
    refine r_iload C dX8_comes_44 0 rfl ?_
    refine r_iconst C dX8_comes_46 ic_3 ?_
    refine r_iadd C dX8_comes_47 ?_
    refine r_iconst C dX8_comes_48 ic_3 ?_
    refine r_aload_n C dX8_comes_49 rfl 1 rfl ?_
    refine gf_8_42 C dX8_comes_50 (cn_8 (by decide)) ?_
    refine r_iload C dX8_comes_53 0 rfl ?_
    refine r_iconst C dX8_comes_55 ic_0 ?_
    refine r_iadd C dX8_comes_56 ?_
    obtain ⟨h0, h⟩ := h
    refine r_iaload C dX8_comes_57 ak_61 (cn_61 (by decide)) al_61 h0 ?_
    refine r_imul C dX8_comes_58 ?_
    refine r_iadd C dX8_comes_59 ?_
    refine r_istore C dX8_comes_60 (Nat.le_of_ble_eq_true rfl) rfl ?_
    refine r_aload_n C dX8_comes_62 rfl 2 rfl ?_
    refine gf_8_42 C dX8_comes_63 (cn_8 (by decide)) ?_
    refine r_iload C dX8_comes_66 0 rfl ?_
    refine r_iload_n C dX8_comes_68 rfl 5 rfl ?_
    obtain ⟨h0, h⟩ := h
    refine r_iastore C dX8_comes_69 ak_61 (cn_61 (by decide)) al_61 h0 ?_
    have h := h _ rfl
    refine r_aload_n C dX8_comes_70 rfl 2 rfl ?_
    refine gf_8_42 C dX8_comes_71 (cn_8 (by decide)) ?_
    refine r_iload C dX8_comes_74 0 rfl ?_
    refine r_iconst C dX8_comes_76 ic_1 ?_
    refine r_iadd C dX8_comes_77 ?_
    refine r_iload C dX8_comes_78 6 rfl ?_
    obtain ⟨h0, h⟩ := h
    refine r_iastore C dX8_comes_80 ak_61 (cn_61 (by decide)) al_61 h0 ?_
    have h := h _ rfl
    refine r_aload_n C dX8_comes_81 rfl 2 rfl ?_
    refine gf_8_42 C dX8_comes_82 (cn_8 (by decide)) ?_
    refine r_iload C dX8_comes_85 0 rfl ?_
    refine r_iconst C dX8_comes_87 ic_2 ?_
    refine r_iadd C dX8_comes_88 ?_
    refine r_iload C dX8_comes_89 7 rfl ?_
    obtain ⟨h0, h⟩ := h
    refine r_iastore C dX8_comes_91 ak_61 (cn_61 (by decide)) al_61 h0 ?_
    have h := h _ rfl
    refine r_aload_n C dX8_comes_92 rfl 2 rfl ?_
    refine gf_8_42 C dX8_comes_93 (cn_8 (by decide)) ?_
    refine r_iload C dX8_comes_96 1 rfl ?_
    refine r_iconst C dX8_comes_98 ic_0 ?_
    refine r_iadd C dX8_comes_99 ?_
    refine r_dup2 C dX8_comes_100 rfl rfl ?_
    obtain ⟨h0, h⟩ := h
    refine r_iaload C dX8_comes_101 ak_61 (cn_61 (by decide)) al_61 h0 ?_
    refine r_iconst C dX8_comes_102 ic_1 ?_
    refine r_iadd C dX8_comes_103 ?_
    obtain ⟨h0, h⟩ := h
    refine r_iastore C dX8_comes_104 ak_61 (cn_61 (by decide)) al_61 h0 ?_
    have h := h _ rfl
    refine r_iconst C dX8_comes_105 ic_1 ?_
    exact r_zreturn C dX8_comes_106 zb1.1 ⟨_, rfl, h⟩
  · have h := h.2 q
    refine r_aload_n C dX8_comes_25 rfl 1 rfl ?_
    refine gf_8_42 C dX8_comes_26 (cn_8 (by decide)) ?_
    refine r_bipush C dX8_comes_29 bi_73 ?_
    refine r_iconst C dX8_comes_31 ic_3 ?_
    refine r_iload_n C dX8_comes_32 rfl 2 rfl ?_
    refine r_imul C dX8_comes_33 ?_
    refine r_iadd C dX8_comes_34 ?_
    refine r_iconst C dX8_comes_35 ic_0 ?_
    refine r_iadd C dX8_comes_36 ?_
    refine r_dup2 C dX8_comes_37 rfl rfl ?_
    obtain ⟨h0, h⟩ := h
    refine r_iaload C dX8_comes_38 ak_61 (cn_61 (by decide)) al_61 h0 ?_
    refine r_iconst C dX8_comes_39 ic_1 ?_
    refine r_iadd C dX8_comes_40 ?_
    obtain ⟨h0, h⟩ := h
    refine r_iastore C dX8_comes_41 ak_61 (cn_61 (by decide)) al_61 h0 ?_
    have h := h _ rfl
    refine r_iconst C dX8_comes_42 ic_0 ?_
    exact r_zreturn C dX8_comes_43 zb0.1 ⟨_, rfl, h⟩
def S_X8_no (x1 : Int32) (σ : Hp) (Q : Int32 → Hp → Prop) : Prop :=
  ∀ σ1, σ1 = sI σ 8 0 1 x1 → Q (-1) σ1
set_option maxHeartbeats 2000000 in
set_option maxRecDepth 20000 in
theorem ok_X8_no (l : Launch) (g : Gm) (x1 : Int32) (σ : Hp) (Q : Int32 → Hp → Prop) (h : S_X8_no x1 σ Q) : Ct l g yX8_no cX8_no 2 (some .int) 0 [.ref (gad g 8 0), .int x1] σ (QI Q) := by
  refine Ct.of (by decide +kernel) (Nat.le_of_ble_eq_true rfl) ?_
  intro p e R s m args below meth c C
  have C : Cx g p R s m args meth c cX8_no 2 RX8 (some .int) 0 := C
  unfold S_X8_no at h
  show G g p l e R s m args below meth c (QI Q) 2 0 [(0, .ref (gad g 8 0)), (1, .int x1)] [] σ
  refine r_aload_n C dX8_no_0 rfl 0 rfl ?_
  refine r_iload_n C dX8_no_1 rfl 1 rfl ?_
  refine pf_8_54 C dX8_no_2 (cn_8 (by decide)) ?_
  have h := h _ rfl
  refine r_iconst C dX8_no_5 ic_m1 ?_
  exact r_ireturn C dX8_no_6 ⟨_, rfl, h⟩
def J_X8_port_21 (Q : Int32 → Hp → Prop) (σ : Hp) : Prop :=
  S_X8_no 1 σ (fun r5 σ4 => Q r5 σ4)
def S_X8_port (x1 : Int32) (x2 : Int32) (x3 : Int32) (σ : Hp) (Q : Int32 → Hp → Prop) : Prop :=
  S_X8_fresh σ (fun σ1 => S_X8_isPort x2 σ1 (fun r3 σ2 => ((r3 = 0 → J_X8_port_21 Q σ2) ∧ (¬ r3 = 0 → S_X8_in x1 0 1 σ2 (fun r7 σ6 => ((¬ r7 = 0 → S_X8_portAt x1 x2 σ6 (fun r9 σ8 => ((x3 = 0 → vp_in (r9 + 0) 1809 ∧ Q (gI σ8 61 0 (ix (r9 + 0))) σ8) ∧ (x3 = 1 → vp_in (r9 + 1) 1809 ∧ ((¬ (gI σ8 61 0 (ix (r9 + 1))) = (-2) → vp_in (r9 + 3) 1809 ∧ Q (gI σ8 61 0 (ix (r9 + 3))) σ8) ∧ ((gI σ8 61 0 (ix (r9 + 1))) = (-2) → Q (-2) σ8))) ∧ (x3 = 2 → vp_in (r9 + 1) 1809 ∧ Q (gI σ8 61 0 (ix (r9 + 1))) σ8) ∧ (x3 = 3 → vp_in (r9 + 2) 1809 ∧ Q (gI σ8 61 0 (ix (r9 + 2))) σ8) ∧ (¬ x3 = 0 → ¬ x3 = 1 → ¬ x3 = 2 → ¬ x3 = 3 → S_X8_no 1 σ8 (fun r11 σ10 => Q r11 σ10))))) ∧ (r7 = 0 → J_X8_port_21 Q σ6)))))))
set_option maxHeartbeats 2000000 in
set_option maxRecDepth 20000 in
theorem ok_X8_port (l : Launch) (g : Gm) (x1 : Int32) (x2 : Int32) (x3 : Int32) (σ : Hp) (Q : Int32 → Hp → Prop) (h : S_X8_port x1 x2 x3 σ Q) : Ct l g yX8_port cX8_port 5 (some .int) 3 [.ref (gad g 8 0), .int x1, .int x2, .int x3] σ (QI Q) := by
  refine Ct.of (by decide +kernel) (Nat.le_of_ble_eq_true rfl) ?_
  intro p e R s m args below meth c C
  have C : Cx g p R s m args meth c cX8_port 5 RX8 (some .int) 3 := C
  have j21 : ∀ (σ : Hp), J_X8_port_21 Q σ → G g p l e R s m args below meth c (QI Q) 5 21 [(0, .ref (gad g 8 0))] [] σ := by
    intro σ h
    unfold J_X8_port_21 at h
    refine r_aload_n C dX8_port_21 rfl 0 rfl ?_
    refine r_iconst C dX8_port_22 ic_1 ?_
    refine r_callVi [] C dX8_port_23 w_8_203 (ok_X8_no l g _ _ _ h) (Nat.le_of_ble_eq_true rfl) rfl rfl ak_8 (cn_8 (by decide)) rfl rfl (Nat.le_of_ble_eq_true rfl) (fun r5 σ4 h => ?_)
    exact r_ireturn C dX8_port_26 ⟨_, rfl, h⟩
  unfold S_X8_port at h
  show G g p l e R s m args below meth c (QI Q) 5 0 [(0, .ref (gad g 8 0)), (1, .int x1), (2, .int x2), (3, .int x3)] [] σ
  refine r_aload_n C dX8_port_0 rfl 0 rfl ?_
  refine r_callVv [] C dX8_port_1 w_8_200 (ok_X8_fresh l g _ _ h) (Nat.le_of_ble_eq_true rfl) rfl rfl ak_8 (cn_8 (by decide)) rfl rfl (Nat.le_of_ble_eq_true rfl) (fun σ1 h => ?_)
  refine r_aload_n C dX8_port_4 rfl 0 rfl ?_
  refine r_iload_n C dX8_port_5 rfl 2 rfl ?_
  refine r_callVi [] C dX8_port_6 w_8_307 (ok_X8_isPort l g _ _ _ h) (Nat.le_of_ble_eq_true rfl) rfl rfl ak_8 (cn_8 (by decide)) rfl rfl (Nat.le_of_ble_eq_true rfl) (fun r3 σ2 h => ?_)
  refine r_if_eq (tgt := 21) C dX8_port_9 rfl (fun q => ?_) (fun q => ?_)
  · have h := h.1 q
    refine r_sub [0] rfl ?_
    exact j21 _ h
  · have h := h.2 q
    refine r_iload_n C dX8_port_12 rfl 1 rfl ?_
    refine r_iconst C dX8_port_13 ic_0 ?_
    refine r_iconst C dX8_port_14 ic_1 ?_
    refine r_callSi [] C dX8_port_15 w_8_80 (ok_X8_in l g _ _ _ _ _ h) (Nat.le_of_ble_eq_true rfl) rfl rfl (Nat.le_of_ble_eq_true rfl) (fun r7 σ6 h => ?_)
    refine r_if_ne (tgt := 27) C dX8_port_18 rfl (fun q => ?_) (fun q => ?_)
    · have h := h.1 q
      refine r_iload_n C dX8_port_27 rfl 1 rfl ?_
      refine r_iload_n C dX8_port_28 rfl 2 rfl ?_
      refine r_callSi [] C dX8_port_29 w_8_255 (ok_X8_portAt l g _ _ _ _ h) (Nat.le_of_ble_eq_true rfl) rfl rfl (Nat.le_of_ble_eq_true rfl) (fun r9 σ8 h => ?_)
      refine r_istore C dX8_port_32 (Nat.le_of_ble_eq_true rfl) rfl ?_
      refine r_iload_n C dX8_port_34 rfl 4 rfl ?_
      obtain ⟨h0, h1, h2, h3, h⟩ := h
      by_cases q0 : x3 = 0
      · have h := h0 q0
        refine r_tableIn (off := 29) (tgt := 64) C dX8_port_35 (by rw [q0]; decide) (by rw [q0]; decide) (by rw [q0]; rfl) rfl ?_
        refine r_aload_n C dX8_port_64 rfl 1 rfl ?_
        refine gf_8_42 C dX8_port_65 (cn_8 (by decide)) ?_
        refine r_iload C dX8_port_68 0 rfl ?_
        refine r_iconst C dX8_port_70 ic_0 ?_
        refine r_iadd C dX8_port_71 ?_
        obtain ⟨h0, h⟩ := h
        refine r_iaload C dX8_port_72 ak_61 (cn_61 (by decide)) al_61 h0 ?_
        exact r_ireturn C dX8_port_73 ⟨_, rfl, h⟩
      by_cases q1 : x3 = 1
      · have h := h1 q1
        refine r_tableIn (off := 39) (tgt := 74) C dX8_port_35 (by rw [q1]; decide) (by rw [q1]; decide) (by rw [q1]; rfl) rfl ?_
        refine r_aload_n C dX8_port_74 rfl 1 rfl ?_
        refine gf_8_42 C dX8_port_75 (cn_8 (by decide)) ?_
        refine r_iload C dX8_port_78 0 rfl ?_
        refine r_iconst C dX8_port_80 ic_1 ?_
        refine r_iadd C dX8_port_81 ?_
        obtain ⟨h0, h⟩ := h
        refine r_iaload C dX8_port_82 ak_61 (cn_61 (by decide)) al_61 h0 ?_
        refine r_bipush C dX8_port_83 bi_m2 ?_
        refine r_icmp_ne (tgt := 93) C dX8_port_85 rfl (fun q => ?_) (fun q => ?_)
        · have h := h.1 q
          refine r_aload_n C dX8_port_93 rfl 1 rfl ?_
          refine gf_8_42 C dX8_port_94 (cn_8 (by decide)) ?_
          refine r_iload C dX8_port_97 0 rfl ?_
          refine r_iconst C dX8_port_99 ic_3 ?_
          refine r_iadd C dX8_port_100 ?_
          obtain ⟨h0, h⟩ := h
          refine r_iaload C dX8_port_101 ak_61 (cn_61 (by decide)) al_61 h0 ?_
          exact r_ireturn C dX8_port_102 ⟨_, rfl, h⟩
        · have h := h.2 q
          refine r_bipush C dX8_port_88 bi_m2 ?_
          refine r_goto (tgt := 102) C dX8_port_90 rfl ?_
          exact r_ireturn C dX8_port_102 ⟨_, rfl, h⟩
      by_cases q2 : x3 = 2
      · have h := h2 q2
        refine r_tableIn (off := 68) (tgt := 103) C dX8_port_35 (by rw [q2]; decide) (by rw [q2]; decide) (by rw [q2]; rfl) rfl ?_
        refine r_aload_n C dX8_port_103 rfl 1 rfl ?_
        refine gf_8_42 C dX8_port_104 (cn_8 (by decide)) ?_
        refine r_iload C dX8_port_107 0 rfl ?_
        refine r_iconst C dX8_port_109 ic_1 ?_
        refine r_iadd C dX8_port_110 ?_
        obtain ⟨h0, h⟩ := h
        refine r_iaload C dX8_port_111 ak_61 (cn_61 (by decide)) al_61 h0 ?_
        exact r_ireturn C dX8_port_112 ⟨_, rfl, h⟩
      by_cases q3 : x3 = 3
      · have h := h3 q3
        refine r_tableIn (off := 78) (tgt := 113) C dX8_port_35 (by rw [q3]; decide) (by rw [q3]; decide) (by rw [q3]; rfl) rfl ?_
        refine r_aload_n C dX8_port_113 rfl 1 rfl ?_
        refine gf_8_42 C dX8_port_114 (cn_8 (by decide)) ?_
        refine r_iload C dX8_port_117 0 rfl ?_
        refine r_iconst C dX8_port_119 ic_2 ?_
        refine r_iadd C dX8_port_120 ?_
        obtain ⟨h0, h⟩ := h
        refine r_iaload C dX8_port_121 ak_61 (cn_61 (by decide)) al_61 h0 ?_
        exact r_ireturn C dX8_port_122 ⟨_, rfl, h⟩
      have h := h q0 q1 q2 q3
      refine r_tableOut (tgt := 123) C dX8_port_35 (sw_out3 q0 q1 q2 q3) rfl ?_
      refine r_aload_n C dX8_port_123 rfl 1 rfl ?_
      refine r_iconst C dX8_port_124 ic_1 ?_
      refine r_callVi [] C dX8_port_125 w_8_203 (ok_X8_no l g _ _ _ h) (Nat.le_of_ble_eq_true rfl) rfl rfl ak_8 (cn_8 (by decide)) rfl rfl (Nat.le_of_ble_eq_true rfl) (fun r11 σ10 h => ?_)
      exact r_ireturn C dX8_port_128 ⟨_, rfl, h⟩
    · have h := h.2 q
      refine r_sub [0] rfl ?_
      exact j21 _ h
