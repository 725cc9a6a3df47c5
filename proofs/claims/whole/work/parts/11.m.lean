def S_X3_slot (S : Nat) (x1 : Int32) (x2 : Int32) (σ : Hp) (Q : Int32 → Hp → Prop) : Prop :=
  vp_in x1 32 ∧ Q ((x1 * 12) + (jrem ((gI σ 31 S (ix x1)) + x2) 12)) σ
set_option maxHeartbeats 2000000 in
set_option maxRecDepth 20000 in
theorem ok_X3_slot (l : Launch) (g : Gm) (S : Nat) (hS : S < 3) (x1 : Int32) (x2 : Int32) (σ : Hp) (Q : Int32 → Hp → Prop) (h : S_X3_slot S x1 x2 σ Q) : Ct l g yX3_slot cX3_slot 3 (some .int) 0 [.ref (gad g 3 S), .int x1, .int x2] σ (QI Q) := by
  refine Ct.of (by decide +kernel) (Nat.le_of_ble_eq_true rfl) ?_
  intro p e R s m args below meth c C
  have C : Cx g p R s m args meth c cX3_slot 3 RX3 (some .int) 0 := C
  unfold S_X3_slot at h
  show G g p l e R s m args below meth c (QI Q) 3 0 [(0, .ref (gad g 3 S)), (1, .int x1), (2, .int x2)] [] σ
  refine r_iload_n C dX3_slot_0 rfl 1 rfl ?_
  refine r_bipush C dX3_slot_1 bi_12 ?_
  refine r_imul C dX3_slot_3 ?_
  refine r_aload_n C dX3_slot_4 rfl 0 rfl ?_
  refine gf_3_19 C dX3_slot_5 (cn_3 hS) ?_
  refine r_iload_n C dX3_slot_8 rfl 1 rfl ?_
  obtain ⟨h0, h⟩ := h
  refine r_iaload C dX3_slot_9 ak_31 (cn_31 hS) al_31 h0 ?_
  refine r_iload_n C dX3_slot_10 rfl 2 rfl ?_
  refine r_iadd C dX3_slot_11 ?_
  refine r_bipush C dX3_slot_12 bi_12 ?_
  refine r_irem C dX3_slot_14 (by decide) ?_
  refine r_iadd C dX3_slot_15 ?_
  exact r_ireturn C dX3_slot_16 ⟨_, rfl, h⟩
def S_X3_sends (S : Nat) (x1 : Int32) (σ : Hp) (Q : Int32 → Hp → Prop) : Prop :=
  vp_in x1 32 ∧ (((gI σ 32 S (ix x1)) = (-2) → Q 0 σ) ∧ (¬ (gI σ 32 S (ix x1)) = (-2) → Q 1 σ))
set_option maxHeartbeats 2000000 in
set_option maxRecDepth 20000 in
theorem ok_X3_sends (l : Launch) (g : Gm) (S : Nat) (hS : S < 3) (x1 : Int32) (σ : Hp) (Q : Int32 → Hp → Prop) (h : S_X3_sends S x1 σ Q) : Ct l g yX3_sends cX3_sends 2 (some .boolean) 0 [.ref (gad g 3 S), .int x1] σ (QI Q) := by
  refine Ct.of (by decide +kernel) (Nat.le_of_ble_eq_true rfl) ?_
  intro p e R s m args below meth c C
  have C : Cx g p R s m args meth c cX3_sends 2 RX3 (some .boolean) 0 := C
  unfold S_X3_sends at h
  show G g p l e R s m args below meth c (QI Q) 2 0 [(0, .ref (gad g 3 S)), (1, .int x1)] [] σ
  refine r_aload_n C dX3_sends_0 rfl 0 rfl ?_
  refine gf_3_22 C dX3_sends_1 (cn_3 hS) ?_
  refine r_iload_n C dX3_sends_4 rfl 1 rfl ?_
  obtain ⟨h0, h⟩ := h
  refine r_iaload C dX3_sends_5 ak_32 (cn_32 hS) al_32 h0 ?_
  refine r_bipush C dX3_sends_6 bi_m2 ?_
  refine r_icmp_eq (tgt := 15) C dX3_sends_8 rfl (fun q => ?_) (fun q => ?_)
  · have h := h.1 q
    refine r_iconst C dX3_sends_15 ic_0 ?_
    exact r_zreturn C dX3_sends_16 zb0.1 ⟨_, rfl, h⟩
  · have h := h.2 q
    refine r_iconst C dX3_sends_11 ic_1 ?_
    refine r_goto (tgt := 16) C dX3_sends_12 rfl ?_
    exact r_zreturn C dX3_sends_16 zb1.1 ⟨_, rfl, h⟩
def S_X3_linkBeingSent (S : Nat) (x1 : Int32) (σ : Hp) (Q : Int32 → Hp → Prop) : Prop :=
  S_X3_sends S x1 σ (fun r2 σ1 => ((r2 = 0 → Q (-2) σ1) ∧ (¬ r2 = 0 → S_X3_slot S x1 0 σ1 (fun r4 σ3 => vp_in r4 384 ∧ Q (gI σ3 34 S (ix r4)) σ3))))
set_option maxHeartbeats 2000000 in
set_option maxRecDepth 20000 in
theorem ok_X3_linkBeingSent (l : Launch) (g : Gm) (S : Nat) (hS : S < 3) (x1 : Int32) (σ : Hp) (Q : Int32 → Hp → Prop) (h : S_X3_linkBeingSent S x1 σ Q) : Ct l g yX3_linkBeingSent cX3_linkBeingSent 2 (some .int) 1 [.ref (gad g 3 S), .int x1] σ (QI Q) := by
  refine Ct.of (by decide +kernel) (Nat.le_of_ble_eq_true rfl) ?_
  intro p e R s m args below meth c C
  have C : Cx g p R s m args meth c cX3_linkBeingSent 2 RX3 (some .int) 1 := C
  unfold S_X3_linkBeingSent at h
  show G g p l e R s m args below meth c (QI Q) 2 0 [(0, .ref (gad g 3 S)), (1, .int x1)] [] σ
  refine r_aload_n C dX3_linkBeingSent_0 rfl 0 rfl ?_
  refine r_iload_n C dX3_linkBeingSent_1 rfl 1 rfl ?_
  refine r_callVi [] C dX3_linkBeingSent_2 w_3_47 (ok_X3_sends l g S hS _ _ _ h) (Nat.le_of_ble_eq_true rfl) rfl rfl ak_3 (cn_3 hS) rfl rfl (Nat.le_of_ble_eq_true rfl) (fun r2 σ1 h => ?_)
  refine r_if_eq (tgt := 22) C dX3_linkBeingSent_5 rfl (fun q => ?_) (fun q => ?_)
  · have h := h.1 q
    refine r_bipush C dX3_linkBeingSent_22 bi_m2 ?_
    exact r_ireturn C dX3_linkBeingSent_24 ⟨_, rfl, h⟩
  · have h := h.2 q
    refine r_aload_n C dX3_linkBeingSent_8 rfl 0 rfl ?_
    refine gf_3_28 C dX3_linkBeingSent_9 (cn_3 hS) ?_
    refine r_aload_n C dX3_linkBeingSent_12 rfl 0 rfl ?_
    refine r_iload_n C dX3_linkBeingSent_13 rfl 1 rfl ?_
    refine r_iconst C dX3_linkBeingSent_14 ic_0 ?_
    refine r_callVi [.ref (gad g 34 S)] C dX3_linkBeingSent_15 w_3_51 (ok_X3_slot l g S hS _ _ _ _ h) (Nat.le_of_ble_eq_true rfl) rfl rfl ak_3 (cn_3 hS) rfl rfl (Nat.le_of_ble_eq_true rfl) (fun r4 σ3 h => ?_)
    obtain ⟨h0, h⟩ := h
    refine r_iaload C dX3_linkBeingSent_18 ak_34 (cn_34 hS) al_34 h0 ?_
    refine r_goto (tgt := 24) C dX3_linkBeingSent_19 rfl ?_
    exact r_ireturn C dX3_linkBeingSent_24 ⟨_, rfl, h⟩
def S_X3_admits (S : Nat) (x1 : Int32) (x2 : Int32) (x3 : Int32) (x4 : Int32) (x5 : Int32) (σ : Hp) (Q : Int32 → Hp → Prop) : Prop :=
  vp_in x2 32 ∧ (((gI σ 30 S (ix x2)) < x1 → vp_in x2 32 ∧ S_X3_slot S x2 (gI σ 30 S (ix x2)) σ (fun r2 σ1 => vp_in r2 384 ∧ ∀ σ3, σ3 = sI σ1 34 S (ix r2) x3 → vp_in r2 384 ∧ ∀ σ4, σ4 = sI σ3 35 S (ix r2) x4 → vp_in r2 384 ∧ ∀ σ5, σ5 = sI σ4 36 S (ix r2) x5 → vp_in x2 32 ∧ vp_in x2 32 ∧ ∀ σ6, σ6 = sI σ5 30 S (ix x2) ((gI σ5 30 S (ix x2)) + 1) → ∀ σ7, σ7 = sI σ6 3 S 0 ((gI σ6 3 S 0) + 1) → Q 1 σ7)) ∧ (¬ (gI σ 30 S (ix x2)) < x1 → Q 0 σ))
set_option maxHeartbeats 2000000 in
set_option maxRecDepth 20000 in
theorem ok_X3_admits (l : Launch) (g : Gm) (S : Nat) (hS : S < 3) (x1 : Int32) (x2 : Int32) (x3 : Int32) (x4 : Int32) (x5 : Int32) (σ : Hp) (Q : Int32 → Hp → Prop) (h : S_X3_admits S x1 x2 x3 x4 x5 σ Q) : Ct l g yX3_admits cX3_admits 7 (some .boolean) 1 [.ref (gad g 3 S), .int x1, .int x2, .int x3, .int x4, .int x5] σ (QI Q) := by
  refine Ct.of (by decide +kernel) (Nat.le_of_ble_eq_true rfl) ?_
  intro p e R s m args below meth c C
  have C : Cx g p R s m args meth c cX3_admits 7 RX3 (some .boolean) 1 := C
  unfold S_X3_admits at h
  show G g p l e R s m args below meth c (QI Q) 7 0 [(0, .ref (gad g 3 S)), (1, .int x1), (2, .int x2), (3, .int x3), (4, .int x4), (5, .int x5)] [] σ
  refine r_aload_n C dX3_admits_0 rfl 0 rfl ?_
  refine gf_3_15 C dX3_admits_1 (cn_3 hS) ?_
  refine r_iload_n C dX3_admits_4 rfl 2 rfl ?_
  obtain ⟨h0, h⟩ := h
  refine r_iaload C dX3_admits_5 ak_30 (cn_30 hS) al_30 h0 ?_
  refine r_iload_n C dX3_admits_6 rfl 1 rfl ?_
  refine r_icmp_lt (tgt := 12) C dX3_admits_7 rfl (fun q => ?_) (fun q => ?_)
  · have h := h.1 q
    refine r_aload_n C dX3_admits_12 rfl 0 rfl ?_
    refine r_iload_n C dX3_admits_13 rfl 2 rfl ?_
    refine r_aload_n C dX3_admits_14 rfl 0 rfl ?_
    refine gf_3_15 C dX3_admits_15 (cn_3 hS) ?_
    refine r_iload_n C dX3_admits_18 rfl 2 rfl ?_
    obtain ⟨h0, h⟩ := h
    refine r_iaload C dX3_admits_19 ak_30 (cn_30 hS) al_30 h0 ?_
    refine r_callVi [] C dX3_admits_20 w_3_51 (ok_X3_slot l g S hS _ _ _ _ h) (Nat.le_of_ble_eq_true rfl) rfl rfl ak_3 (cn_3 hS) rfl rfl (Nat.le_of_ble_eq_true rfl) (fun r2 σ1 h => ?_)
    refine r_istore C dX3_admits_23 (Nat.le_of_ble_eq_true rfl) rfl ?_
    refine r_aload_n C dX3_admits_25 rfl 1 rfl ?_
    refine gf_3_28 C dX3_admits_26 (cn_3 hS) ?_
    refine r_iload C dX3_admits_29 0 rfl ?_
    refine r_iload_n C dX3_admits_31 rfl 4 rfl ?_
    obtain ⟨h0, h⟩ := h
    refine r_iastore C dX3_admits_32 ak_34 (cn_34 hS) al_34 h0 ?_
    have h := h _ rfl
    refine r_aload_n C dX3_admits_33 rfl 1 rfl ?_
    refine gf_3_31 C dX3_admits_34 (cn_3 hS) ?_
    refine r_iload C dX3_admits_37 0 rfl ?_
    refine r_iload C dX3_admits_39 5 rfl ?_
    obtain ⟨h0, h⟩ := h
    refine r_iastore C dX3_admits_41 ak_35 (cn_35 hS) al_35 h0 ?_
    have h := h _ rfl
    refine r_aload_n C dX3_admits_42 rfl 1 rfl ?_
    refine gf_3_34 C dX3_admits_43 (cn_3 hS) ?_
    refine r_iload C dX3_admits_46 0 rfl ?_
    refine r_iload C dX3_admits_48 6 rfl ?_
    obtain ⟨h0, h⟩ := h
    refine r_iastore C dX3_admits_50 ak_36 (cn_36 hS) al_36 h0 ?_
    have h := h _ rfl
    refine r_aload_n C dX3_admits_51 rfl 1 rfl ?_
    refine gf_3_15 C dX3_admits_52 (cn_3 hS) ?_
    refine r_iload_n C dX3_admits_55 rfl 3 rfl ?_
    refine r_dup2 C dX3_admits_56 rfl rfl ?_
    obtain ⟨h0, h⟩ := h
    refine r_iaload C dX3_admits_57 ak_30 (cn_30 hS) al_30 h0 ?_
    refine r_iconst C dX3_admits_58 ic_1 ?_
    refine r_iadd C dX3_admits_59 ?_
    obtain ⟨h0, h⟩ := h
    refine r_iastore C dX3_admits_60 ak_30 (cn_30 hS) al_30 h0 ?_
    have h := h _ rfl
    refine r_aload_n C dX3_admits_61 rfl 1 rfl ?_
    refine r_dup C dX3_admits_62 rfl ?_
    refine gf_3_9 C dX3_admits_63 (cn_3 hS) ?_
    refine r_iconst C dX3_admits_66 ic_1 ?_
    refine r_iadd C dX3_admits_67 ?_
    refine pf_3_9 C dX3_admits_68 (cn_3 hS) ?_
    have h := h _ rfl
    refine r_iconst C dX3_admits_71 ic_1 ?_
    exact r_zreturn C dX3_admits_72 zb1.1 ⟨_, rfl, h⟩
  · have h := h.2 q
    refine r_iconst C dX3_admits_10 ic_0 ?_
    exact r_zreturn C dX3_admits_11 zb0.1 ⟨_, rfl, h⟩
def S_X3_removeFirst (S : Nat) (x1 : Int32) (σ : Hp) (Q : Hp → Prop) : Prop :=
  vp_in x1 32 ∧ vp_in x1 32 ∧ ∀ σ1, σ1 = sI σ 31 S (ix x1) (jrem ((gI σ 31 S (ix x1)) + 1) 12) → vp_in x1 32 ∧ vp_in x1 32 ∧ ∀ σ2, σ2 = sI σ1 30 S (ix x1) ((gI σ1 30 S (ix x1)) - 1) → ∀ σ3, σ3 = sI σ2 3 S 0 ((gI σ2 3 S 0) - 1) → vp_in x1 32 ∧ ∀ σ4, σ4 = sI σ3 32 S (ix x1) (-2) → Q σ4
set_option maxHeartbeats 2000000 in
set_option maxRecDepth 20000 in
theorem ok_X3_removeFirst (l : Launch) (g : Gm) (S : Nat) (hS : S < 3) (x1 : Int32) (σ : Hp) (Q : Hp → Prop) (h : S_X3_removeFirst S x1 σ Q) : Ct l g yX3_removeFirst cX3_removeFirst 2 none 0 [.ref (gad g 3 S), .int x1] σ (QV Q) := by
  refine Ct.of (by decide +kernel) (Nat.le_of_ble_eq_true rfl) ?_
  intro p e R s m args below meth c C
  have C : Cx g p R s m args meth c cX3_removeFirst 2 RX3 none 0 := C
  unfold S_X3_removeFirst at h
  show G g p l e R s m args below meth c (QV Q) 2 0 [(0, .ref (gad g 3 S)), (1, .int x1)] [] σ
  refine r_aload_n C dX3_removeFirst_0 rfl 0 rfl ?_
  refine gf_3_19 C dX3_removeFirst_1 (cn_3 hS) ?_
  refine r_iload_n C dX3_removeFirst_4 rfl 1 rfl ?_
  refine r_aload_n C dX3_removeFirst_5 rfl 0 rfl ?_
  refine gf_3_19 C dX3_removeFirst_6 (cn_3 hS) ?_
  refine r_iload_n C dX3_removeFirst_9 rfl 1 rfl ?_
  obtain ⟨h0, h⟩ := h
  refine r_iaload C dX3_removeFirst_10 ak_31 (cn_31 hS) al_31 h0 ?_
  refine r_iconst C dX3_removeFirst_11 ic_1 ?_
  refine r_iadd C dX3_removeFirst_12 ?_
  refine r_bipush C dX3_removeFirst_13 bi_12 ?_
  refine r_irem C dX3_removeFirst_15 (by decide) ?_
  obtain ⟨h0, h⟩ := h
  refine r_iastore C dX3_removeFirst_16 ak_31 (cn_31 hS) al_31 h0 ?_
  have h := h _ rfl
  refine r_aload_n C dX3_removeFirst_17 rfl 0 rfl ?_
  refine gf_3_15 C dX3_removeFirst_18 (cn_3 hS) ?_
  refine r_iload_n C dX3_removeFirst_21 rfl 1 rfl ?_
  refine r_dup2 C dX3_removeFirst_22 rfl rfl ?_
  obtain ⟨h0, h⟩ := h
  refine r_iaload C dX3_removeFirst_23 ak_30 (cn_30 hS) al_30 h0 ?_
  refine r_iconst C dX3_removeFirst_24 ic_1 ?_
  refine r_isub C dX3_removeFirst_25 ?_
  obtain ⟨h0, h⟩ := h
  refine r_iastore C dX3_removeFirst_26 ak_30 (cn_30 hS) al_30 h0 ?_
  have h := h _ rfl
  refine r_aload_n C dX3_removeFirst_27 rfl 0 rfl ?_
  refine r_dup C dX3_removeFirst_28 rfl ?_
  refine gf_3_9 C dX3_removeFirst_29 (cn_3 hS) ?_
  refine r_iconst C dX3_removeFirst_32 ic_1 ?_
  refine r_isub C dX3_removeFirst_33 ?_
  refine pf_3_9 C dX3_removeFirst_34 (cn_3 hS) ?_
  have h := h _ rfl
  refine r_aload_n C dX3_removeFirst_37 rfl 0 rfl ?_
  refine gf_3_22 C dX3_removeFirst_38 (cn_3 hS) ?_
  refine r_iload_n C dX3_removeFirst_41 rfl 1 rfl ?_
  refine r_bipush C dX3_removeFirst_42 bi_m2 ?_
  obtain ⟨h0, h⟩ := h
  refine r_iastore C dX3_removeFirst_44 ak_32 (cn_32 hS) al_32 h0 ?_
  have h := h _ rfl
  exact r_return C dX3_removeFirst_45 ⟨rfl, h⟩
def L_X3_noteMost_2 (Q : Hp → Prop) (K35 : Hp → Prop) (S : Nat) : Nat → Int32 → Hp → Prop
  | 0, _, _ => False
  | n + 1, y1, σ =>
  (((32 : Int32) ≤ y1 → K35 σ) ∧ (¬ (32 : Int32) ≤ y1 → vp_in y1 32 ∧ vp_in y1 32 ∧ vp_in y1 32 ∧ ∀ σ1, σ1 = sI σ 33 S (ix y1) (if (gI σ 33 S (ix y1)) < (gI σ 30 S (ix y1)) then (gI σ 30 S (ix y1)) else (gI σ 33 S (ix y1))) → L_X3_noteMost_2 Q K35 S n (y1 + 1) σ1))
def S_X3_noteMost (S : Nat) (σ : Hp) (Q : Hp → Prop) : Prop :=
  (∃ n2, L_X3_noteMost_2 Q (fun σ3 => Q σ3) S n2 0 σ)
set_option maxHeartbeats 2000000 in
set_option maxRecDepth 20000 in
theorem ok_X3_noteMost (l : Launch) (g : Gm) (S : Nat) (hS : S < 3) (σ : Hp) (Q : Hp → Prop) (h : S_X3_noteMost S σ Q) : Ct l g yX3_noteMost cX3_noteMost 2 none 1 [.ref (gad g 3 S)] σ (QV Q) := by
  refine Ct.of (by decide +kernel) (Nat.le_of_ble_eq_true rfl) ?_
  intro p e R s m args below meth c C
  have C : Cx g p R s m args meth c cX3_noteMost 2 RX3 none 1 := C
  have l2 : ∀ (K35 : Hp → Prop) (hK35 : ∀ (σ : Hp), K35 σ → G g p l e R s m args below meth c (QV Q) 2 35 [] [] σ) (n : Nat) (y1 : Int32) (σ : Hp), L_X3_noteMost_2 Q K35 S n y1 σ → G g p l e R s m args below meth c (QV Q) 2 2 [(0, .ref (gad g 3 S)), (1, .int y1)] [] σ := by
    intro K35 hK35 n
    induction n with
    | zero => intro y1 σ h; exact False.elim h
    | succ n ih =>
      intro y1 σ h
      unfold L_X3_noteMost_2 at h
      refine r_iload_n C dX3_noteMost_2 rfl 1 rfl ?_
      refine r_bipush C dX3_noteMost_3 bi_32 ?_
      refine r_icmp_ge (tgt := 35) C dX3_noteMost_5 rfl (fun q => ?_) (fun q => ?_)
      · have h := h.1 q
        refine r_sub [] rfl ?_
        exact hK35 _ h
      · have h := h.2 q
        refine r_aload_n C dX3_noteMost_8 rfl 0 rfl ?_
        refine gf_3_25 C dX3_noteMost_9 (cn_3 hS) ?_
        refine r_iload_n C dX3_noteMost_12 rfl 1 rfl ?_
        refine r_aload_n C dX3_noteMost_13 rfl 0 rfl ?_
        refine gf_3_25 C dX3_noteMost_14 (cn_3 hS) ?_
        refine r_iload_n C dX3_noteMost_17 rfl 1 rfl ?_
        obtain ⟨h0, h⟩ := h
        refine r_iaload C dX3_noteMost_18 ak_33 (cn_33 hS) al_33 h0 ?_
        refine r_aload_n C dX3_noteMost_19 rfl 0 rfl ?_
        refine gf_3_15 C dX3_noteMost_20 (cn_3 hS) ?_
        refine r_iload_n C dX3_noteMost_23 rfl 1 rfl ?_
        obtain ⟨h0, h⟩ := h
        refine r_iaload C dX3_noteMost_24 ak_30 (cn_30 hS) al_30 h0 ?_
        refine r_max C dX3_noteMost_25 u4_164 u4_158 u1_10 u4_159 (by decide) (Nat.le_of_ble_eq_true rfl) ?_
        obtain ⟨h0, h⟩ := h
        refine r_iastore C dX3_noteMost_28 ak_33 (cn_33 hS) al_33 h0 ?_
        have h := h _ rfl
        refine r_iinc (v := y1 + 1) C dX3_noteMost_29 1 rfl rfl (Nat.le_of_ble_eq_true rfl) rfl ?_
        refine r_goto (tgt := 2) C dX3_noteMost_32 rfl ?_
        refine r_sub [1, 0] rfl ?_
        exact ih _ _ h
  unfold S_X3_noteMost at h
  show G g p l e R s m args below meth c (QV Q) 2 0 [(0, .ref (gad g 3 S))] [] σ
  refine r_iconst C dX3_noteMost_0 ic_0 ?_
  refine r_istore_n C dX3_noteMost_1 rfl (Nat.le_of_ble_eq_true rfl) rfl ?_
  refine r_sub [1, 0] rfl ?_
  obtain ⟨n2, h⟩ := h
  refine l2 _ (fun σ3 h => ?_) n2 _ _ h
  exact r_return C dX3_noteMost_35 ⟨rfl, h⟩
def J_X3_nextChange_49 (Q : Int32 → Hp → Prop) (kb : Int32 → Int32 → Hp → Prop) (K55 : Int32 → Hp → Prop) (S : Nat) (y1 : Int32) (y3 : Int32) (y4 : Int32) (σ : Hp) : Prop :=
  kb y3 (y4 + 1) σ
def J_X3_nextChange_45 (Q : Int32 → Hp → Prop) (kb : Int32 → Int32 → Hp → Prop) (K55 : Int32 → Hp → Prop) (S : Nat) (y1 : Int32) (y4 : Int32) (z0 : Int32) (z1 : Int32) (σ : Hp) : Prop :=
  J_X3_nextChange_49 Q kb K55 S y1 (if z0 < z1 then z0 else z1) y4 σ
def L_X3_nextChange_5 (Q : Int32 → Hp → Prop) (K55 : Int32 → Hp → Prop) (S : Nat) (y1 : Int32) : Nat → Int32 → Int32 → Hp → Prop
  | 0, _, _, _ => False
  | n + 1, y3, y4, σ =>
  (((32 : Int32) ≤ y4 → K55 y3 σ) ∧ (¬ (32 : Int32) ≤ y4 → vp_in y4 32 ∧ (((gI σ 30 S (ix y4)) ≤ 0 → J_X3_nextChange_49 Q (L_X3_nextChange_5 Q K55 S y1 n) K55 S y1 y3 y4 σ) ∧ (¬ (gI σ 30 S (ix y4)) ≤ 0 → S_X3_sends S y4 σ (fun r2 σ1 => ((r2 = 0 → J_X3_nextChange_45 Q (L_X3_nextChange_5 Q K55 S y1 n) K55 S y1 y4 (y1 + 1) y3 σ1) ∧ (¬ r2 = 0 → vp_in y4 32 ∧ J_X3_nextChange_45 Q (L_X3_nextChange_5 Q K55 S y1 n) K55 S y1 y4 (gI σ1 32 S (ix y4)) y3 σ1)))))))
def S_X3_nextChange (S : Nat) (x1 : Int32) (x2 : Int32) (σ : Hp) (Q : Int32 → Hp → Prop) : Prop :=
  (∃ n3, L_X3_nextChange_5 Q (fun w5 σ4 => Q w5 σ4) S x1 n3 x2 0 σ)
set_option maxHeartbeats 2000000 in
set_option maxRecDepth 20000 in
theorem ok_X3_nextChange (l : Launch) (g : Gm) (S : Nat) (hS : S < 3) (x1 : Int32) (x2 : Int32) (σ : Hp) (Q : Int32 → Hp → Prop) (h : S_X3_nextChange S x1 x2 σ Q) : Ct l g yX3_nextChange cX3_nextChange 5 (some .int) 1 [.ref (gad g 3 S), .int x1, .int x2] σ (QI Q) := by
  refine Ct.of (by decide +kernel) (Nat.le_of_ble_eq_true rfl) ?_
  intro p e R s m args below meth c C
  have C : Cx g p R s m args meth c cX3_nextChange 5 RX3 (some .int) 1 := C
  have j49 : ∀ (kb : Int32 → Int32 → Hp → Prop) (K55 : Int32 → Hp → Prop) (y1 : Int32) (y3 : Int32) (y4 : Int32) (hkb : ∀ (v3 : Int32) (v4 : Int32) (σ : Hp), kb v3 v4 σ → G g p l e R s m args below meth c (QI Q) 5 5 [(0, .ref (gad g 3 S)), (1, .int y1), (3, .int v3), (4, .int v4)] [] σ) (hK55 : ∀ (v3 : Int32) (σ : Hp), K55 v3 σ → G g p l e R s m args below meth c (QI Q) 5 55 [(3, .int v3)] [] σ) (σ : Hp), J_X3_nextChange_49 Q kb K55 S y1 y3 y4 σ → G g p l e R s m args below meth c (QI Q) 5 49 [(0, .ref (gad g 3 S)), (1, .int y1), (3, .int y3), (4, .int y4)] [] σ := by
    intro kb K55 y1 y3 y4 hkb hK55 σ h
    unfold J_X3_nextChange_49 at h
    refine r_iinc (v := y4 + 1) C dX3_nextChange_49 3 rfl rfl (Nat.le_of_ble_eq_true rfl) rfl ?_
    refine r_goto (tgt := 5) C dX3_nextChange_52 rfl ?_
    refine r_sub [1, 2, 3, 0] rfl ?_
    exact hkb _ _ _ h
  have j45 : ∀ (kb : Int32 → Int32 → Hp → Prop) (K55 : Int32 → Hp → Prop) (y1 : Int32) (y4 : Int32) (z0 : Int32) (z1 : Int32) (hkb : ∀ (v3 : Int32) (v4 : Int32) (σ : Hp), kb v3 v4 σ → G g p l e R s m args below meth c (QI Q) 5 5 [(0, .ref (gad g 3 S)), (1, .int y1), (3, .int v3), (4, .int v4)] [] σ) (hK55 : ∀ (v3 : Int32) (σ : Hp), K55 v3 σ → G g p l e R s m args below meth c (QI Q) 5 55 [(3, .int v3)] [] σ) (σ : Hp), J_X3_nextChange_45 Q kb K55 S y1 y4 z0 z1 σ → G g p l e R s m args below meth c (QI Q) 5 45 [(0, .ref (gad g 3 S)), (1, .int y1), (4, .int y4)] [.int z0, .int z1] σ := by
    intro kb K55 y1 y4 z0 z1 hkb hK55 σ h
    unfold J_X3_nextChange_45 at h
    refine r_min C dX3_nextChange_45 u4_155 u2_188 u1_10 u2_189 (by decide) (Nat.le_of_ble_eq_true rfl) ?_
    refine r_istore_n C dX3_nextChange_48 rfl (Nat.le_of_ble_eq_true rfl) rfl ?_
    refine r_sub [1, 2, 0, 3] rfl ?_
    exact j49 _ _ _ _ _ hkb hK55 _ h
  have l5 : ∀ (K55 : Int32 → Hp → Prop) (y1 : Int32) (hK55 : ∀ (v3 : Int32) (σ : Hp), K55 v3 σ → G g p l e R s m args below meth c (QI Q) 5 55 [(3, .int v3)] [] σ) (n : Nat) (y3 : Int32) (y4 : Int32) (σ : Hp), L_X3_nextChange_5 Q K55 S y1 n y3 y4 σ → G g p l e R s m args below meth c (QI Q) 5 5 [(0, .ref (gad g 3 S)), (1, .int y1), (3, .int y3), (4, .int y4)] [] σ := by
    intro K55 y1 hK55 n
    induction n with
    | zero => intro y3 y4 σ h; exact False.elim h
    | succ n ih =>
      intro y3 y4 σ h
      unfold L_X3_nextChange_5 at h
      refine r_iload C dX3_nextChange_5 3 rfl ?_
      refine r_bipush C dX3_nextChange_7 bi_32 ?_
      refine r_icmp_ge (tgt := 55) C dX3_nextChange_9 rfl (fun q => ?_) (fun q => ?_)
      · have h := h.1 q
        refine r_sub [2] rfl ?_
        exact hK55 _ _ h
      · have h := h.2 q
        refine r_aload_n C dX3_nextChange_12 rfl 0 rfl ?_
        refine gf_3_15 C dX3_nextChange_13 (cn_3 hS) ?_
        refine r_iload C dX3_nextChange_16 3 rfl ?_
        obtain ⟨h0, h⟩ := h
        refine r_iaload C dX3_nextChange_18 ak_30 (cn_30 hS) al_30 h0 ?_
        refine r_if_le (tgt := 49) C dX3_nextChange_19 rfl (fun q => ?_) (fun q => ?_)
        · have h := h.1 q
          exact j49 _ _ _ _ _ ih hK55 _ h
        · have h := h.2 q
          refine r_iload_n C dX3_nextChange_22 rfl 2 rfl ?_
          refine r_aload_n C dX3_nextChange_23 rfl 0 rfl ?_
          refine r_iload C dX3_nextChange_24 3 rfl ?_
          refine r_callVi [.int _] C dX3_nextChange_26 w_3_47 (ok_X3_sends l g S hS _ _ _ h) (Nat.le_of_ble_eq_true rfl) rfl rfl ak_3 (cn_3 hS) rfl rfl (Nat.le_of_ble_eq_true rfl) (fun r2 σ1 h => ?_)
          refine r_if_eq (tgt := 42) C dX3_nextChange_29 rfl (fun q => ?_) (fun q => ?_)
          · have h := h.1 q
            refine r_iload_n C dX3_nextChange_42 rfl 1 rfl ?_
            refine r_iconst C dX3_nextChange_43 ic_1 ?_
            refine r_iadd C dX3_nextChange_44 ?_
            refine r_sub [0, 1, 3] rfl ?_
            exact j45 _ _ _ _ _ _ ih hK55 _ h
          · have h := h.2 q
            refine r_aload_n C dX3_nextChange_32 rfl 0 rfl ?_
            refine gf_3_22 C dX3_nextChange_33 (cn_3 hS) ?_
            refine r_iload C dX3_nextChange_36 3 rfl ?_
            obtain ⟨h0, h⟩ := h
            refine r_iaload C dX3_nextChange_38 ak_32 (cn_32 hS) al_32 h0 ?_
            refine r_goto (tgt := 45) C dX3_nextChange_39 rfl ?_
            refine r_sub [0, 1, 3] rfl ?_
            exact j45 _ _ _ _ _ _ ih hK55 _ h
  unfold S_X3_nextChange at h
  show G g p l e R s m args below meth c (QI Q) 5 0 [(0, .ref (gad g 3 S)), (1, .int x1), (2, .int x2)] [] σ
  refine r_iload_n C dX3_nextChange_0 rfl 2 rfl ?_
  refine r_istore_n C dX3_nextChange_1 rfl (Nat.le_of_ble_eq_true rfl) rfl ?_
  refine r_iconst C dX3_nextChange_2 ic_0 ?_
  refine r_istore C dX3_nextChange_3 (Nat.le_of_ble_eq_true rfl) rfl ?_
  refine r_sub [2, 3, 1, 0] rfl ?_
  obtain ⟨n3, h⟩ := h
  refine l5 _ _ (fun w5 σ4 h => ?_) n3 _ _ _ h
  refine r_iload_n C dX3_nextChange_55 rfl 0 rfl ?_
  exact r_ireturn C dX3_nextChange_56 ⟨_, rfl, h⟩
def L_X4_append_3 (Q : Hp → Prop) (K46 : Hp → Prop) (y1 : Int32) : Nat → Int32 → Hp → Prop
  | 0, _, _ => False
  | n + 1, y2, σ =>
  ((y2 < 0 → K46 σ) ∧ (¬ y2 < 0 → (((900 : Int32) ≤ (gI σ 4 0 1) → K46 σ) ∧ (¬ (900 : Int32) ≤ (gI σ 4 0 1) → vp_in (gI σ 4 0 1) 900 ∧ ∀ σ1, σ1 = sI σ 37 0 (ix (gI σ 4 0 1)) (vp_nar .byte ((y1 >>> (y2 &&& 31)).toInt8.toInt32)) → ∀ σ2, σ2 = sI σ1 4 0 1 ((gI σ1 4 0 1) + 1) → L_X4_append_3 Q K46 y1 n (y2 + (-8)) σ2))))
def S_X4_append (x1 : Int32) (σ : Hp) (Q : Hp → Prop) : Prop :=
  (∃ n3, L_X4_append_3 Q (fun σ4 => Q σ4) x1 n3 24 σ)
set_option maxHeartbeats 2000000 in
set_option maxRecDepth 20000 in
theorem ok_X4_append (l : Launch) (g : Gm) (x1 : Int32) (σ : Hp) (Q : Hp → Prop) (h : S_X4_append x1 σ Q) : Ct l g yX4_append cX4_append 3 none 0 [.ref (gad g 4 0), .int x1] σ (QV Q) := by
  refine Ct.of (by decide +kernel) (Nat.le_of_ble_eq_true rfl) ?_
  intro p e R s m args below meth c C
  have C : Cx g p R s m args meth c cX4_append 3 RX4 none 0 := C
  have l3 : ∀ (K46 : Hp → Prop) (y1 : Int32) (hK46 : ∀ (σ : Hp), K46 σ → G g p l e R s m args below meth c (QV Q) 3 46 [] [] σ) (n : Nat) (y2 : Int32) (σ : Hp), L_X4_append_3 Q K46 y1 n y2 σ → G g p l e R s m args below meth c (QV Q) 3 3 [(0, .ref (gad g 4 0)), (1, .int y1), (2, .int y2)] [] σ := by
    intro K46 y1 hK46 n
    induction n with
    | zero => intro y2 σ h; exact False.elim h
    | succ n ih =>
      intro y2 σ h
      unfold L_X4_append_3 at h
      refine r_iload_n C dX4_append_3 rfl 2 rfl ?_
      refine r_if_lt (tgt := 46) C dX4_append_4 rfl (fun q => ?_) (fun q => ?_)
      · have h := h.1 q
        refine r_sub [] rfl ?_
        exact hK46 _ h
      · have h := h.2 q
        refine r_aload_n C dX4_append_7 rfl 0 rfl ?_
        refine gf_4_15 C dX4_append_8 (cn_4 (by decide)) ?_
        refine r_sipush C dX4_append_11 si_900 ?_
        refine r_icmp_ge (tgt := 46) C dX4_append_14 rfl (fun q => ?_) (fun q => ?_)
        · have h := h.1 q
          refine r_sub [] rfl ?_
          exact hK46 _ h
        · have h := h.2 q
          refine r_aload_n C dX4_append_17 rfl 0 rfl ?_
          refine gf_4_9 C dX4_append_18 (cn_4 (by decide)) ?_
          refine r_aload_n C dX4_append_21 rfl 0 rfl ?_
          refine gf_4_15 C dX4_append_22 (cn_4 (by decide)) ?_
          refine r_iload_n C dX4_append_25 rfl 1 rfl ?_
          refine r_iload_n C dX4_append_26 rfl 2 rfl ?_
          refine r_ishr C dX4_append_27 ?_
          refine r_i2b C dX4_append_28 ?_
          obtain ⟨h0, h⟩ := h
          refine r_bastore C dX4_append_29 ak_37 (cn_37 (by decide)) al_37 h0 ?_
          have h := h _ rfl
          refine r_aload_n C dX4_append_30 rfl 0 rfl ?_
          refine r_dup C dX4_append_31 rfl ?_
          refine gf_4_15 C dX4_append_32 (cn_4 (by decide)) ?_
          refine r_iconst C dX4_append_35 ic_1 ?_
          refine r_iadd C dX4_append_36 ?_
          refine pf_4_15 C dX4_append_37 (cn_4 (by decide)) ?_
          have h := h _ rfl
          refine r_iinc (v := y2 + (-8)) C dX4_append_40 2 rfl rfl (Nat.le_of_ble_eq_true rfl) rfl ?_
          refine r_goto (tgt := 3) C dX4_append_43 rfl ?_
          refine r_sub [1, 2, 0] rfl ?_
          exact ih _ _ h
  unfold S_X4_append at h
  show G g p l e R s m args below meth c (QV Q) 3 0 [(0, .ref (gad g 4 0)), (1, .int x1)] [] σ
  refine r_bipush C dX4_append_0 bi_24 ?_
  refine r_istore_n C dX4_append_2 rfl (Nat.le_of_ble_eq_true rfl) rfl ?_
  refine r_sub [1, 2, 0] rfl ?_
  obtain ⟨n3, h⟩ := h
  refine l3 _ _ (fun σ4 h => ?_) n3 _ _ h
  exact r_return C dX4_append_46 ⟨rfl, h⟩
def S_X4_handOver (P : Nat) (σ : Hp) (Q : Nat → Hp → Prop) : Prop :=
  gR σ 1 < 2 ∧ ∀ σ2, σ2 = sR σ 1 P → Q (gR σ 1) σ2
set_option maxHeartbeats 2000000 in
set_option maxRecDepth 20000 in
theorem ok_X4_handOver (l : Launch) (g : Gm) (P : Nat) (hP : P < 2) (σ : Hp) (Q : Nat → Hp → Prop) (h : S_X4_handOver P σ Q) : Ct l g yX4_handOver cX4_handOver 3 (some (.object "GapLinks$Plan")) 0 [.ref (gad g 4 0), .ref (gad g 2 P)] σ (QA g Q) := by
  refine Ct.of (by decide +kernel) (Nat.le_of_ble_eq_true rfl) ?_
  intro p e R s m args below meth c C
  have C : Cx g p R s m args meth c cX4_handOver 3 RX4 (some (.object "GapLinks$Plan")) 0 := C
  unfold S_X4_handOver at h
  show G g p l e R s m args below meth c (QA g Q) 3 0 [(0, .ref (gad g 4 0)), (1, .ref (gad g 2 P))] [] σ
  refine r_aload_n C dX4_handOver_0 rfl 0 rfl ?_
  refine gf_4_22 C dX4_handOver_1 (cn_4 (by decide)) ?_
  obtain ⟨hr1, h⟩ := h
  refine r_astore_n C dX4_handOver_4 rfl (Nat.le_of_ble_eq_true rfl) rfl ?_
  refine r_aload_n C dX4_handOver_5 rfl 1 rfl ?_
  refine r_aload_n C dX4_handOver_6 rfl 2 rfl ?_
  refine pf_4_22 C dX4_handOver_7 ?_
  have h := h _ rfl
  refine r_aload_n C dX4_handOver_10 rfl 0 rfl ?_
  exact r_areturn C dX4_handOver_11 ⟨_, rfl, h⟩
def S_X4_isLetter (x0 : Int32) (σ : Hp) (Q : Int32 → Hp → Prop) : Prop :=
  ((x0 < 97 → Q 0 σ) ∧ (¬ x0 < 97 → (((122 : Int32) < x0 → Q 0 σ) ∧ (¬ (122 : Int32) < x0 → Q 1 σ))))
set_option maxHeartbeats 2000000 in
set_option maxRecDepth 20000 in
theorem ok_X4_isLetter (l : Launch) (g : Gm) (x0 : Int32) (σ : Hp) (Q : Int32 → Hp → Prop) (h : S_X4_isLetter x0 σ Q) : Ct l g yX4_isLetter cX4_isLetter 1 (some .boolean) 0 [.int x0] σ (QI Q) := by
  refine Ct.of (by decide +kernel) (Nat.le_of_ble_eq_true rfl) ?_
  intro p e R s m args below meth c C
  have C : Cx g p R s m args meth c cX4_isLetter 1 RX4 (some .boolean) 0 := C
  unfold S_X4_isLetter at h
  show G g p l e R s m args below meth c (QI Q) 1 0 [(0, .int x0)] [] σ
  refine r_iload_n C dX4_isLetter_0 rfl 0 rfl ?_
  refine r_bipush C dX4_isLetter_1 bi_97 ?_
  refine r_icmp_lt (tgt := 16) C dX4_isLetter_3 rfl (fun q => ?_) (fun q => ?_)
  · have h := h.1 q
    refine r_iconst C dX4_isLetter_16 ic_0 ?_
    exact r_zreturn C dX4_isLetter_17 zb0.1 ⟨_, rfl, h⟩
  · have h := h.2 q
    refine r_iload_n C dX4_isLetter_6 rfl 0 rfl ?_
    refine r_bipush C dX4_isLetter_7 bi_122 ?_
    refine r_icmp_gt (tgt := 16) C dX4_isLetter_9 rfl (fun q => ?_) (fun q => ?_)
    · have h := h.1 q
      refine r_iconst C dX4_isLetter_16 ic_0 ?_
      exact r_zreturn C dX4_isLetter_17 zb0.1 ⟨_, rfl, h⟩
    · have h := h.2 q
      refine r_iconst C dX4_isLetter_12 ic_1 ?_
      refine r_goto (tgt := 17) C dX4_isLetter_13 rfl ?_
      exact r_zreturn C dX4_isLetter_17 zb1.1 ⟨_, rfl, h⟩
def S_X4_isDigit (x0 : Int32) (σ : Hp) (Q : Int32 → Hp → Prop) : Prop :=
  ((x0 < 48 → Q 0 σ) ∧ (¬ x0 < 48 → (((57 : Int32) < x0 → Q 0 σ) ∧ (¬ (57 : Int32) < x0 → Q 1 σ))))
set_option maxHeartbeats 2000000 in
set_option maxRecDepth 20000 in
theorem ok_X4_isDigit (l : Launch) (g : Gm) (x0 : Int32) (σ : Hp) (Q : Int32 → Hp → Prop) (h : S_X4_isDigit x0 σ Q) : Ct l g yX4_isDigit cX4_isDigit 1 (some .boolean) 0 [.int x0] σ (QI Q) := by
  refine Ct.of (by decide +kernel) (Nat.le_of_ble_eq_true rfl) ?_
  intro p e R s m args below meth c C
  have C : Cx g p R s m args meth c cX4_isDigit 1 RX4 (some .boolean) 0 := C
  unfold S_X4_isDigit at h
  show G g p l e R s m args below meth c (QI Q) 1 0 [(0, .int x0)] [] σ
  refine r_iload_n C dX4_isDigit_0 rfl 0 rfl ?_
  refine r_bipush C dX4_isDigit_1 bi_48 ?_
  refine r_icmp_lt (tgt := 16) C dX4_isDigit_3 rfl (fun q => ?_) (fun q => ?_)
  · have h := h.1 q
    refine r_iconst C dX4_isDigit_16 ic_0 ?_
    exact r_zreturn C dX4_isDigit_17 zb0.1 ⟨_, rfl, h⟩
  · have h := h.2 q
    refine r_iload_n C dX4_isDigit_6 rfl 0 rfl ?_
    refine r_bipush C dX4_isDigit_7 bi_57 ?_
    refine r_icmp_gt (tgt := 16) C dX4_isDigit_9 rfl (fun q => ?_) (fun q => ?_)
    · have h := h.1 q
      refine r_iconst C dX4_isDigit_16 ic_0 ?_
      exact r_zreturn C dX4_isDigit_17 zb0.1 ⟨_, rfl, h⟩
    · have h := h.2 q
      refine r_iconst C dX4_isDigit_12 ic_1 ?_
      refine r_goto (tgt := 17) C dX4_isDigit_13 rfl ?_
      exact r_zreturn C dX4_isDigit_17 zb1.1 ⟨_, rfl, h⟩
def L_X4_stepWhole_5 (Q : Hp → Prop) (K68 : Hp → Prop) : Nat → Hp → Prop
  | 0, _ => False
  | n + 1, σ =>
  (((gI σ 4 0 3) ≤ (gI σ 4 0 5) → K68 σ) ∧ (¬ (gI σ 4 0 3) ≤ (gI σ 4 0 5) → vp_in (gI σ 4 0 5) 900 ∧ S_X4_isDigit (gI σ 37 0 (ix (gI σ 4 0 5))) σ (fun r3 σ2 => ((r3 = 0 → K68 σ2) ∧ (¬ r3 = 0 → vp_in (gI σ2 4 0 5) 900 ∧ ∀ σ4, σ4 = sI σ2 4 0 8 (((gI σ2 4 0 8) * 10) + ((gI σ2 37 0 (ix (gI σ2 4 0 5))) - 48)) → ∀ σ5, σ5 = sI σ4 4 0 5 ((gI σ4 4 0 5) + 1) → L_X4_stepWhole_5 Q K68 n σ5)))))
def J_X4_stepWhole_68 (Q : Hp → Prop) (σ : Hp) : Prop :=
  (((3 : Int32) < ((gI σ 4 0 5) - (gI σ 4 0 4)) → ∀ σ8, σ8 = sI σ 4 0 6 4 → Q σ8) ∧ (¬ (3 : Int32) < ((gI σ 4 0 5) - (gI σ 4 0 4)) → ∀ σ9, σ9 = sI σ 4 0 6 2 → Q σ9))
def S_X4_stepWhole (σ : Hp) (Q : Hp → Prop) : Prop :=
  ∀ σ1, σ1 = sI σ 4 0 8 0 → (∃ n6, L_X4_stepWhole_5 Q (fun σ7 => J_X4_stepWhole_68 Q σ7) n6 σ1)
set_option maxHeartbeats 2000000 in
set_option maxRecDepth 20000 in
theorem ok_X4_stepWhole (l : Launch) (g : Gm) (σ : Hp) (Q : Hp → Prop) (h : S_X4_stepWhole σ Q) : Ct l g yX4_stepWhole cX4_stepWhole 1 none 1 [.ref (gad g 4 0)] σ (QV Q) := by
  refine Ct.of (by decide +kernel) (Nat.le_of_ble_eq_true rfl) ?_
  intro p e R s m args below meth c C
  have C : Cx g p R s m args meth c cX4_stepWhole 1 RX4 none 1 := C
  have l5 : ∀ (K68 : Hp → Prop) (hK68 : ∀ (σ : Hp), K68 σ → G g p l e R s m args below meth c (QV Q) 1 68 [(0, .ref (gad g 4 0))] [] σ) (n : Nat) (σ : Hp), L_X4_stepWhole_5 Q K68 n σ → G g p l e R s m args below meth c (QV Q) 1 5 [(0, .ref (gad g 4 0))] [] σ := by
    intro K68 hK68 n
    induction n with
    | zero => intro σ h; exact False.elim h
    | succ n ih =>
      intro σ h
      unfold L_X4_stepWhole_5 at h
      refine r_aload_n C dX4_stepWhole_5 rfl 0 rfl ?_
      refine gf_4_32 C dX4_stepWhole_6 (cn_4 (by decide)) ?_
      refine r_aload_n C dX4_stepWhole_9 rfl 0 rfl ?_
      refine gf_4_26 C dX4_stepWhole_10 (cn_4 (by decide)) ?_
      refine r_icmp_ge (tgt := 68) C dX4_stepWhole_13 rfl (fun q => ?_) (fun q => ?_)
      · have h := h.1 q
        exact hK68 _ h
      · have h := h.2 q
        refine r_aload_n C dX4_stepWhole_16 rfl 0 rfl ?_
        refine gf_4_9 C dX4_stepWhole_17 (cn_4 (by decide)) ?_
        refine r_aload_n C dX4_stepWhole_20 rfl 0 rfl ?_
        refine gf_4_32 C dX4_stepWhole_21 (cn_4 (by decide)) ?_
        obtain ⟨h0, h⟩ := h
        refine r_baload C dX4_stepWhole_24 ak_37 (cn_37 (by decide)) al_37 h0 ?_
        refine r_callSi [] C dX4_stepWhole_25 w_4_216 (ok_X4_isDigit l g _ _ _ h) (Nat.le_of_ble_eq_true rfl) rfl rfl (Nat.le_of_ble_eq_true rfl) (fun r3 σ2 h => ?_)
        refine r_if_eq (tgt := 68) C dX4_stepWhole_28 rfl (fun q => ?_) (fun q => ?_)
        · have h := h.1 q
          exact hK68 _ h
        · have h := h.2 q
          refine r_aload_n C dX4_stepWhole_31 rfl 0 rfl ?_
          refine r_aload_n C dX4_stepWhole_32 rfl 0 rfl ?_
          refine gf_4_42 C dX4_stepWhole_33 (cn_4 (by decide)) ?_
          refine r_bipush C dX4_stepWhole_36 bi_10 ?_
          refine r_imul C dX4_stepWhole_38 ?_
          refine r_aload_n C dX4_stepWhole_39 rfl 0 rfl ?_
          refine gf_4_9 C dX4_stepWhole_40 (cn_4 (by decide)) ?_
          refine r_aload_n C dX4_stepWhole_43 rfl 0 rfl ?_
          refine gf_4_32 C dX4_stepWhole_44 (cn_4 (by decide)) ?_
          obtain ⟨h0, h⟩ := h
          refine r_baload C dX4_stepWhole_47 ak_37 (cn_37 (by decide)) al_37 h0 ?_
          refine r_bipush C dX4_stepWhole_48 bi_48 ?_
          refine r_isub C dX4_stepWhole_50 ?_
          refine r_iadd C dX4_stepWhole_51 ?_
          refine pf_4_42 C dX4_stepWhole_52 (cn_4 (by decide)) ?_
          have h := h _ rfl
          refine r_aload_n C dX4_stepWhole_55 rfl 0 rfl ?_
          refine r_dup C dX4_stepWhole_56 rfl ?_
          refine gf_4_32 C dX4_stepWhole_57 (cn_4 (by decide)) ?_
          refine r_iconst C dX4_stepWhole_60 ic_1 ?_
          refine r_iadd C dX4_stepWhole_61 ?_
          refine pf_4_32 C dX4_stepWhole_62 (cn_4 (by decide)) ?_
          have h := h _ rfl
          refine r_goto (tgt := 5) C dX4_stepWhole_65 rfl ?_
          exact ih _ h
  have j68 : ∀ (σ : Hp), J_X4_stepWhole_68 Q σ → G g p l e R s m args below meth c (QV Q) 1 68 [(0, .ref (gad g 4 0))] [] σ := by
    intro σ h
    unfold J_X4_stepWhole_68 at h
    refine r_aload_n C dX4_stepWhole_68 rfl 0 rfl ?_
    refine r_aload_n C dX4_stepWhole_69 rfl 0 rfl ?_
    refine gf_4_32 C dX4_stepWhole_70 (cn_4 (by decide)) ?_
    refine r_aload_n C dX4_stepWhole_73 rfl 0 rfl ?_
    refine gf_4_29 C dX4_stepWhole_74 (cn_4 (by decide)) ?_
    refine r_isub C dX4_stepWhole_77 ?_
    refine r_iconst C dX4_stepWhole_78 ic_3 ?_
    refine r_icmp_gt (tgt := 86) C dX4_stepWhole_79 rfl (fun q => ?_) (fun q => ?_)
    · have h := h.1 q
      refine r_iconst C dX4_stepWhole_86 ic_4 ?_
      refine pf_4_35 C dX4_stepWhole_87 (cn_4 (by decide)) ?_
      have h := h _ rfl
      exact r_return C dX4_stepWhole_90 ⟨rfl, h⟩
    · have h := h.2 q
      refine r_iconst C dX4_stepWhole_82 ic_2 ?_
      refine r_goto (tgt := 87) C dX4_stepWhole_83 rfl ?_
      refine pf_4_35 C dX4_stepWhole_87 (cn_4 (by decide)) ?_
      have h := h _ rfl
      exact r_return C dX4_stepWhole_90 ⟨rfl, h⟩
  unfold S_X4_stepWhole at h
  show G g p l e R s m args below meth c (QV Q) 1 0 [(0, .ref (gad g 4 0))] [] σ
  refine r_aload_n C dX4_stepWhole_0 rfl 0 rfl ?_
  refine r_iconst C dX4_stepWhole_1 ic_0 ?_
  refine pf_4_42 C dX4_stepWhole_2 (cn_4 (by decide)) ?_
  have h := h _ rfl
  obtain ⟨n6, h⟩ := h
  refine l5 _ (fun σ7 h => ?_) n6 _ h
  exact j68 _ h
def L_X4_stepWord_5 (Q : Hp → Prop) (K66 : Hp → Prop) : Nat → Hp → Prop
  | 0, _ => False
  | n + 1, σ =>
  (((gI σ 4 0 3) ≤ (gI σ 4 0 5) → K66 σ) ∧ (¬ (gI σ 4 0 3) ≤ (gI σ 4 0 5) → vp_in (gI σ 4 0 5) 900 ∧ S_X4_isLetter (gI σ 37 0 (ix (gI σ 4 0 5))) σ (fun r3 σ2 => ((r3 = 0 → K66 σ2) ∧ (¬ r3 = 0 → vp_in (gI σ2 4 0 5) 900 ∧ ∀ σ4, σ4 = sL σ2 4 0 7 (((gL σ2 4 0 7) <<< ((8 : Int32).toInt64 &&& 63)) ||| ((gI σ2 37 0 (ix (gI σ2 4 0 5))).toInt64)) → ∀ σ5, σ5 = sI σ4 4 0 5 ((gI σ4 4 0 5) + 1) → L_X4_stepWord_5 Q K66 n σ5)))))
def L_X4_stepWord_76 (Q : Hp → Prop) (K103 : Hp → Prop) : Nat → Int32 → Hp → Prop
  | 0, _, _ => False
  | n + 1, y1, σ =>
  (((8 : Int32) ≤ y1 → K103 σ) ∧ (¬ (8 : Int32) ≤ y1 → ∀ σ8, σ8 = sL σ 4 0 7 (((gL σ 4 0 7) <<< ((8 : Int32).toInt64 &&& 63)) ||| 32) → L_X4_stepWord_76 Q K103 n (y1 + 1) σ8))
def J_X4_stepWord_66 (Q : Hp → Prop) (σ : Hp) : Prop :=
  (∃ n9, L_X4_stepWord_76 Q (fun σ10 => (((8 : Int32) < ((gI σ10 4 0 5) - (gI σ10 4 0 4)) → ∀ σ11, σ11 = sI σ10 4 0 6 4 → Q σ11) ∧ (¬ (8 : Int32) < ((gI σ10 4 0 5) - (gI σ10 4 0 4)) → ∀ σ12, σ12 = sI σ10 4 0 6 1 → Q σ12))) n9 ((gI σ 4 0 5) - (gI σ 4 0 4)) σ)
def S_X4_stepWord (σ : Hp) (Q : Hp → Prop) : Prop :=
  ∀ σ1, σ1 = sL σ 4 0 7 0 → (∃ n6, L_X4_stepWord_5 Q (fun σ7 => J_X4_stepWord_66 Q σ7) n6 σ1)
set_option maxHeartbeats 2000000 in
set_option maxRecDepth 20000 in
theorem ok_X4_stepWord (l : Launch) (g : Gm) (σ : Hp) (Q : Hp → Prop) (h : S_X4_stepWord σ Q) : Ct l g yX4_stepWord cX4_stepWord 2 none 1 [.ref (gad g 4 0)] σ (QV Q) := by
  refine Ct.of (by decide +kernel) (Nat.le_of_ble_eq_true rfl) ?_
  intro p e R s m args below meth c C
  have C : Cx g p R s m args meth c cX4_stepWord 2 RX4 none 1 := C
  have l5 : ∀ (K66 : Hp → Prop) (hK66 : ∀ (σ : Hp), K66 σ → G g p l e R s m args below meth c (QV Q) 2 66 [(0, .ref (gad g 4 0))] [] σ) (n : Nat) (σ : Hp), L_X4_stepWord_5 Q K66 n σ → G g p l e R s m args below meth c (QV Q) 2 5 [(0, .ref (gad g 4 0))] [] σ := by
    intro K66 hK66 n
    induction n with
    | zero => intro σ h; exact False.elim h
    | succ n ih =>
      intro σ h
      unfold L_X4_stepWord_5 at h
      refine r_aload_n C dX4_stepWord_5 rfl 0 rfl ?_
      refine gf_4_32 C dX4_stepWord_6 (cn_4 (by decide)) ?_
      refine r_aload_n C dX4_stepWord_9 rfl 0 rfl ?_
      refine gf_4_26 C dX4_stepWord_10 (cn_4 (by decide)) ?_
      refine r_icmp_ge (tgt := 66) C dX4_stepWord_13 rfl (fun q => ?_) (fun q => ?_)
      · have h := h.1 q
        exact hK66 _ h
      · have h := h.2 q
        refine r_aload_n C dX4_stepWord_16 rfl 0 rfl ?_
        refine gf_4_9 C dX4_stepWord_17 (cn_4 (by decide)) ?_
        refine r_aload_n C dX4_stepWord_20 rfl 0 rfl ?_
        refine gf_4_32 C dX4_stepWord_21 (cn_4 (by decide)) ?_
        obtain ⟨h0, h⟩ := h
        refine r_baload C dX4_stepWord_24 ak_37 (cn_37 (by decide)) al_37 h0 ?_
        refine r_callSi [] C dX4_stepWord_25 w_4_209 (ok_X4_isLetter l g _ _ _ h) (Nat.le_of_ble_eq_true rfl) rfl rfl (Nat.le_of_ble_eq_true rfl) (fun r3 σ2 h => ?_)
        refine r_if_eq (tgt := 66) C dX4_stepWord_28 rfl (fun q => ?_) (fun q => ?_)
        · have h := h.1 q
          exact hK66 _ h
        · have h := h.2 q
          refine r_aload_n C dX4_stepWord_31 rfl 0 rfl ?_
          refine r_aload_n C dX4_stepWord_32 rfl 0 rfl ?_
          refine gf_4_38 C dX4_stepWord_33 (cn_4 (by decide)) ?_
          refine r_bipush C dX4_stepWord_36 bi_8 ?_
          refine r_lshl C dX4_stepWord_38 ?_
          refine r_aload_n C dX4_stepWord_39 rfl 0 rfl ?_
          refine gf_4_9 C dX4_stepWord_40 (cn_4 (by decide)) ?_
          refine r_aload_n C dX4_stepWord_43 rfl 0 rfl ?_
          refine gf_4_32 C dX4_stepWord_44 (cn_4 (by decide)) ?_
          obtain ⟨h0, h⟩ := h
          refine r_baload C dX4_stepWord_47 ak_37 (cn_37 (by decide)) al_37 h0 ?_
          refine r_i2l C dX4_stepWord_48 ?_
          refine r_lor C dX4_stepWord_49 ?_
          refine pf_4_38 C dX4_stepWord_50 (cn_4 (by decide)) ?_
          have h := h _ rfl
          refine r_aload_n C dX4_stepWord_53 rfl 0 rfl ?_
          refine r_dup C dX4_stepWord_54 rfl ?_
          refine gf_4_32 C dX4_stepWord_55 (cn_4 (by decide)) ?_
          refine r_iconst C dX4_stepWord_58 ic_1 ?_
          refine r_iadd C dX4_stepWord_59 ?_
          refine pf_4_32 C dX4_stepWord_60 (cn_4 (by decide)) ?_
          have h := h _ rfl
          refine r_goto (tgt := 5) C dX4_stepWord_63 rfl ?_
          exact ih _ h
  have l76 : ∀ (K103 : Hp → Prop) (hK103 : ∀ (σ : Hp), K103 σ → G g p l e R s m args below meth c (QV Q) 2 103 [(0, .ref (gad g 4 0))] [] σ) (n : Nat) (y1 : Int32) (σ : Hp), L_X4_stepWord_76 Q K103 n y1 σ → G g p l e R s m args below meth c (QV Q) 2 76 [(0, .ref (gad g 4 0)), (1, .int y1)] [] σ := by
    intro K103 hK103 n
    induction n with
    | zero => intro y1 σ h; exact False.elim h
    | succ n ih =>
      intro y1 σ h
      unfold L_X4_stepWord_76 at h
      refine r_iload_n C dX4_stepWord_76 rfl 1 rfl ?_
      refine r_bipush C dX4_stepWord_77 bi_8 ?_
      refine r_icmp_ge (tgt := 103) C dX4_stepWord_79 rfl (fun q => ?_) (fun q => ?_)
      · have h := h.1 q
        refine r_sub [0] rfl ?_
        exact hK103 _ h
      · have h := h.2 q
        refine r_aload_n C dX4_stepWord_82 rfl 0 rfl ?_
        refine r_aload_n C dX4_stepWord_83 rfl 0 rfl ?_
        refine gf_4_38 C dX4_stepWord_84 (cn_4 (by decide)) ?_
        refine r_bipush C dX4_stepWord_87 bi_8 ?_
        refine r_lshl C dX4_stepWord_89 ?_
        refine r_ldc2 (v := 32) C dX4_stepWord_90 u2_205 ?_
        refine r_lor C dX4_stepWord_93 ?_
        refine pf_4_38 C dX4_stepWord_94 (cn_4 (by decide)) ?_
        have h := h _ rfl
        refine r_iinc (v := y1 + 1) C dX4_stepWord_97 1 rfl rfl (Nat.le_of_ble_eq_true rfl) rfl ?_
        refine r_goto (tgt := 76) C dX4_stepWord_100 rfl ?_
        refine r_sub [1, 0] rfl ?_
        exact ih _ _ h
  have j66 : ∀ (σ : Hp), J_X4_stepWord_66 Q σ → G g p l e R s m args below meth c (QV Q) 2 66 [(0, .ref (gad g 4 0))] [] σ := by
    intro σ h
    unfold J_X4_stepWord_66 at h
    refine r_aload_n C dX4_stepWord_66 rfl 0 rfl ?_
    refine gf_4_32 C dX4_stepWord_67 (cn_4 (by decide)) ?_
    refine r_aload_n C dX4_stepWord_70 rfl 0 rfl ?_
    refine gf_4_29 C dX4_stepWord_71 (cn_4 (by decide)) ?_
    refine r_isub C dX4_stepWord_74 ?_
    refine r_istore_n C dX4_stepWord_75 rfl (Nat.le_of_ble_eq_true rfl) rfl ?_
    refine r_sub [1, 0] rfl ?_
    obtain ⟨n9, h⟩ := h
    refine l76 _ (fun σ10 h => ?_) n9 _ _ h
    refine r_aload_n C dX4_stepWord_103 rfl 0 rfl ?_
    refine r_aload_n C dX4_stepWord_104 rfl 0 rfl ?_
    refine gf_4_32 C dX4_stepWord_105 (cn_4 (by decide)) ?_
    refine r_aload_n C dX4_stepWord_108 rfl 0 rfl ?_
    refine gf_4_29 C dX4_stepWord_109 (cn_4 (by decide)) ?_
    refine r_isub C dX4_stepWord_112 ?_
    refine r_bipush C dX4_stepWord_113 bi_8 ?_
    refine r_icmp_gt (tgt := 122) C dX4_stepWord_115 rfl (fun q => ?_) (fun q => ?_)
    · have h := h.1 q
      refine r_iconst C dX4_stepWord_122 ic_4 ?_
      refine pf_4_35 C dX4_stepWord_123 (cn_4 (by decide)) ?_
      have h := h _ rfl
      exact r_return C dX4_stepWord_126 ⟨rfl, h⟩
    · have h := h.2 q
      refine r_iconst C dX4_stepWord_118 ic_1 ?_
      refine r_goto (tgt := 123) C dX4_stepWord_119 rfl ?_
      refine pf_4_35 C dX4_stepWord_123 (cn_4 (by decide)) ?_
      have h := h _ rfl
      exact r_return C dX4_stepWord_126 ⟨rfl, h⟩
  unfold S_X4_stepWord at h
  show G g p l e R s m args below meth c (QV Q) 2 0 [(0, .ref (gad g 4 0))] [] σ
  refine r_aload_n C dX4_stepWord_0 rfl 0 rfl ?_
  refine r_lconst (v := 0) C dX4_stepWord_1 rfl ?_
  refine pf_4_38 C dX4_stepWord_2 (cn_4 (by decide)) ?_
  have h := h _ rfl
  obtain ⟨n6, h⟩ := h
  refine l5 _ (fun σ7 h => ?_) n6 _ h
  exact j66 _ h
def L_X4_step_16 (Q : Hp → Prop) (K54 : Hp → Prop) : Nat → Hp → Prop
  | 0, _ => False
  | n + 1, σ =>
  (((gI σ 4 0 3) ≤ (gI σ 4 0 4) → K54 σ) ∧ (¬ (gI σ 4 0 3) ≤ (gI σ 4 0 4) → vp_in (gI σ 4 0 4) 900 ∧ ((¬ (gI σ 37 0 (ix (gI σ 4 0 4))) = 32 → K54 σ) ∧ ((gI σ 37 0 (ix (gI σ 4 0 4))) = 32 → ∀ σ2, σ2 = sI σ 4 0 4 ((gI σ 4 0 4) + 1) → L_X4_step_16 Q K54 n σ2))))
def J_X4_step_54 (Q : Hp → Prop) (σ : Hp) : Prop :=
  ∀ σ5, σ5 = sI σ 4 0 5 (gI σ 4 0 4) → (((gI σ5 4 0 4) < (gI σ5 4 0 3) → vp_in (gI σ5 4 0 4) 900 ∧ ((¬ (gI σ5 37 0 (ix (gI σ5 4 0 4))) = 59 → vp_in (gI σ5 4 0 4) 900 ∧ S_X4_isLetter (gI σ5 37 0 (ix (gI σ5 4 0 4))) σ5 (fun r7 σ6 => ((r7 = 0 → vp_in (gI σ6 4 0 4) 900 ∧ S_X4_isDigit (gI σ6 37 0 (ix (gI σ6 4 0 4))) σ6 (fun r9 σ8 => ((r9 = 0 → ∀ σ10, σ10 = sI σ8 4 0 6 4 → Q σ10) ∧ (¬ r9 = 0 → S_X4_stepWhole σ8 (fun σ11 => Q σ11))))) ∧ (¬ r7 = 0 → S_X4_stepWord σ6 (fun σ12 => Q σ12))))) ∧ ((gI σ5 37 0 (ix (gI σ5 4 0 4))) = 59 → ∀ σ13, σ13 = sI σ5 4 0 6 3 → ∀ σ14, σ14 = sI σ13 4 0 5 ((gI σ13 4 0 4) + 1) → Q σ14))) ∧ (¬ (gI σ5 4 0 4) < (gI σ5 4 0 3) → ∀ σ15, σ15 = sI σ5 4 0 6 0 → Q σ15))
def S_X4_step (σ : Hp) (Q : Hp → Prop) : Prop :=
  (((gI σ 4 0 10) = 0 → ∀ σ1, σ1 = sI σ 4 0 4 (gI σ 4 0 5) → (∃ n3, L_X4_step_16 Q (fun σ4 => J_X4_step_54 Q σ4) n3 σ1)) ∧ (¬ (gI σ 4 0 10) = 0 → Q σ))
set_option maxHeartbeats 2000000 in
set_option maxRecDepth 20000 in
theorem ok_X4_step (l : Launch) (g : Gm) (σ : Hp) (Q : Hp → Prop) (h : S_X4_step σ Q) : Ct l g yX4_step cX4_step 1 none 2 [.ref (gad g 4 0)] σ (QV Q) := by
  refine Ct.of (by decide +kernel) (Nat.le_of_ble_eq_true rfl) ?_
  intro p e R s m args below meth c C
  have C : Cx g p R s m args meth c cX4_step 1 RX4 none 2 := C
  have l16 : ∀ (K54 : Hp → Prop) (hK54 : ∀ (σ : Hp), K54 σ → G g p l e R s m args below meth c (QV Q) 1 54 [(0, .ref (gad g 4 0))] [] σ) (n : Nat) (σ : Hp), L_X4_step_16 Q K54 n σ → G g p l e R s m args below meth c (QV Q) 1 16 [(0, .ref (gad g 4 0))] [] σ := by
    intro K54 hK54 n
    induction n with
    | zero => intro σ h; exact False.elim h
    | succ n ih =>
      intro σ h
      unfold L_X4_step_16 at h
      refine r_aload_n C dX4_step_16 rfl 0 rfl ?_
      refine gf_4_29 C dX4_step_17 (cn_4 (by decide)) ?_
      refine r_aload_n C dX4_step_20 rfl 0 rfl ?_
      refine gf_4_26 C dX4_step_21 (cn_4 (by decide)) ?_
      refine r_icmp_ge (tgt := 54) C dX4_step_24 rfl (fun q => ?_) (fun q => ?_)
      · have h := h.1 q
        exact hK54 _ h
      · have h := h.2 q
        refine r_aload_n C dX4_step_27 rfl 0 rfl ?_
        refine gf_4_9 C dX4_step_28 (cn_4 (by decide)) ?_
        refine r_aload_n C dX4_step_31 rfl 0 rfl ?_
        refine gf_4_29 C dX4_step_32 (cn_4 (by decide)) ?_
        obtain ⟨h0, h⟩ := h
        refine r_baload C dX4_step_35 ak_37 (cn_37 (by decide)) al_37 h0 ?_
        refine r_bipush C dX4_step_36 bi_32 ?_
        refine r_icmp_ne (tgt := 54) C dX4_step_38 rfl (fun q => ?_) (fun q => ?_)
        · have h := h.1 q
          exact hK54 _ h
        · have h := h.2 q
          refine r_aload_n C dX4_step_41 rfl 0 rfl ?_
          refine r_dup C dX4_step_42 rfl ?_
          refine gf_4_29 C dX4_step_43 (cn_4 (by decide)) ?_
          refine r_iconst C dX4_step_46 ic_1 ?_
          refine r_iadd C dX4_step_47 ?_
          refine pf_4_29 C dX4_step_48 (cn_4 (by decide)) ?_
          have h := h _ rfl
          refine r_goto (tgt := 16) C dX4_step_51 rfl ?_
          exact ih _ h
  have j54 : ∀ (σ : Hp), J_X4_step_54 Q σ → G g p l e R s m args below meth c (QV Q) 1 54 [(0, .ref (gad g 4 0))] [] σ := by
    intro σ h
    unfold J_X4_step_54 at h
    refine r_aload_n C dX4_step_54 rfl 0 rfl ?_
    refine r_aload_n C dX4_step_55 rfl 0 rfl ?_
    refine gf_4_29 C dX4_step_56 (cn_4 (by decide)) ?_
    refine pf_4_32 C dX4_step_59 (cn_4 (by decide)) ?_
    have h := h _ rfl
    refine r_aload_n C dX4_step_62 rfl 0 rfl ?_
    refine gf_4_29 C dX4_step_63 (cn_4 (by decide)) ?_
    refine r_aload_n C dX4_step_66 rfl 0 rfl ?_
    refine gf_4_26 C dX4_step_67 (cn_4 (by decide)) ?_
    refine r_icmp_lt (tgt := 81) C dX4_step_70 rfl (fun q => ?_) (fun q => ?_)
    · have h := h.1 q
      refine r_aload_n C dX4_step_81 rfl 0 rfl ?_
      refine gf_4_9 C dX4_step_82 (cn_4 (by decide)) ?_
      refine r_aload_n C dX4_step_85 rfl 0 rfl ?_
      refine gf_4_29 C dX4_step_86 (cn_4 (by decide)) ?_
      obtain ⟨h0, h⟩ := h
      refine r_baload C dX4_step_89 ak_37 (cn_37 (by decide)) al_37 h0 ?_
      refine r_bipush C dX4_step_90 bi_59 ?_
      refine r_icmp_ne (tgt := 113) C dX4_step_92 rfl (fun q => ?_) (fun q => ?_)
      · have h := h.1 q
        refine r_aload_n C dX4_step_113 rfl 0 rfl ?_
        refine gf_4_9 C dX4_step_114 (cn_4 (by decide)) ?_
        refine r_aload_n C dX4_step_117 rfl 0 rfl ?_
        refine gf_4_29 C dX4_step_118 (cn_4 (by decide)) ?_
        obtain ⟨h0, h⟩ := h
        refine r_baload C dX4_step_121 ak_37 (cn_37 (by decide)) al_37 h0 ?_
        refine r_callSi [] C dX4_step_122 w_4_209 (ok_X4_isLetter l g _ _ _ h) (Nat.le_of_ble_eq_true rfl) rfl rfl (Nat.le_of_ble_eq_true rfl) (fun r7 σ6 h => ?_)
        refine r_if_eq (tgt := 135) C dX4_step_125 rfl (fun q => ?_) (fun q => ?_)
        · have h := h.1 q
          refine r_aload_n C dX4_step_135 rfl 0 rfl ?_
          refine gf_4_9 C dX4_step_136 (cn_4 (by decide)) ?_
          refine r_aload_n C dX4_step_139 rfl 0 rfl ?_
          refine gf_4_29 C dX4_step_140 (cn_4 (by decide)) ?_
          obtain ⟨h0, h⟩ := h
          refine r_baload C dX4_step_143 ak_37 (cn_37 (by decide)) al_37 h0 ?_
          refine r_callSi [] C dX4_step_144 w_4_216 (ok_X4_isDigit l g _ _ _ h) (Nat.le_of_ble_eq_true rfl) rfl rfl (Nat.le_of_ble_eq_true rfl) (fun r9 σ8 h => ?_)
          refine r_if_eq (tgt := 157) C dX4_step_147 rfl (fun q => ?_) (fun q => ?_)
          · have h := h.1 q
            refine r_aload_n C dX4_step_157 rfl 0 rfl ?_
            refine r_iconst C dX4_step_158 ic_4 ?_
            refine pf_4_35 C dX4_step_159 (cn_4 (by decide)) ?_
            have h := h _ rfl
            exact r_return C dX4_step_162 ⟨rfl, h⟩
          · have h := h.2 q
            refine r_aload_n C dX4_step_150 rfl 0 rfl ?_
            refine r_callVv [] C dX4_step_151 w_4_219 (ok_X4_stepWhole l g _ _ h) (Nat.le_of_ble_eq_true rfl) rfl rfl ak_4 (cn_4 (by decide)) rfl rfl (Nat.le_of_ble_eq_true rfl) (fun σ11 h => ?_)
            refine r_goto (tgt := 162) C dX4_step_154 rfl ?_
            exact r_return C dX4_step_162 ⟨rfl, h⟩
        · have h := h.2 q
          refine r_aload_n C dX4_step_128 rfl 0 rfl ?_
          refine r_callVv [] C dX4_step_129 w_4_213 (ok_X4_stepWord l g _ _ h) (Nat.le_of_ble_eq_true rfl) rfl rfl ak_4 (cn_4 (by decide)) rfl rfl (Nat.le_of_ble_eq_true rfl) (fun σ12 h => ?_)
          refine r_goto (tgt := 162) C dX4_step_132 rfl ?_
          exact r_return C dX4_step_162 ⟨rfl, h⟩
      · have h := h.2 q
        refine r_aload_n C dX4_step_95 rfl 0 rfl ?_
        refine r_iconst C dX4_step_96 ic_3 ?_
        refine pf_4_35 C dX4_step_97 (cn_4 (by decide)) ?_
        have h := h _ rfl
        refine r_aload_n C dX4_step_100 rfl 0 rfl ?_
        refine r_aload_n C dX4_step_101 rfl 0 rfl ?_
        refine gf_4_29 C dX4_step_102 (cn_4 (by decide)) ?_
        refine r_iconst C dX4_step_105 ic_1 ?_
        refine r_iadd C dX4_step_106 ?_
        refine pf_4_32 C dX4_step_107 (cn_4 (by decide)) ?_
        have h := h _ rfl
        refine r_goto (tgt := 162) C dX4_step_110 rfl ?_
        exact r_return C dX4_step_162 ⟨rfl, h⟩
    · have h := h.2 q
      refine r_aload_n C dX4_step_73 rfl 0 rfl ?_
      refine r_iconst C dX4_step_74 ic_0 ?_
      refine pf_4_35 C dX4_step_75 (cn_4 (by decide)) ?_
      have h := h _ rfl
      refine r_goto (tgt := 162) C dX4_step_78 rfl ?_
      exact r_return C dX4_step_162 ⟨rfl, h⟩
  unfold S_X4_step at h
  show G g p l e R s m args below meth c (QV Q) 1 0 [(0, .ref (gad g 4 0))] [] σ
  refine r_aload_n C dX4_step_0 rfl 0 rfl ?_
  refine gf_4_49 C dX4_step_1 (cn_4 (by decide)) ?_
  refine r_if_eq (tgt := 8) C dX4_step_4 rfl (fun q => ?_) (fun q => ?_)
  · have h := h.1 q
    refine r_aload_n C dX4_step_8 rfl 0 rfl ?_
    refine r_aload_n C dX4_step_9 rfl 0 rfl ?_
    refine gf_4_32 C dX4_step_10 (cn_4 (by decide)) ?_
    refine pf_4_29 C dX4_step_13 (cn_4 (by decide)) ?_
    have h := h _ rfl
    obtain ⟨n3, h⟩ := h
    refine l16 _ (fun σ4 h => ?_) n3 _ h
    exact j54 _ h
  · have h := h.2 q
    exact r_return C dX4_step_7 ⟨rfl, h⟩
def S_X4_isWord (x1 : Int64) (σ : Hp) (Q : Int32 → Hp → Prop) : Prop :=
  ((¬ (gI σ 4 0 6) = 1 → Q 0 σ) ∧ ((gI σ 4 0 6) = 1 → ((¬ (lg_cmp (gL σ 4 0 7) x1) = 0 → Q 0 σ) ∧ ((lg_cmp (gL σ 4 0 7) x1) = 0 → Q 1 σ))))
set_option maxHeartbeats 2000000 in
set_option maxRecDepth 20000 in
theorem ok_X4_isWord (l : Launch) (g : Gm) (x1 : Int64) (σ : Hp) (Q : Int32 → Hp → Prop) (h : S_X4_isWord x1 σ Q) : Ct l g yX4_isWord cX4_isWord 3 (some .boolean) 0 [.ref (gad g 4 0), .long x1] σ (QI Q) := by
  refine Ct.of (by decide +kernel) (Nat.le_of_ble_eq_true rfl) ?_
  intro p e R s m args below meth c C
  have C : Cx g p R s m args meth c cX4_isWord 3 RX4 (some .boolean) 0 := C
  unfold S_X4_isWord at h
  show G g p l e R s m args below meth c (QI Q) 3 0 [(0, .ref (gad g 4 0)), (1, .long x1)] [] σ
  refine r_aload_n C dX4_isWord_0 rfl 0 rfl ?_
  refine gf_4_35 C dX4_isWord_1 (cn_4 (by decide)) ?_
  refine r_iconst C dX4_isWord_4 ic_1 ?_
  refine r_icmp_ne (tgt := 21) C dX4_isWord_5 rfl (fun q => ?_) (fun q => ?_)
  · have h := h.1 q
    refine r_iconst C dX4_isWord_21 ic_0 ?_
    exact r_zreturn C dX4_isWord_22 zb0.1 ⟨_, rfl, h⟩
  · have h := h.2 q
    refine r_aload_n C dX4_isWord_8 rfl 0 rfl ?_
    refine gf_4_38 C dX4_isWord_9 (cn_4 (by decide)) ?_
    refine r_lload_n C dX4_isWord_12 rfl 1 rfl ?_
    refine r_lcmp C dX4_isWord_13 ?_
    refine r_if_ne (tgt := 21) C dX4_isWord_14 rfl (fun q => ?_) (fun q => ?_)
    · have h := h.1 q
      refine r_iconst C dX4_isWord_21 ic_0 ?_
      exact r_zreturn C dX4_isWord_22 zb0.1 ⟨_, rfl, h⟩
    · have h := h.2 q
      refine r_iconst C dX4_isWord_17 ic_1 ?_
      refine r_goto (tgt := 22) C dX4_isWord_18 rfl ?_
      exact r_zreturn C dX4_isWord_22 zb1.1 ⟨_, rfl, h⟩
def S_X4_fail (x1 : Int32) (σ : Hp) (Q : Hp → Prop) : Prop :=
  ((¬ (gI σ 4 0 10) = 0 → Q σ) ∧ ((gI σ 4 0 10) = 0 → ∀ σ1, σ1 = sI σ 4 0 10 x1 → ∀ σ2, σ2 = sI σ1 4 0 11 (gI σ1 4 0 4) → Q σ2))
set_option maxHeartbeats 2000000 in
set_option maxRecDepth 20000 in
theorem ok_X4_fail (l : Launch) (g : Gm) (x1 : Int32) (σ : Hp) (Q : Hp → Prop) (h : S_X4_fail x1 σ Q) : Ct l g yX4_fail cX4_fail 2 none 0 [.ref (gad g 4 0), .int x1] σ (QV Q) := by
  refine Ct.of (by decide +kernel) (Nat.le_of_ble_eq_true rfl) ?_
  intro p e R s m args below meth c C
  have C : Cx g p R s m args meth c cX4_fail 2 RX4 none 0 := C
  unfold S_X4_fail at h
  show G g p l e R s m args below meth c (QV Q) 2 0 [(0, .ref (gad g 4 0)), (1, .int x1)] [] σ
  refine r_aload_n C dX4_fail_0 rfl 0 rfl ?_
  refine gf_4_49 C dX4_fail_1 (cn_4 (by decide)) ?_
  refine r_if_ne (tgt := 20) C dX4_fail_4 rfl (fun q => ?_) (fun q => ?_)
  · have h := h.1 q
    exact r_return C dX4_fail_20 ⟨rfl, h⟩
  · have h := h.2 q
    refine r_aload_n C dX4_fail_7 rfl 0 rfl ?_
    refine r_iload_n C dX4_fail_8 rfl 1 rfl ?_
    refine pf_4_49 C dX4_fail_9 (cn_4 (by decide)) ?_
    have h := h _ rfl
    refine r_aload_n C dX4_fail_12 rfl 0 rfl ?_
    refine r_aload_n C dX4_fail_13 rfl 0 rfl ?_
    refine gf_4_29 C dX4_fail_14 (cn_4 (by decide)) ?_
    refine pf_4_52 C dX4_fail_17 (cn_4 (by decide)) ?_
    have h := h _ rfl
    exact r_return C dX4_fail_20 ⟨rfl, h⟩
def S_X4_beginLine (x1 : Int32) (x2 : Int32) (σ : Hp) (Q : Hp → Prop) : Prop :=
  ((¬ (gI σ 4 0 9) = 0 → ((x1 < x2 → Q σ) ∧ (¬ x1 < x2 → S_X4_fail 5 σ (fun σ1 => Q σ1)))) ∧ ((gI σ 4 0 9) = 0 → S_X4_fail 6 σ (fun σ2 => Q σ2)))
set_option maxHeartbeats 2000000 in
set_option maxRecDepth 20000 in
theorem ok_X4_beginLine (l : Launch) (g : Gm) (x1 : Int32) (x2 : Int32) (σ : Hp) (Q : Hp → Prop) (h : S_X4_beginLine x1 x2 σ Q) : Ct l g yX4_beginLine cX4_beginLine 3 none 1 [.ref (gad g 4 0), .int x1, .int x2] σ (QV Q) := by
  refine Ct.of (by decide +kernel) (Nat.le_of_ble_eq_true rfl) ?_
  intro p e R s m args below meth c C
  have C : Cx g p R s m args meth c cX4_beginLine 3 RX4 none 1 := C
  unfold S_X4_beginLine at h
  show G g p l e R s m args below meth c (QV Q) 3 0 [(0, .ref (gad g 4 0)), (1, .int x1), (2, .int x2)] [] σ
  refine r_aload_n C dX4_beginLine_0 rfl 0 rfl ?_
  refine gf_4_45 C dX4_beginLine_1 (cn_4 (by decide)) ?_
  refine r_if_ne (tgt := 16) C dX4_beginLine_4 rfl (fun q => ?_) (fun q => ?_)
  · have h := h.1 q
    refine r_iload_n C dX4_beginLine_16 rfl 1 rfl ?_
    refine r_iload_n C dX4_beginLine_17 rfl 2 rfl ?_
    refine r_icmp_lt (tgt := 26) C dX4_beginLine_18 rfl (fun q => ?_) (fun q => ?_)
    · have h := h.1 q
      exact r_return C dX4_beginLine_26 ⟨rfl, h⟩
    · have h := h.2 q
      refine r_aload_n C dX4_beginLine_21 rfl 0 rfl ?_
      refine r_iconst C dX4_beginLine_22 ic_5 ?_
      refine r_callVv [] C dX4_beginLine_23 w_4_86 (ok_X4_fail l g _ _ _ h) (Nat.le_of_ble_eq_true rfl) rfl rfl ak_4 (cn_4 (by decide)) rfl rfl (Nat.le_of_ble_eq_true rfl) (fun σ1 h => ?_)
      exact r_return C dX4_beginLine_26 ⟨rfl, h⟩
  · have h := h.2 q
    refine r_aload_n C dX4_beginLine_7 rfl 0 rfl ?_
    refine r_bipush C dX4_beginLine_8 bi_6 ?_
    refine r_callVv [] C dX4_beginLine_10 w_4_86 (ok_X4_fail l g _ _ _ h) (Nat.le_of_ble_eq_true rfl) rfl rfl ak_4 (cn_4 (by decide)) rfl rfl (Nat.le_of_ble_eq_true rfl) (fun σ2 h => ?_)
    refine r_goto (tgt := 26) C dX4_beginLine_13 rfl ?_
    exact r_return C dX4_beginLine_26 ⟨rfl, h⟩
def J_X4_pass_13 (Q : Hp → Prop) (σ : Hp) : Prop :=
  S_X4_step σ (fun σ3 => Q σ3)
def S_X4_pass (x1 : Int64) (σ : Hp) (Q : Hp → Prop) : Prop :=
  S_X4_isWord x1 σ (fun r2 σ1 => ((¬ r2 = 0 → J_X4_pass_13 Q σ1) ∧ (r2 = 0 → S_X4_fail 1 σ1 (fun σ4 => J_X4_pass_13 Q σ4))))
set_option maxHeartbeats 2000000 in
set_option maxRecDepth 20000 in
theorem ok_X4_pass (l : Launch) (g : Gm) (x1 : Int64) (σ : Hp) (Q : Hp → Prop) (h : S_X4_pass x1 σ Q) : Ct l g yX4_pass cX4_pass 3 none 3 [.ref (gad g 4 0), .long x1] σ (QV Q) := by
  refine Ct.of (by decide +kernel) (Nat.le_of_ble_eq_true rfl) ?_
  intro p e R s m args below meth c C
  have C : Cx g p R s m args meth c cX4_pass 3 RX4 none 3 := C
  have j13 : ∀ (σ : Hp), J_X4_pass_13 Q σ → G g p l e R s m args below meth c (QV Q) 3 13 [(0, .ref (gad g 4 0))] [] σ := by
    intro σ h
    unfold J_X4_pass_13 at h
    refine r_aload_n C dX4_pass_13 rfl 0 rfl ?_
    refine r_callVv [] C dX4_pass_14 w_4_64 (ok_X4_step l g _ _ h) (Nat.le_of_ble_eq_true rfl) rfl rfl ak_4 (cn_4 (by decide)) rfl rfl (Nat.le_of_ble_eq_true rfl) (fun σ3 h => ?_)
    exact r_return C dX4_pass_17 ⟨rfl, h⟩
  unfold S_X4_pass at h
  show G g p l e R s m args below meth c (QV Q) 3 0 [(0, .ref (gad g 4 0)), (1, .long x1)] [] σ
  refine r_aload_n C dX4_pass_0 rfl 0 rfl ?_
  refine r_lload_n C dX4_pass_1 rfl 1 rfl ?_
  refine r_callVi [] C dX4_pass_2 w_4_69 (ok_X4_isWord l g _ _ _ h) (Nat.le_of_ble_eq_true rfl) rfl rfl ak_4 (cn_4 (by decide)) rfl rfl (Nat.le_of_ble_eq_true rfl) (fun r2 σ1 h => ?_)
  refine r_if_ne (tgt := 13) C dX4_pass_5 rfl (fun q => ?_) (fun q => ?_)
  · have h := h.1 q
    refine r_sub [0] rfl ?_
    exact j13 _ h
  · have h := h.2 q
    refine r_aload_n C dX4_pass_8 rfl 0 rfl ?_
    refine r_iconst C dX4_pass_9 ic_1 ?_
    refine r_callVv [] C dX4_pass_10 w_4_86 (ok_X4_fail l g _ _ _ h) (Nat.le_of_ble_eq_true rfl) rfl rfl ak_4 (cn_4 (by decide)) rfl rfl (Nat.le_of_ble_eq_true rfl) (fun σ4 h => ?_)
    refine r_sub [0] rfl ?_
    exact j13 _ h
def S_X4_isName (σ : Hp) (Q : Int32 → Hp → Prop) : Prop :=
  ((¬ (gI σ 4 0 6) = 1 → Q 0 σ) ∧ ((gI σ 4 0 6) = 1 → (((lg_cmp (gL σ 4 0 7) 7094703369807208480) = 0 → Q 0 σ) ∧ (¬ (lg_cmp (gL σ 4 0 7) 7094703369807208480) = 0 → (((lg_cmp (gL σ 4 0 7) 7308889334409601056) = 0 → Q 0 σ) ∧ (¬ (lg_cmp (gL σ 4 0 7) 7308889334409601056) = 0 → (((lg_cmp (gL σ 4 0 7) 7811896435030368288) = 0 → Q 0 σ) ∧ (¬ (lg_cmp (gL σ 4 0 7) 7811896435030368288) = 0 → Q 1 σ))))))))
set_option maxHeartbeats 2000000 in
set_option maxRecDepth 20000 in
theorem ok_X4_isName (l : Launch) (g : Gm) (σ : Hp) (Q : Int32 → Hp → Prop) (h : S_X4_isName σ Q) : Ct l g yX4_isName cX4_isName 1 (some .boolean) 0 [.ref (gad g 4 0)] σ (QI Q) := by
  refine Ct.of (by decide +kernel) (Nat.le_of_ble_eq_true rfl) ?_
  intro p e R s m args below meth c C
  have C : Cx g p R s m args meth c cX4_isName 1 RX4 (some .boolean) 0 := C
  unfold S_X4_isName at h
  show G g p l e R s m args below meth c (QI Q) 1 0 [(0, .ref (gad g 4 0))] [] σ
  refine r_aload_n C dX4_isName_0 rfl 0 rfl ?_
  refine gf_4_35 C dX4_isName_1 (cn_4 (by decide)) ?_
  refine r_iconst C dX4_isName_4 ic_1 ?_
  refine r_icmp_ne (tgt := 45) C dX4_isName_5 rfl (fun q => ?_) (fun q => ?_)
  · have h := h.1 q
    refine r_iconst C dX4_isName_45 ic_0 ?_
    exact r_zreturn C dX4_isName_46 zb0.1 ⟨_, rfl, h⟩
  · have h := h.2 q
    refine r_aload_n C dX4_isName_8 rfl 0 rfl ?_
    refine gf_4_38 C dX4_isName_9 (cn_4 (by decide)) ?_
    refine r_ldc2 (v := 7094703369807208480) C dX4_isName_12 u2_213 ?_
    refine r_lcmp C dX4_isName_15 ?_
    refine r_if_eq (tgt := 45) C dX4_isName_16 rfl (fun q => ?_) (fun q => ?_)
    · have h := h.1 q
      refine r_iconst C dX4_isName_45 ic_0 ?_
      exact r_zreturn C dX4_isName_46 zb0.1 ⟨_, rfl, h⟩
    · have h := h.2 q
      refine r_aload_n C dX4_isName_19 rfl 0 rfl ?_
      refine gf_4_38 C dX4_isName_20 (cn_4 (by decide)) ?_
      refine r_ldc2 (v := 7308889334409601056) C dX4_isName_23 u3_3 ?_
      refine r_lcmp C dX4_isName_26 ?_
      refine r_if_eq (tgt := 45) C dX4_isName_27 rfl (fun q => ?_) (fun q => ?_)
      · have h := h.1 q
        refine r_iconst C dX4_isName_45 ic_0 ?_
        exact r_zreturn C dX4_isName_46 zb0.1 ⟨_, rfl, h⟩
      · have h := h.2 q
        refine r_aload_n C dX4_isName_30 rfl 0 rfl ?_
        refine gf_4_38 C dX4_isName_31 (cn_4 (by decide)) ?_
        refine r_ldc2 (v := 7811896435030368288) C dX4_isName_34 u3_20 ?_
        refine r_lcmp C dX4_isName_37 ?_
        refine r_if_eq (tgt := 45) C dX4_isName_38 rfl (fun q => ?_) (fun q => ?_)
        · have h := h.1 q
          refine r_iconst C dX4_isName_45 ic_0 ?_
          exact r_zreturn C dX4_isName_46 zb0.1 ⟨_, rfl, h⟩
        · have h := h.2 q
          refine r_iconst C dX4_isName_41 ic_1 ?_
          refine r_goto (tgt := 46) C dX4_isName_42 rfl ?_
          exact r_zreturn C dX4_isName_46 zb1.1 ⟨_, rfl, h⟩
def J_X4_newName_50 (Q : Int64 → Hp → Prop) (σ : Hp) : Prop :=
  S_X4_step σ (fun σ7 => Q (gL σ 4 0 7) σ7)
def J_X4_newName_45 (Q : Int64 → Hp → Prop) (σ : Hp) : Prop :=
  S_X4_fail 3 σ (fun σ6 => J_X4_newName_50 Q σ6)
def S_X4_newName (σ : Hp) (Q : Int64 → Hp → Prop) : Prop :=
  S_X4_isName σ (fun r2 σ1 => ((¬ r2 = 0 → gR σ1 1 < 2 ∧ S_X2_endNamed (gR σ1 1) (gL σ1 4 0 7) σ1 (fun r5 σ4 => ((¬ r5 = (-1) → J_X4_newName_45 Q σ4) ∧ (r5 = (-1) → gR σ4 1 < 2 ∧ S_X2_linkNamed (gR σ4 1) (gL σ4 4 0 7) σ4 (fun r10 σ9 => ((r10 = (-1) → J_X4_newName_50 Q σ9) ∧ (¬ r10 = (-1) → J_X4_newName_45 Q σ9))))))) ∧ (r2 = 0 → S_X4_fail 1 σ1 (fun σ11 => J_X4_newName_50 Q σ11))))
set_option maxHeartbeats 2000000 in
set_option maxRecDepth 20000 in
theorem ok_X4_newName (l : Launch) (g : Gm) (σ : Hp) (Q : Int64 → Hp → Prop) (h : S_X4_newName σ Q) : Ct l g yX4_newName cX4_newName 3 (some .long) 3 [.ref (gad g 4 0)] σ (QL Q) := by
  refine Ct.of (by decide +kernel) (Nat.le_of_ble_eq_true rfl) ?_
  intro p e R s m args below meth c C
  have C : Cx g p R s m args meth c cX4_newName 3 RX4 (some .long) 3 := C
  have j50 : ∀ (σ : Hp), J_X4_newName_50 Q σ → G g p l e R s m args below meth c (QL Q) 3 50 [(0, .ref (gad g 4 0))] [] σ := by
    intro σ h
    unfold J_X4_newName_50 at h
    refine r_aload_n C dX4_newName_50 rfl 0 rfl ?_
    refine gf_4_38 C dX4_newName_51 (cn_4 (by decide)) ?_
    refine r_lstore_n C dX4_newName_54 rfl (Nat.le_of_ble_eq_true rfl) rfl ?_
    refine r_aload_n C dX4_newName_55 rfl 1 rfl ?_
    refine r_callVv [] C dX4_newName_56 w_4_64 (ok_X4_step l g _ _ h) (Nat.le_of_ble_eq_true rfl) rfl rfl ak_4 (cn_4 (by decide)) rfl rfl (Nat.le_of_ble_eq_true rfl) (fun σ7 h => ?_)
    refine r_lload_n C dX4_newName_59 rfl 0 rfl ?_
    exact r_lreturn C dX4_newName_60 ⟨_, rfl, h⟩
  have j45 : ∀ (σ : Hp), J_X4_newName_45 Q σ → G g p l e R s m args below meth c (QL Q) 3 45 [(0, .ref (gad g 4 0))] [] σ := by
    intro σ h
    unfold J_X4_newName_45 at h
    refine r_aload_n C dX4_newName_45 rfl 0 rfl ?_
    refine r_iconst C dX4_newName_46 ic_3 ?_
    refine r_callVv [] C dX4_newName_47 w_4_86 (ok_X4_fail l g _ _ _ h) (Nat.le_of_ble_eq_true rfl) rfl rfl ak_4 (cn_4 (by decide)) rfl rfl (Nat.le_of_ble_eq_true rfl) (fun σ6 h => ?_)
    exact j50 _ h
  unfold S_X4_newName at h
  show G g p l e R s m args below meth c (QL Q) 3 0 [(0, .ref (gad g 4 0))] [] σ
  refine r_aload_n C dX4_newName_0 rfl 0 rfl ?_
  refine r_callVi [] C dX4_newName_1 w_4_188 (ok_X4_isName l g _ _ h) (Nat.le_of_ble_eq_true rfl) rfl rfl ak_4 (cn_4 (by decide)) rfl rfl (Nat.le_of_ble_eq_true rfl) (fun r2 σ1 h => ?_)
  refine r_if_ne (tgt := 15) C dX4_newName_4 rfl (fun q => ?_) (fun q => ?_)
  · have h := h.1 q
    refine r_aload_n C dX4_newName_15 rfl 0 rfl ?_
    refine gf_4_22 C dX4_newName_16 (cn_4 (by decide)) ?_
    obtain ⟨hr3, h⟩ := h
    refine r_aload_n C dX4_newName_19 rfl 0 rfl ?_
    refine gf_4_38 C dX4_newName_20 (cn_4 (by decide)) ?_
    refine r_callVi [] C dX4_newName_23 w_4_192 (ok_X2_endNamed l g _ hr3 _ _ _ h) (Nat.le_of_ble_eq_true rfl) rfl rfl ak_2 (cn_2 hr3) rfl rfl (Nat.le_of_ble_eq_true rfl) (fun r5 σ4 h => ?_)
    refine r_iconst C dX4_newName_26 ic_m1 ?_
    refine r_icmp_ne (tgt := 45) C dX4_newName_27 rfl (fun q => ?_) (fun q => ?_)
    · have h := h.1 q
      exact j45 _ h
    · have h := h.2 q
      refine r_aload_n C dX4_newName_30 rfl 0 rfl ?_
      refine gf_4_22 C dX4_newName_31 (cn_4 (by decide)) ?_
      obtain ⟨hr8, h⟩ := h
      refine r_aload_n C dX4_newName_34 rfl 0 rfl ?_
      refine gf_4_38 C dX4_newName_35 (cn_4 (by decide)) ?_
      refine r_callVi [] C dX4_newName_38 w_4_196 (ok_X2_linkNamed l g _ hr8 _ _ _ h) (Nat.le_of_ble_eq_true rfl) rfl rfl ak_2 (cn_2 hr8) rfl rfl (Nat.le_of_ble_eq_true rfl) (fun r10 σ9 h => ?_)
      refine r_iconst C dX4_newName_41 ic_m1 ?_
      refine r_icmp_eq (tgt := 50) C dX4_newName_42 rfl (fun q => ?_) (fun q => ?_)
      · have h := h.1 q
        exact j50 _ h
      · have h := h.2 q
        exact j45 _ h
  · have h := h.2 q
    refine r_aload_n C dX4_newName_7 rfl 0 rfl ?_
    refine r_iconst C dX4_newName_8 ic_1 ?_
    refine r_callVv [] C dX4_newName_9 w_4_86 (ok_X4_fail l g _ _ _ h) (Nat.le_of_ble_eq_true rfl) rfl rfl ak_4 (cn_4 (by decide)) rfl rfl (Nat.le_of_ble_eq_true rfl) (fun σ11 h => ?_)
    refine r_goto (tgt := 50) C dX4_newName_12 rfl ?_
    exact j50 _ h
def J_X4_knownEnd_37 (Q : Int32 → Hp → Prop) (y1 : Int32) (σ : Hp) : Prop :=
  S_X4_step σ (fun σ6 => Q y1 σ6)
def S_X4_knownEnd (σ : Hp) (Q : Int32 → Hp → Prop) : Prop :=
  gR σ 1 < 2 ∧ S_X2_endNamed (gR σ 1) (gL σ 4 0 7) σ (fun r3 σ2 => S_X4_isName σ2 (fun r5 σ4 => ((¬ r5 = 0 → ((¬ r3 = (-1) → J_X4_knownEnd_37 Q r3 σ4) ∧ (r3 = (-1) → S_X4_fail 2 σ4 (fun σ7 => J_X4_knownEnd_37 Q r3 σ7)))) ∧ (r5 = 0 → S_X4_fail 1 σ4 (fun σ8 => J_X4_knownEnd_37 Q r3 σ8)))))
set_option maxHeartbeats 2000000 in
set_option maxRecDepth 20000 in
theorem ok_X4_knownEnd (l : Launch) (g : Gm) (σ : Hp) (Q : Int32 → Hp → Prop) (h : S_X4_knownEnd σ Q) : Ct l g yX4_knownEnd cX4_knownEnd 2 (some .int) 3 [.ref (gad g 4 0)] σ (QI Q) := by
  refine Ct.of (by decide +kernel) (Nat.le_of_ble_eq_true rfl) ?_
  intro p e R s m args below meth c C
  have C : Cx g p R s m args meth c cX4_knownEnd 2 RX4 (some .int) 3 := C
  have j37 : ∀ (y1 : Int32) (σ : Hp), J_X4_knownEnd_37 Q y1 σ → G g p l e R s m args below meth c (QI Q) 2 37 [(0, .ref (gad g 4 0)), (1, .int y1)] [] σ := by
    intro y1 σ h
    unfold J_X4_knownEnd_37 at h
    refine r_aload_n C dX4_knownEnd_37 rfl 0 rfl ?_
    refine r_callVv [] C dX4_knownEnd_38 w_4_64 (ok_X4_step l g _ _ h) (Nat.le_of_ble_eq_true rfl) rfl rfl ak_4 (cn_4 (by decide)) rfl rfl (Nat.le_of_ble_eq_true rfl) (fun σ6 h => ?_)
    refine r_iload_n C dX4_knownEnd_41 rfl 1 rfl ?_
    exact r_ireturn C dX4_knownEnd_42 ⟨_, rfl, h⟩
  unfold S_X4_knownEnd at h
  show G g p l e R s m args below meth c (QI Q) 2 0 [(0, .ref (gad g 4 0))] [] σ
  refine r_aload_n C dX4_knownEnd_0 rfl 0 rfl ?_
  refine gf_4_22 C dX4_knownEnd_1 (cn_4 (by decide)) ?_
  obtain ⟨hr1, h⟩ := h
  refine r_aload_n C dX4_knownEnd_4 rfl 0 rfl ?_
  refine gf_4_38 C dX4_knownEnd_5 (cn_4 (by decide)) ?_
  refine r_callVi [] C dX4_knownEnd_8 w_4_192 (ok_X2_endNamed l g _ hr1 _ _ _ h) (Nat.le_of_ble_eq_true rfl) rfl rfl ak_2 (cn_2 hr1) rfl rfl (Nat.le_of_ble_eq_true rfl) (fun r3 σ2 h => ?_)
  refine r_istore_n C dX4_knownEnd_11 rfl (Nat.le_of_ble_eq_true rfl) rfl ?_
  refine r_aload_n C dX4_knownEnd_12 rfl 1 rfl ?_
  refine r_callVi [] C dX4_knownEnd_13 w_4_188 (ok_X4_isName l g _ _ h) (Nat.le_of_ble_eq_true rfl) rfl rfl ak_4 (cn_4 (by decide)) rfl rfl (Nat.le_of_ble_eq_true rfl) (fun r5 σ4 h => ?_)
  refine r_if_ne (tgt := 27) C dX4_knownEnd_16 rfl (fun q => ?_) (fun q => ?_)
  · have h := h.1 q
    refine r_iload_n C dX4_knownEnd_27 rfl 0 rfl ?_
    refine r_iconst C dX4_knownEnd_28 ic_m1 ?_
    refine r_icmp_ne (tgt := 37) C dX4_knownEnd_29 rfl (fun q => ?_) (fun q => ?_)
    · have h := h.1 q
      refine r_sub [1, 0] rfl ?_
      exact j37 _ _ h
    · have h := h.2 q
      refine r_aload_n C dX4_knownEnd_32 rfl 1 rfl ?_
      refine r_iconst C dX4_knownEnd_33 ic_2 ?_
      refine r_callVv [] C dX4_knownEnd_34 w_4_86 (ok_X4_fail l g _ _ _ h) (Nat.le_of_ble_eq_true rfl) rfl rfl ak_4 (cn_4 (by decide)) rfl rfl (Nat.le_of_ble_eq_true rfl) (fun σ7 h => ?_)
      refine r_sub [1, 0] rfl ?_
      exact j37 _ _ h
  · have h := h.2 q
    refine r_aload_n C dX4_knownEnd_19 rfl 1 rfl ?_
    refine r_iconst C dX4_knownEnd_20 ic_1 ?_
    refine r_callVv [] C dX4_knownEnd_21 w_4_86 (ok_X4_fail l g _ _ _ h) (Nat.le_of_ble_eq_true rfl) rfl rfl ak_4 (cn_4 (by decide)) rfl rfl (Nat.le_of_ble_eq_true rfl) (fun σ8 h => ?_)
    refine r_goto (tgt := 37) C dX4_knownEnd_24 rfl ?_
    refine r_sub [1, 0] rfl ?_
    exact j37 _ _ h
def J_X4_checkedWhole_25 (Q : Int32 → Hp → Prop) (σ : Hp) : Prop :=
  S_X4_step σ (fun σ1 => Q (gI σ 4 0 8) σ1)
def S_X4_checkedWhole (x1 : Int32) (σ : Hp) (Q : Int32 → Hp → Prop) : Prop :=
  (((gI σ 4 0 6) = 2 → ((¬ x1 = 0 → J_X4_checkedWhole_25 Q σ) ∧ (x1 = 0 → S_X4_fail 4 σ (fun σ2 => J_X4_checkedWhole_25 Q σ2)))) ∧ (¬ (gI σ 4 0 6) = 2 → S_X4_fail 1 σ (fun σ3 => J_X4_checkedWhole_25 Q σ3)))
set_option maxHeartbeats 2000000 in
set_option maxRecDepth 20000 in
theorem ok_X4_checkedWhole (l : Launch) (g : Gm) (x1 : Int32) (σ : Hp) (Q : Int32 → Hp → Prop) (h : S_X4_checkedWhole x1 σ Q) : Ct l g yX4_checkedWhole cX4_checkedWhole 3 (some .int) 3 [.ref (gad g 4 0), .int x1] σ (QI Q) := by
  refine Ct.of (by decide +kernel) (Nat.le_of_ble_eq_true rfl) ?_
  intro p e R s m args below meth c C
  have C : Cx g p R s m args meth c cX4_checkedWhole 3 RX4 (some .int) 3 := C
  have j25 : ∀ (σ : Hp), J_X4_checkedWhole_25 Q σ → G g p l e R s m args below meth c (QI Q) 3 25 [(0, .ref (gad g 4 0))] [] σ := by
    intro σ h
    unfold J_X4_checkedWhole_25 at h
    refine r_aload_n C dX4_checkedWhole_25 rfl 0 rfl ?_
    refine gf_4_42 C dX4_checkedWhole_26 (cn_4 (by decide)) ?_
    refine r_istore_n C dX4_checkedWhole_29 rfl (Nat.le_of_ble_eq_true rfl) rfl ?_
    refine r_aload_n C dX4_checkedWhole_30 rfl 1 rfl ?_
    refine r_callVv [] C dX4_checkedWhole_31 w_4_64 (ok_X4_step l g _ _ h) (Nat.le_of_ble_eq_true rfl) rfl rfl ak_4 (cn_4 (by decide)) rfl rfl (Nat.le_of_ble_eq_true rfl) (fun σ1 h => ?_)
    refine r_iload_n C dX4_checkedWhole_34 rfl 0 rfl ?_
    exact r_ireturn C dX4_checkedWhole_35 ⟨_, rfl, h⟩
  unfold S_X4_checkedWhole at h
  show G g p l e R s m args below meth c (QI Q) 3 0 [(0, .ref (gad g 4 0)), (1, .int x1)] [] σ
  refine r_aload_n C dX4_checkedWhole_0 rfl 0 rfl ?_
  refine gf_4_35 C dX4_checkedWhole_1 (cn_4 (by decide)) ?_
  refine r_iconst C dX4_checkedWhole_4 ic_2 ?_
  refine r_icmp_eq (tgt := 16) C dX4_checkedWhole_5 rfl (fun q => ?_) (fun q => ?_)
  · have h := h.1 q
    refine r_iload_n C dX4_checkedWhole_16 rfl 1 rfl ?_
    refine r_if_ne (tgt := 25) C dX4_checkedWhole_17 rfl (fun q => ?_) (fun q => ?_)
    · have h := h.1 q
      refine r_sub [0] rfl ?_
      exact j25 _ h
    · have h := h.2 q
      refine r_aload_n C dX4_checkedWhole_20 rfl 0 rfl ?_
      refine r_iconst C dX4_checkedWhole_21 ic_4 ?_
      refine r_callVv [] C dX4_checkedWhole_22 w_4_86 (ok_X4_fail l g _ _ _ h) (Nat.le_of_ble_eq_true rfl) rfl rfl ak_4 (cn_4 (by decide)) rfl rfl (Nat.le_of_ble_eq_true rfl) (fun σ2 h => ?_)
      refine r_sub [0] rfl ?_
      exact j25 _ h
  · have h := h.2 q
    refine r_aload_n C dX4_checkedWhole_8 rfl 0 rfl ?_
    refine r_iconst C dX4_checkedWhole_9 ic_1 ?_
    refine r_callVv [] C dX4_checkedWhole_10 w_4_86 (ok_X4_fail l g _ _ _ h) (Nat.le_of_ble_eq_true rfl) rfl rfl ak_4 (cn_4 (by decide)) rfl rfl (Nat.le_of_ble_eq_true rfl) (fun σ3 h => ?_)
    refine r_goto (tgt := 25) C dX4_checkedWhole_13 rfl ?_
    refine r_sub [0] rfl ?_
    exact j25 _ h
def S_J6_bitCount_0f7a4 (x0 : Int32) (σ : Hp) (Q : Int32 → Hp → Prop) : Prop :=
  Q ((((((((x0 - (((x0.toUInt32 >>> ((1 : Int32).toUInt32 &&& Int32.toUInt32 31)).toInt32) &&& 1431655765)) &&& 858993459) + ((((x0 - (((x0.toUInt32 >>> ((1 : Int32).toUInt32 &&& Int32.toUInt32 31)).toInt32) &&& 1431655765)).toUInt32 >>> ((2 : Int32).toUInt32 &&& Int32.toUInt32 31)).toInt32) &&& 858993459)) + (((((x0 - (((x0.toUInt32 >>> ((1 : Int32).toUInt32 &&& Int32.toUInt32 31)).toInt32) &&& 1431655765)) &&& 858993459) + ((((x0 - (((x0.toUInt32 >>> ((1 : Int32).toUInt32 &&& Int32.toUInt32 31)).toInt32) &&& 1431655765)).toUInt32 >>> ((2 : Int32).toUInt32 &&& Int32.toUInt32 31)).toInt32) &&& 858993459)).toUInt32 >>> ((4 : Int32).toUInt32 &&& Int32.toUInt32 31)).toInt32)) &&& 252645135) + (((((((x0 - (((x0.toUInt32 >>> ((1 : Int32).toUInt32 &&& Int32.toUInt32 31)).toInt32) &&& 1431655765)) &&& 858993459) + ((((x0 - (((x0.toUInt32 >>> ((1 : Int32).toUInt32 &&& Int32.toUInt32 31)).toInt32) &&& 1431655765)).toUInt32 >>> ((2 : Int32).toUInt32 &&& Int32.toUInt32 31)).toInt32) &&& 858993459)) + (((((x0 - (((x0.toUInt32 >>> ((1 : Int32).toUInt32 &&& Int32.toUInt32 31)).toInt32) &&& 1431655765)) &&& 858993459) + ((((x0 - (((x0.toUInt32 >>> ((1 : Int32).toUInt32 &&& Int32.toUInt32 31)).toInt32) &&& 1431655765)).toUInt32 >>> ((2 : Int32).toUInt32 &&& Int32.toUInt32 31)).toInt32) &&& 858993459)).toUInt32 >>> ((4 : Int32).toUInt32 &&& Int32.toUInt32 31)).toInt32)) &&& 252645135).toUInt32 >>> ((8 : Int32).toUInt32 &&& Int32.toUInt32 31)).toInt32)) + ((((((((x0 - (((x0.toUInt32 >>> ((1 : Int32).toUInt32 &&& Int32.toUInt32 31)).toInt32) &&& 1431655765)) &&& 858993459) + ((((x0 - (((x0.toUInt32 >>> ((1 : Int32).toUInt32 &&& Int32.toUInt32 31)).toInt32) &&& 1431655765)).toUInt32 >>> ((2 : Int32).toUInt32 &&& Int32.toUInt32 31)).toInt32) &&& 858993459)) + (((((x0 - (((x0.toUInt32 >>> ((1 : Int32).toUInt32 &&& Int32.toUInt32 31)).toInt32) &&& 1431655765)) &&& 858993459) + ((((x0 - (((x0.toUInt32 >>> ((1 : Int32).toUInt32 &&& Int32.toUInt32 31)).toInt32) &&& 1431655765)).toUInt32 >>> ((2 : Int32).toUInt32 &&& Int32.toUInt32 31)).toInt32) &&& 858993459)).toUInt32 >>> ((4 : Int32).toUInt32 &&& Int32.toUInt32 31)).toInt32)) &&& 252645135) + (((((((x0 - (((x0.toUInt32 >>> ((1 : Int32).toUInt32 &&& Int32.toUInt32 31)).toInt32) &&& 1431655765)) &&& 858993459) + ((((x0 - (((x0.toUInt32 >>> ((1 : Int32).toUInt32 &&& Int32.toUInt32 31)).toInt32) &&& 1431655765)).toUInt32 >>> ((2 : Int32).toUInt32 &&& Int32.toUInt32 31)).toInt32) &&& 858993459)) + (((((x0 - (((x0.toUInt32 >>> ((1 : Int32).toUInt32 &&& Int32.toUInt32 31)).toInt32) &&& 1431655765)) &&& 858993459) + ((((x0 - (((x0.toUInt32 >>> ((1 : Int32).toUInt32 &&& Int32.toUInt32 31)).toInt32) &&& 1431655765)).toUInt32 >>> ((2 : Int32).toUInt32 &&& Int32.toUInt32 31)).toInt32) &&& 858993459)).toUInt32 >>> ((4 : Int32).toUInt32 &&& Int32.toUInt32 31)).toInt32)) &&& 252645135).toUInt32 >>> ((8 : Int32).toUInt32 &&& Int32.toUInt32 31)).toInt32)).toUInt32 >>> ((16 : Int32).toUInt32 &&& Int32.toUInt32 31)).toInt32)) &&& 63) σ
set_option maxHeartbeats 2000000 in
set_option maxRecDepth 20000 in
theorem ok_J6_bitCount_0f7a4 (l : Launch) (g : Gm) (x0 : Int32) (σ : Hp) (Q : Int32 → Hp → Prop) (h : S_J6_bitCount_0f7a4 x0 σ Q) : Ct l g yJ6_bitCount_0f7a4 cJ6_bitCount_0f7a4 1 (some .int) 0 [.int x0] σ (QI Q) := by
  refine Ct.of (by decide +kernel) (Nat.le_of_ble_eq_true rfl) ?_
  intro p e R s m args below meth c C
  have C : Cx g p R s m args meth c cJ6_bitCount_0f7a4 1 RJ6 (some .int) 0 := C
  unfold S_J6_bitCount_0f7a4 at h
  show G g p l e R s m args below meth c (QI Q) 1 0 [(0, .int x0)] [] σ
  refine r_iload_n C dJ6_bitCount_0f7a4_0 rfl 0 rfl ?_
  refine r_iload_n C dJ6_bitCount_0f7a4_1 rfl 0 rfl ?_
  refine r_iconst C dJ6_bitCount_0f7a4_2 ic_1 ?_
  refine r_iushr C dJ6_bitCount_0f7a4_3 ?_
  refine r_ldcw (v := 1431655765) C dJ6_bitCount_0f7a4_4 u3_47 ?_
  refine r_iand C dJ6_bitCount_0f7a4_7 ?_
  refine r_isub C dJ6_bitCount_0f7a4_8 ?_
  refine r_istore_n C dJ6_bitCount_0f7a4_9 rfl (Nat.le_of_ble_eq_true rfl) rfl ?_
  refine r_iload_n C dJ6_bitCount_0f7a4_10 rfl 0 rfl ?_
  refine r_ldcw (v := 858993459) C dJ6_bitCount_0f7a4_11 u3_48 ?_
  refine r_iand C dJ6_bitCount_0f7a4_14 ?_
  refine r_iload_n C dJ6_bitCount_0f7a4_15 rfl 0 rfl ?_
  refine r_iconst C dJ6_bitCount_0f7a4_16 ic_2 ?_
  refine r_iushr C dJ6_bitCount_0f7a4_17 ?_
  refine r_ldcw (v := 858993459) C dJ6_bitCount_0f7a4_18 u3_48 ?_
  refine r_iand C dJ6_bitCount_0f7a4_21 ?_
  refine r_iadd C dJ6_bitCount_0f7a4_22 ?_
  refine r_istore_n C dJ6_bitCount_0f7a4_23 rfl (Nat.le_of_ble_eq_true rfl) rfl ?_
  refine r_iload_n C dJ6_bitCount_0f7a4_24 rfl 0 rfl ?_
  refine r_iload_n C dJ6_bitCount_0f7a4_25 rfl 0 rfl ?_
  refine r_iconst C dJ6_bitCount_0f7a4_26 ic_4 ?_
  refine r_iushr C dJ6_bitCount_0f7a4_27 ?_
  refine r_iadd C dJ6_bitCount_0f7a4_28 ?_
  refine r_ldcw (v := 252645135) C dJ6_bitCount_0f7a4_29 u3_49 ?_
  refine r_iand C dJ6_bitCount_0f7a4_32 ?_
  refine r_istore_n C dJ6_bitCount_0f7a4_33 rfl (Nat.le_of_ble_eq_true rfl) rfl ?_
  refine r_iload_n C dJ6_bitCount_0f7a4_34 rfl 0 rfl ?_
  refine r_iload_n C dJ6_bitCount_0f7a4_35 rfl 0 rfl ?_
  refine r_bipush C dJ6_bitCount_0f7a4_36 bi_8 ?_
  refine r_iushr C dJ6_bitCount_0f7a4_38 ?_
  refine r_iadd C dJ6_bitCount_0f7a4_39 ?_
  refine r_istore_n C dJ6_bitCount_0f7a4_40 rfl (Nat.le_of_ble_eq_true rfl) rfl ?_
  refine r_iload_n C dJ6_bitCount_0f7a4_41 rfl 0 rfl ?_
  refine r_iload_n C dJ6_bitCount_0f7a4_42 rfl 0 rfl ?_
  refine r_bipush C dJ6_bitCount_0f7a4_43 bi_16 ?_
  refine r_iushr C dJ6_bitCount_0f7a4_45 ?_
  refine r_iadd C dJ6_bitCount_0f7a4_46 ?_
  refine r_istore_n C dJ6_bitCount_0f7a4_47 rfl (Nat.le_of_ble_eq_true rfl) rfl ?_
  refine r_iload_n C dJ6_bitCount_0f7a4_48 rfl 0 rfl ?_
  refine r_bipush C dJ6_bitCount_0f7a4_49 bi_63 ?_
  refine r_iand C dJ6_bitCount_0f7a4_51 ?_
  exact r_ireturn C dJ6_bitCount_0f7a4_52 ⟨_, rfl, h⟩
def J_X4_wholeGap_36 (Q : Int32 → Hp → Prop) (z0 : Int32) (σ : Hp) : Prop :=
  S_X4_checkedWhole z0 σ (fun r2 σ1 => Q r2 σ1)
def J_X4_wholeGap_35 (Q : Int32 → Hp → Prop) (σ : Hp) : Prop :=
  J_X4_wholeGap_36 Q 0 σ
def S_X4_wholeGap (σ : Hp) (Q : Int32 → Hp → Prop) : Prop :=
  (((gI σ 4 0 8) < 8 → J_X4_wholeGap_35 Q σ) ∧ (¬ (gI σ 4 0 8) < 8 → (((256 : Int32) < (gI σ 4 0 8) → J_X4_wholeGap_35 Q σ) ∧ (¬ (256 : Int32) < (gI σ 4 0 8) → S_J6_bitCount_0f7a4 (gI σ 4 0 8) σ (fun r4 σ3 => ((¬ r4 = 1 → J_X4_wholeGap_35 Q σ3) ∧ (r4 = 1 → J_X4_wholeGap_36 Q 1 σ3)))))))
set_option maxHeartbeats 2000000 in
set_option maxRecDepth 20000 in
theorem ok_X4_wholeGap (l : Launch) (g : Gm) (σ : Hp) (Q : Int32 → Hp → Prop) (h : S_X4_wholeGap σ Q) : Ct l g yX4_wholeGap cX4_wholeGap 1 (some .int) 4 [.ref (gad g 4 0)] σ (QI Q) := by
  refine Ct.of (by decide +kernel) (Nat.le_of_ble_eq_true rfl) ?_
  intro p e R s m args below meth c C
  have C : Cx g p R s m args meth c cX4_wholeGap 1 RX4 (some .int) 4 := C
  have j36 : ∀ (z0 : Int32) (σ : Hp), J_X4_wholeGap_36 Q z0 σ → G g p l e R s m args below meth c (QI Q) 1 36 [] [.int z0, .ref (gad g 4 0)] σ := by
    intro z0 σ h
    unfold J_X4_wholeGap_36 at h
    refine r_callVi [] C dX4_wholeGap_36 w_4_199 (ok_X4_checkedWhole l g _ _ _ h) (Nat.le_of_ble_eq_true rfl) rfl rfl ak_4 (cn_4 (by decide)) rfl rfl (Nat.le_of_ble_eq_true rfl) (fun r2 σ1 h => ?_)
    exact r_ireturn C dX4_wholeGap_39 ⟨_, rfl, h⟩
  have j35 : ∀ (σ : Hp), J_X4_wholeGap_35 Q σ → G g p l e R s m args below meth c (QI Q) 1 35 [] [.ref (gad g 4 0)] σ := by
    intro σ h
    unfold J_X4_wholeGap_35 at h
    refine r_iconst C dX4_wholeGap_35 ic_0 ?_
    exact j36 _ _ h
  unfold S_X4_wholeGap at h
  show G g p l e R s m args below meth c (QI Q) 1 0 [(0, .ref (gad g 4 0))] [] σ
  refine r_aload_n C dX4_wholeGap_0 rfl 0 rfl ?_
  refine r_aload_n C dX4_wholeGap_1 rfl 0 rfl ?_
  refine gf_4_42 C dX4_wholeGap_2 (cn_4 (by decide)) ?_
  refine r_bipush C dX4_wholeGap_5 bi_8 ?_
  refine r_icmp_lt (tgt := 35) C dX4_wholeGap_7 rfl (fun q => ?_) (fun q => ?_)
  · have h := h.1 q
    refine r_sub [] rfl ?_
    exact j35 _ h
  · have h := h.2 q
    refine r_aload_n C dX4_wholeGap_10 rfl 0 rfl ?_
    refine gf_4_42 C dX4_wholeGap_11 (cn_4 (by decide)) ?_
    refine r_sipush C dX4_wholeGap_14 si_256 ?_
    refine r_icmp_gt (tgt := 35) C dX4_wholeGap_17 rfl (fun q => ?_) (fun q => ?_)
    · have h := h.1 q
      refine r_sub [] rfl ?_
      exact j35 _ h
    · have h := h.2 q
      refine r_aload_n C dX4_wholeGap_20 rfl 0 rfl ?_
      refine gf_4_42 C dX4_wholeGap_21 (cn_4 (by decide)) ?_
      refine r_callSi [.ref (gad g 4 0)] C dX4_wholeGap_24 w_4_203 (ok_J6_bitCount_0f7a4 l g _ _ _ h) (Nat.le_of_ble_eq_true rfl) rfl rfl (Nat.le_of_ble_eq_true rfl) (fun r4 σ3 h => ?_)
      refine r_iconst C dX4_wholeGap_27 ic_1 ?_
      refine r_icmp_ne (tgt := 35) C dX4_wholeGap_28 rfl (fun q => ?_) (fun q => ?_)
      · have h := h.1 q
        refine r_sub [] rfl ?_
        exact j35 _ h
      · have h := h.2 q
        refine r_iconst C dX4_wholeGap_31 ic_1 ?_
        refine r_goto (tgt := 36) C dX4_wholeGap_32 rfl ?_
        refine r_sub [] rfl ?_
        exact j36 _ _ h
def J_X4_wholeWithin_22 (Q : Int32 → Hp → Prop) (z0 : Int32) (σ : Hp) : Prop :=
  S_X4_checkedWhole z0 σ (fun r2 σ1 => Q r2 σ1)
def J_X4_wholeWithin_21 (Q : Int32 → Hp → Prop) (σ : Hp) : Prop :=
  J_X4_wholeWithin_22 Q 0 σ
def S_X4_wholeWithin (x1 : Int32) (x2 : Int32) (σ : Hp) (Q : Int32 → Hp → Prop) : Prop :=
  (((gI σ 4 0 8) < x1 → J_X4_wholeWithin_21 Q σ) ∧ (¬ (gI σ 4 0 8) < x1 → ((x2 < (gI σ 4 0 8) → J_X4_wholeWithin_21 Q σ) ∧ (¬ x2 < (gI σ 4 0 8) → J_X4_wholeWithin_22 Q 1 σ))))
set_option maxHeartbeats 2000000 in
set_option maxRecDepth 20000 in
theorem ok_X4_wholeWithin (l : Launch) (g : Gm) (x1 : Int32) (x2 : Int32) (σ : Hp) (Q : Int32 → Hp → Prop) (h : S_X4_wholeWithin x1 x2 σ Q) : Ct l g yX4_wholeWithin cX4_wholeWithin 3 (some .int) 4 [.ref (gad g 4 0), .int x1, .int x2] σ (QI Q) := by
  refine Ct.of (by decide +kernel) (Nat.le_of_ble_eq_true rfl) ?_
  intro p e R s m args below meth c C
  have C : Cx g p R s m args meth c cX4_wholeWithin 3 RX4 (some .int) 4 := C
  have j22 : ∀ (z0 : Int32) (σ : Hp), J_X4_wholeWithin_22 Q z0 σ → G g p l e R s m args below meth c (QI Q) 3 22 [] [.int z0, .ref (gad g 4 0)] σ := by
    intro z0 σ h
    unfold J_X4_wholeWithin_22 at h
    refine r_callVi [] C dX4_wholeWithin_22 w_4_199 (ok_X4_checkedWhole l g _ _ _ h) (Nat.le_of_ble_eq_true rfl) rfl rfl ak_4 (cn_4 (by decide)) rfl rfl (Nat.le_of_ble_eq_true rfl) (fun r2 σ1 h => ?_)
    exact r_ireturn C dX4_wholeWithin_25 ⟨_, rfl, h⟩
  have j21 : ∀ (σ : Hp), J_X4_wholeWithin_21 Q σ → G g p l e R s m args below meth c (QI Q) 3 21 [] [.ref (gad g 4 0)] σ := by
    intro σ h
    unfold J_X4_wholeWithin_21 at h
    refine r_iconst C dX4_wholeWithin_21 ic_0 ?_
    exact j22 _ _ h
  unfold S_X4_wholeWithin at h
  show G g p l e R s m args below meth c (QI Q) 3 0 [(0, .ref (gad g 4 0)), (1, .int x1), (2, .int x2)] [] σ
  refine r_aload_n C dX4_wholeWithin_0 rfl 0 rfl ?_
  refine r_aload_n C dX4_wholeWithin_1 rfl 0 rfl ?_
  refine gf_4_42 C dX4_wholeWithin_2 (cn_4 (by decide)) ?_
  refine r_iload_n C dX4_wholeWithin_5 rfl 1 rfl ?_
  refine r_icmp_lt (tgt := 21) C dX4_wholeWithin_6 rfl (fun q => ?_) (fun q => ?_)
  · have h := h.1 q
    refine r_sub [] rfl ?_
    exact j21 _ h
  · have h := h.2 q
    refine r_aload_n C dX4_wholeWithin_9 rfl 0 rfl ?_
    refine gf_4_42 C dX4_wholeWithin_10 (cn_4 (by decide)) ?_
    refine r_iload_n C dX4_wholeWithin_13 rfl 2 rfl ?_
    refine r_icmp_gt (tgt := 21) C dX4_wholeWithin_14 rfl (fun q => ?_) (fun q => ?_)
    · have h := h.1 q
      refine r_sub [] rfl ?_
      exact j21 _ h
    · have h := h.2 q
      refine r_iconst C dX4_wholeWithin_17 ic_1 ?_
      refine r_goto (tgt := 22) C dX4_wholeWithin_18 rfl ?_
      refine r_sub [] rfl ?_
      exact j22 _ _ h
def J_X4_readReceivers_85 (Q : Hp → Prop) (kb : Int32 → Hp → Prop) (K126 : Hp → Prop) (K92 : Hp → Prop) (y1 : Int32) (y2 : Int32) (y4 : Int32) (σ : Hp) : Prop :=
  (((gI σ 4 0 10) = 0 → gR σ 1 < 2 ∧ S_X7_earOf y1 y2 σ (fun r7 σ6 => vp_in r7 24 ∧ ∀ σ8, σ8 = sI σ6 29 (gR σ 1) (ix r7) y4 → gR σ8 1 < 2 ∧ vp_in y1 8 ∧ ∀ σ10, σ10 = sI σ8 28 (gR σ8 1) (ix y1) (y2 + 1) → kb (y2 + 1) σ10)) ∧ (¬ (gI σ 4 0 10) = 0 → K92 σ))
def J_X4_readReceivers_75 (Q : Hp → Prop) (kb : Int32 → Hp → Prop) (K126 : Hp → Prop) (K92 : Hp → Prop) (y1 : Int32) (y2 : Int32) (y3 : Int32) (y4 : Int32) (σ : Hp) : Prop :=
  ∀ σ12, σ12 = sI σ 4 0 10 3 → ∀ σ13, σ13 = sI σ12 4 0 11 y3 → J_X4_readReceivers_85 Q kb K126 K92 y1 y2 y4 σ13
def J_X4_readReceivers_29 (Q : Hp → Prop) (kb : Int32 → Hp → Prop) (K126 : Hp → Prop) (K92 : Hp → Prop) (y1 : Int32) (y2 : Int32) (σ : Hp) : Prop :=
  S_X4_knownEnd σ (fun r4 σ3 => ((¬ (gI σ3 4 0 10) = 0 → J_X4_readReceivers_85 Q kb K126 K92 y1 y2 r4 σ3) ∧ ((gI σ3 4 0 10) = 0 → gR σ3 1 < 2 ∧ vp_in y1 8 ∧ ((r4 = (gI σ3 25 (gR σ3 1) (ix y1)) → J_X4_readReceivers_75 Q kb K126 K92 y1 y2 (gI σ 4 0 4) r4 σ3) ∧ (¬ r4 = (gI σ3 25 (gR σ3 1) (ix y1)) → S_X2_earAt (gR σ3 1) y1 r4 σ3 (fun r15 σ14 => ((r15 = (-1) → J_X4_readReceivers_85 Q kb K126 K92 y1 y2 r4 σ14) ∧ (¬ r15 = (-1) → J_X4_readReceivers_75 Q kb K126 K92 y1 y2 (gI σ 4 0 4) r4 σ14))))))))
def L_X4_readReceivers_12 (Q : Hp → Prop) (K126 : Hp → Prop) (K92 : Hp → Prop) (y1 : Int32) : Nat → Int32 → Hp → Prop
  | 0, _, _ => False
  | n + 1, y2, σ =>
  (((3 : Int32) ≤ y2 → K126 σ) ∧ (¬ (3 : Int32) ≤ y2 → ((y2 = 0 → J_X4_readReceivers_29 Q (L_X4_readReceivers_12 Q K126 K92 y1 n) K126 K92 y1 y2 σ) ∧ (¬ y2 = 0 → ((¬ (gI σ 4 0 6) = 1 → K126 σ) ∧ ((gI σ 4 0 6) = 1 → J_X4_readReceivers_29 Q (L_X4_readReceivers_12 Q K126 K92 y1 n) K126 K92 y1 y2 σ))))))
def S_X4_readReceivers (x1 : Int32) (σ : Hp) (Q : Hp → Prop) : Prop :=
  gR σ 1 < 2 ∧ vp_in x1 8 ∧ ∀ σ2, σ2 = sI σ 28 (gR σ 1) (ix x1) 0 → (∃ n16, L_X4_readReceivers_12 Q (fun σ17 => Q σ17) (fun σ18 => Q σ18) x1 n16 0 σ2)
set_option maxHeartbeats 2000000 in
set_option maxRecDepth 20000 in
theorem ok_X4_readReceivers (l : Launch) (g : Gm) (x1 : Int32) (σ : Hp) (Q : Hp → Prop) (h : S_X4_readReceivers x1 σ Q) : Ct l g yX4_readReceivers cX4_readReceivers 5 none 4 [.ref (gad g 4 0), .int x1] σ (QV Q) := by
  refine Ct.of (by decide +kernel) (Nat.le_of_ble_eq_true rfl) ?_
  intro p e R s m args below meth c C
  have C : Cx g p R s m args meth c cX4_readReceivers 5 RX4 none 4 := C
  have j85 : ∀ (kb : Int32 → Hp → Prop) (K126 : Hp → Prop) (K92 : Hp → Prop) (y1 : Int32) (y2 : Int32) (y4 : Int32) (hkb : ∀ (v2 : Int32) (σ : Hp), kb v2 σ → G g p l e R s m args below meth c (QV Q) 5 12 [(0, .ref (gad g 4 0)), (1, .int y1), (2, .int v2)] [] σ) (hK126 : ∀ (σ : Hp), K126 σ → G g p l e R s m args below meth c (QV Q) 5 126 [] [] σ) (hK92 : ∀ (σ : Hp), K92 σ → G g p l e R s m args below meth c (QV Q) 5 92 [] [] σ) (σ : Hp), J_X4_readReceivers_85 Q kb K126 K92 y1 y2 y4 σ → G g p l e R s m args below meth c (QV Q) 5 85 [(0, .ref (gad g 4 0)), (1, .int y1), (2, .int y2), (4, .int y4)] [] σ := by
    intro kb K126 K92 y1 y2 y4 hkb hK126 hK92 σ h
    unfold J_X4_readReceivers_85 at h
    refine r_aload_n C dX4_readReceivers_85 rfl 0 rfl ?_
    refine gf_4_49 C dX4_readReceivers_86 (cn_4 (by decide)) ?_
    refine r_if_eq (tgt := 93) C dX4_readReceivers_89 rfl (fun q => ?_) (fun q => ?_)
    · have h := h.1 q
      refine r_aload_n C dX4_readReceivers_93 rfl 0 rfl ?_
      refine gf_4_22 C dX4_readReceivers_94 (cn_4 (by decide)) ?_
      obtain ⟨hr5, h⟩ := h
      refine gf_4_182 C dX4_readReceivers_97 (cn_2 hr5) ?_
      refine r_iload_n C dX4_readReceivers_100 rfl 1 rfl ?_
      refine r_iload_n C dX4_readReceivers_101 rfl 2 rfl ?_
      refine r_callNi [.ref (gad g 29 _)] C dX4_readReceivers_102 w_4_185 (ok_X7_earOf l g _ _ _ _ h) (Nat.le_of_ble_eq_true rfl) rfl rfl (Nat.le_of_ble_eq_true rfl) (fun r7 σ6 h => ?_)
      refine r_iload C dX4_readReceivers_105 3 rfl ?_
      obtain ⟨h0, h⟩ := h
      refine r_iastore C dX4_readReceivers_107 ak_29 (cn_29 hr5) al_29 h0 ?_
      have h := h _ rfl
      refine r_aload_n C dX4_readReceivers_108 rfl 0 rfl ?_
      refine gf_4_22 C dX4_readReceivers_109 (cn_4 (by decide)) ?_
      obtain ⟨hr9, h⟩ := h
      refine gf_4_176 C dX4_readReceivers_112 (cn_2 hr9) ?_
      refine r_iload_n C dX4_readReceivers_115 rfl 1 rfl ?_
      refine r_iload_n C dX4_readReceivers_116 rfl 2 rfl ?_
      refine r_iconst C dX4_readReceivers_117 ic_1 ?_
      refine r_iadd C dX4_readReceivers_118 ?_
      obtain ⟨h0, h⟩ := h
      refine r_iastore C dX4_readReceivers_119 ak_28 (cn_28 hr9) al_28 h0 ?_
      have h := h _ rfl
      refine r_iinc (v := y2 + 1) C dX4_readReceivers_120 2 rfl rfl (Nat.le_of_ble_eq_true rfl) rfl ?_
      refine r_goto (tgt := 12) C dX4_readReceivers_123 rfl ?_
      refine r_sub [1, 2, 0] rfl ?_
      exact hkb _ _ h
    · have h := h.2 q
      refine r_sub [] rfl ?_
      exact hK92 _ h
  have j75 : ∀ (kb : Int32 → Hp → Prop) (K126 : Hp → Prop) (K92 : Hp → Prop) (y1 : Int32) (y2 : Int32) (y3 : Int32) (y4 : Int32) (hkb : ∀ (v2 : Int32) (σ : Hp), kb v2 σ → G g p l e R s m args below meth c (QV Q) 5 12 [(0, .ref (gad g 4 0)), (1, .int y1), (2, .int v2)] [] σ) (hK126 : ∀ (σ : Hp), K126 σ → G g p l e R s m args below meth c (QV Q) 5 126 [] [] σ) (hK92 : ∀ (σ : Hp), K92 σ → G g p l e R s m args below meth c (QV Q) 5 92 [] [] σ) (σ : Hp), J_X4_readReceivers_75 Q kb K126 K92 y1 y2 y3 y4 σ → G g p l e R s m args below meth c (QV Q) 5 75 [(0, .ref (gad g 4 0)), (1, .int y1), (2, .int y2), (3, .int y3), (4, .int y4)] [] σ := by
    intro kb K126 K92 y1 y2 y3 y4 hkb hK126 hK92 σ h
    unfold J_X4_readReceivers_75 at h
    refine r_aload_n C dX4_readReceivers_75 rfl 0 rfl ?_
    refine r_iconst C dX4_readReceivers_76 ic_3 ?_
    refine pf_4_49 C dX4_readReceivers_77 (cn_4 (by decide)) ?_
    have h := h _ rfl
    refine r_aload_n C dX4_readReceivers_80 rfl 0 rfl ?_
    refine r_iload_n C dX4_readReceivers_81 rfl 3 rfl ?_
    refine pf_4_52 C dX4_readReceivers_82 (cn_4 (by decide)) ?_
    have h := h _ rfl
    refine r_sub [0, 1, 2, 4] rfl ?_
    exact j85 _ _ _ _ _ _ hkb hK126 hK92 _ h
  have j29 : ∀ (kb : Int32 → Hp → Prop) (K126 : Hp → Prop) (K92 : Hp → Prop) (y1 : Int32) (y2 : Int32) (hkb : ∀ (v2 : Int32) (σ : Hp), kb v2 σ → G g p l e R s m args below meth c (QV Q) 5 12 [(0, .ref (gad g 4 0)), (1, .int y1), (2, .int v2)] [] σ) (hK126 : ∀ (σ : Hp), K126 σ → G g p l e R s m args below meth c (QV Q) 5 126 [] [] σ) (hK92 : ∀ (σ : Hp), K92 σ → G g p l e R s m args below meth c (QV Q) 5 92 [] [] σ) (σ : Hp), J_X4_readReceivers_29 Q kb K126 K92 y1 y2 σ → G g p l e R s m args below meth c (QV Q) 5 29 [(0, .ref (gad g 4 0)), (1, .int y1), (2, .int y2)] [] σ := by
    intro kb K126 K92 y1 y2 hkb hK126 hK92 σ h
    unfold J_X4_readReceivers_29 at h
    refine r_aload_n C dX4_readReceivers_29 rfl 0 rfl ?_
    refine gf_4_29 C dX4_readReceivers_30 (cn_4 (by decide)) ?_
    refine r_istore_n C dX4_readReceivers_33 rfl (Nat.le_of_ble_eq_true rfl) rfl ?_
    refine r_aload_n C dX4_readReceivers_34 rfl 1 rfl ?_
    refine r_callVi [] C dX4_readReceivers_35 w_4_148 (ok_X4_knownEnd l g _ _ h) (Nat.le_of_ble_eq_true rfl) rfl rfl ak_4 (cn_4 (by decide)) rfl rfl (Nat.le_of_ble_eq_true rfl) (fun r4 σ3 h => ?_)
    refine r_istore C dX4_readReceivers_38 (Nat.le_of_ble_eq_true rfl) rfl ?_
    refine r_aload_n C dX4_readReceivers_40 rfl 2 rfl ?_
    refine gf_4_49 C dX4_readReceivers_41 (cn_4 (by decide)) ?_
    refine r_if_ne (tgt := 85) C dX4_readReceivers_44 rfl (fun q => ?_) (fun q => ?_)
    · have h := h.1 q
      refine r_sub [2, 3, 4, 0] rfl ?_
      exact j85 _ _ _ _ _ _ hkb hK126 hK92 _ h
    · have h := h.2 q
      refine r_iload C dX4_readReceivers_47 0 rfl ?_
      refine r_aload_n C dX4_readReceivers_49 rfl 2 rfl ?_
      refine gf_4_22 C dX4_readReceivers_50 (cn_4 (by decide)) ?_
      obtain ⟨hr11, h⟩ := h
      refine gf_4_164 C dX4_readReceivers_53 (cn_2 hr11) ?_
      refine r_iload_n C dX4_readReceivers_56 rfl 3 rfl ?_
      obtain ⟨h0, h⟩ := h
      refine r_iaload C dX4_readReceivers_57 ak_25 (cn_25 hr11) al_25 h0 ?_
      refine r_icmp_eq (tgt := 75) C dX4_readReceivers_58 rfl (fun q => ?_) (fun q => ?_)
      · have h := h.1 q
        refine r_sub [2, 3, 4, 1, 0] rfl ?_
        exact j75 _ _ _ _ _ _ _ hkb hK126 hK92 _ h
      · have h := h.2 q
        refine r_aload_n C dX4_readReceivers_61 rfl 2 rfl ?_
        refine gf_4_22 C dX4_readReceivers_62 (cn_4 (by decide)) ?_
        refine r_iload_n C dX4_readReceivers_65 rfl 3 rfl ?_
        refine r_iload C dX4_readReceivers_66 0 rfl ?_
        refine r_callVi [] C dX4_readReceivers_68 w_4_179 (ok_X2_earAt l g _ hr11 _ _ _ _ h) (Nat.le_of_ble_eq_true rfl) rfl rfl ak_2 (cn_2 hr11) rfl rfl (Nat.le_of_ble_eq_true rfl) (fun r15 σ14 h => ?_)
        refine r_iconst C dX4_readReceivers_71 ic_m1 ?_
        refine r_icmp_eq (tgt := 85) C dX4_readReceivers_72 rfl (fun q => ?_) (fun q => ?_)
        · have h := h.1 q
          refine r_sub [2, 3, 4, 0] rfl ?_
          exact j85 _ _ _ _ _ _ hkb hK126 hK92 _ h
        · have h := h.2 q
          refine r_sub [2, 3, 4, 1, 0] rfl ?_
          exact j75 _ _ _ _ _ _ _ hkb hK126 hK92 _ h
  have l12 : ∀ (K126 : Hp → Prop) (K92 : Hp → Prop) (y1 : Int32) (hK126 : ∀ (σ : Hp), K126 σ → G g p l e R s m args below meth c (QV Q) 5 126 [] [] σ) (hK92 : ∀ (σ : Hp), K92 σ → G g p l e R s m args below meth c (QV Q) 5 92 [] [] σ) (n : Nat) (y2 : Int32) (σ : Hp), L_X4_readReceivers_12 Q K126 K92 y1 n y2 σ → G g p l e R s m args below meth c (QV Q) 5 12 [(0, .ref (gad g 4 0)), (1, .int y1), (2, .int y2)] [] σ := by
    intro K126 K92 y1 hK126 hK92 n
    induction n with
    | zero => intro y2 σ h; exact False.elim h
    | succ n ih =>
      intro y2 σ h
      unfold L_X4_readReceivers_12 at h
      refine r_iload_n C dX4_readReceivers_12 rfl 2 rfl ?_
      refine r_iconst C dX4_readReceivers_13 ic_3 ?_
      refine r_icmp_ge (tgt := 126) C dX4_readReceivers_14 rfl (fun q => ?_) (fun q => ?_)
      · have h := h.1 q
        refine r_sub [] rfl ?_
        exact hK126 _ h
      · have h := h.2 q
        refine r_iload_n C dX4_readReceivers_17 rfl 2 rfl ?_
        refine r_if_eq (tgt := 29) C dX4_readReceivers_18 rfl (fun q => ?_) (fun q => ?_)
        · have h := h.1 q
          exact j29 _ _ _ _ _ ih hK126 hK92 _ h
        · have h := h.2 q
          refine r_aload_n C dX4_readReceivers_21 rfl 0 rfl ?_
          refine gf_4_35 C dX4_readReceivers_22 (cn_4 (by decide)) ?_
          refine r_iconst C dX4_readReceivers_25 ic_1 ?_
          refine r_icmp_ne (tgt := 126) C dX4_readReceivers_26 rfl (fun q => ?_) (fun q => ?_)
          · have h := h.1 q
            refine r_sub [] rfl ?_
            exact hK126 _ h
          · have h := h.2 q
            exact j29 _ _ _ _ _ ih hK126 hK92 _ h
  unfold S_X4_readReceivers at h
  show G g p l e R s m args below meth c (QV Q) 5 0 [(0, .ref (gad g 4 0)), (1, .int x1)] [] σ
  refine r_aload_n C dX4_readReceivers_0 rfl 0 rfl ?_
  refine gf_4_22 C dX4_readReceivers_1 (cn_4 (by decide)) ?_
  obtain ⟨hr1, h⟩ := h
  refine gf_4_176 C dX4_readReceivers_4 (cn_2 hr1) ?_
  refine r_iload_n C dX4_readReceivers_7 rfl 1 rfl ?_
  refine r_iconst C dX4_readReceivers_8 ic_0 ?_
  obtain ⟨h0, h⟩ := h
  refine r_iastore C dX4_readReceivers_9 ak_28 (cn_28 hr1) al_28 h0 ?_
  have h := h _ rfl
  refine r_iconst C dX4_readReceivers_10 ic_0 ?_
  refine r_istore_n C dX4_readReceivers_11 rfl (Nat.le_of_ble_eq_true rfl) rfl ?_
  refine r_sub [1, 2, 0] rfl ?_
  obtain ⟨n16, h⟩ := h
  refine l12 _ _ _ (fun σ17 h => ?_) (fun σ18 h => ?_) n16 _ _ h
  · exact r_return C dX4_readReceivers_126 ⟨rfl, h⟩
  · exact r_return C dX4_readReceivers_92 ⟨rfl, h⟩
def S_X4_readLink (σ : Hp) (Q : Hp → Prop) : Prop :=
  gR σ 1 < 2 ∧ S_X4_beginLine (gI σ 2 (gR σ 1) 6) 8 σ (fun σ2 => S_X4_pass 7811896435030368288 σ2 (fun σ3 => S_X4_newName σ3 (fun r5 σ4 => S_X4_pass 7382085253694758944 σ4 (fun σ6 => S_X4_knownEnd σ6 (fun r8 σ7 => S_X4_pass 7449358541927751712 σ7 (fun σ9 => S_X4_wholeGap σ9 (fun r11 σ10 => S_X4_pass 7810770519357661216 σ10 (fun σ12 => S_X4_wholeWithin 1 (if r11 < 40 then r11 else 40) σ12 (fun r14 σ13 => S_X4_pass 8389959953164541984 σ13 (fun σ15 => ((¬ (gI σ15 4 0 10) = 0 → Q σ15) ∧ ((gI σ15 4 0 10) = 0 → gR σ15 1 < 2 ∧ vp_in (gI σ15 2 (gR σ15 1) 6) 8 ∧ ∀ σ17, σ17 = sL σ15 24 (gR σ15 1) (ix (gI σ15 2 (gR σ15 1) 6)) r5 → gR σ17 1 < 2 ∧ vp_in (gI σ15 2 (gR σ15 1) 6) 8 ∧ ∀ σ19, σ19 = sI σ17 25 (gR σ17 1) (ix (gI σ15 2 (gR σ15 1) 6)) r8 → gR σ19 1 < 2 ∧ vp_in (gI σ15 2 (gR σ15 1) 6) 8 ∧ ∀ σ21, σ21 = sI σ19 26 (gR σ19 1) (ix (gI σ15 2 (gR σ15 1) 6)) r11 → gR σ21 1 < 2 ∧ vp_in (gI σ15 2 (gR σ15 1) 6) 8 ∧ ∀ σ23, σ23 = sI σ21 27 (gR σ21 1) (ix (gI σ15 2 (gR σ15 1) 6)) r14 → S_X4_readReceivers (gI σ15 2 (gR σ15 1) 6) σ23 (fun σ24 => gR σ24 1 < 2 ∧ ∀ σ26, σ26 = sI σ24 2 (gR σ24 1) 6 ((gI σ24 2 (gR σ24 1) 6) + 1) → Q σ26)))))))))))))
set_option maxHeartbeats 2000000 in
set_option maxRecDepth 20000 in
theorem ok_X4_readLink (l : Launch) (g : Gm) (σ : Hp) (Q : Hp → Prop) (h : S_X4_readLink σ Q) : Ct l g yX4_readLink cX4_readLink 7 none 5 [.ref (gad g 4 0)] σ (QV Q) := by
  refine Ct.of (by decide +kernel) (Nat.le_of_ble_eq_true rfl) ?_
  intro p e R s m args below meth c C
  have C : Cx g p R s m args meth c cX4_readLink 7 RX4 none 5 := C
  unfold S_X4_readLink at h
  show G g p l e R s m args below meth c (QV Q) 7 0 [(0, .ref (gad g 4 0))] [] σ
  refine r_aload_n C dX4_readLink_0 rfl 0 rfl ?_
  refine r_aload_n C dX4_readLink_1 rfl 0 rfl ?_
  refine gf_4_22 C dX4_readLink_2 (cn_4 (by decide)) ?_
  obtain ⟨hr1, h⟩ := h
  refine gf_4_90 C dX4_readLink_5 (cn_2 hr1) ?_
  refine r_bipush C dX4_readLink_8 bi_8 ?_
  refine r_callVv [] C dX4_readLink_10 w_4_128 (ok_X4_beginLine l g _ _ _ _ h) (Nat.le_of_ble_eq_true rfl) rfl rfl ak_4 (cn_4 (by decide)) rfl rfl (Nat.le_of_ble_eq_true rfl) (fun σ2 h => ?_)
  refine r_aload_n C dX4_readLink_13 rfl 0 rfl ?_
  refine r_ldc2 (v := 7811896435030368288) C dX4_readLink_14 u3_20 ?_
  refine r_callVv [] C dX4_readLink_17 w_4_93 (ok_X4_pass l g _ _ _ h) (Nat.le_of_ble_eq_true rfl) rfl rfl ak_4 (cn_4 (by decide)) rfl rfl (Nat.le_of_ble_eq_true rfl) (fun σ3 h => ?_)
  refine r_aload_n C dX4_readLink_20 rfl 0 rfl ?_
  refine r_callVl [] C dX4_readLink_21 w_4_132 (ok_X4_newName l g _ _ h) (Nat.le_of_ble_eq_true rfl) rfl rfl ak_4 (cn_4 (by decide)) rfl rfl (Nat.le_of_ble_eq_true rfl) (fun r5 σ4 h => ?_)
  refine r_lstore_n C dX4_readLink_24 rfl (Nat.le_of_ble_eq_true rfl) rfl ?_
  refine r_aload_n C dX4_readLink_25 rfl 1 rfl ?_
  refine r_ldc2 (v := 7382085253694758944) C dX4_readLink_26 u3_34 ?_
  refine r_callVv [] C dX4_readLink_29 w_4_93 (ok_X4_pass l g _ _ _ h) (Nat.le_of_ble_eq_true rfl) rfl rfl ak_4 (cn_4 (by decide)) rfl rfl (Nat.le_of_ble_eq_true rfl) (fun σ6 h => ?_)
  refine r_aload_n C dX4_readLink_32 rfl 1 rfl ?_
  refine r_callVi [] C dX4_readLink_33 w_4_148 (ok_X4_knownEnd l g _ _ h) (Nat.le_of_ble_eq_true rfl) rfl rfl ak_4 (cn_4 (by decide)) rfl rfl (Nat.le_of_ble_eq_true rfl) (fun r8 σ7 h => ?_)
  refine r_istore_n C dX4_readLink_36 rfl (Nat.le_of_ble_eq_true rfl) rfl ?_
  refine r_aload_n C dX4_readLink_37 rfl 2 rfl ?_
  refine r_ldc2 (v := 7449358541927751712) C dX4_readLink_38 u3_39 ?_
  refine r_callVv [] C dX4_readLink_41 w_4_93 (ok_X4_pass l g _ _ _ h) (Nat.le_of_ble_eq_true rfl) rfl rfl ak_4 (cn_4 (by decide)) rfl rfl (Nat.le_of_ble_eq_true rfl) (fun σ9 h => ?_)
  refine r_aload_n C dX4_readLink_44 rfl 2 rfl ?_
  refine r_callVi [] C dX4_readLink_45 w_4_154 (ok_X4_wholeGap l g _ _ h) (Nat.le_of_ble_eq_true rfl) rfl rfl ak_4 (cn_4 (by decide)) rfl rfl (Nat.le_of_ble_eq_true rfl) (fun r11 σ10 h => ?_)
  refine r_istore C dX4_readLink_48 (Nat.le_of_ble_eq_true rfl) rfl ?_
  refine r_aload_n C dX4_readLink_50 rfl 3 rfl ?_
  refine r_ldc2 (v := 7810770519357661216) C dX4_readLink_51 u3_50 ?_
  refine r_callVv [] C dX4_readLink_54 w_4_93 (ok_X4_pass l g _ _ _ h) (Nat.le_of_ble_eq_true rfl) rfl rfl ak_4 (cn_4 (by decide)) rfl rfl (Nat.le_of_ble_eq_true rfl) (fun σ12 h => ?_)
  refine r_aload_n C dX4_readLink_57 rfl 3 rfl ?_
  refine r_iconst C dX4_readLink_58 ic_1 ?_
  refine r_bipush C dX4_readLink_59 bi_40 ?_
  refine r_iload C dX4_readLink_61 0 rfl ?_
  refine r_min C dX4_readLink_63 u2_187 u2_188 u1_10 u2_189 (by decide) (Nat.le_of_ble_eq_true rfl) ?_
  refine r_callVi [] C dX4_readLink_66 w_4_99 (ok_X4_wholeWithin l g _ _ _ _ h) (Nat.le_of_ble_eq_true rfl) rfl rfl ak_4 (cn_4 (by decide)) rfl rfl (Nat.le_of_ble_eq_true rfl) (fun r14 σ13 h => ?_)
  refine r_istore C dX4_readLink_69 (Nat.le_of_ble_eq_true rfl) rfl ?_
  refine r_aload_n C dX4_readLink_71 rfl 4 rfl ?_
  refine r_ldc2 (v := 8389959953164541984) C dX4_readLink_72 u3_51 ?_
  refine r_callVv [] C dX4_readLink_75 w_4_93 (ok_X4_pass l g _ _ _ h) (Nat.le_of_ble_eq_true rfl) rfl rfl ak_4 (cn_4 (by decide)) rfl rfl (Nat.le_of_ble_eq_true rfl) (fun σ15 h => ?_)
  refine r_aload_n C dX4_readLink_78 rfl 4 rfl ?_
  refine gf_4_49 C dX4_readLink_79 (cn_4 (by decide)) ?_
  refine r_if_ne (tgt := 159) C dX4_readLink_82 rfl (fun q => ?_) (fun q => ?_)
  · have h := h.1 q
    exact r_return C dX4_readLink_159 ⟨rfl, h⟩
  · have h := h.2 q
    refine r_aload_n C dX4_readLink_85 rfl 4 rfl ?_
    refine gf_4_22 C dX4_readLink_86 (cn_4 (by decide)) ?_
    obtain ⟨hr16, h⟩ := h
    refine gf_4_90 C dX4_readLink_89 (cn_2 hr16) ?_
    refine r_istore C dX4_readLink_92 (Nat.le_of_ble_eq_true rfl) rfl ?_
    refine r_aload_n C dX4_readLink_94 rfl 5 rfl ?_
    refine gf_4_22 C dX4_readLink_95 (cn_4 (by decide)) ?_
    refine gf_4_161 C dX4_readLink_98 (cn_2 hr16) ?_
    refine r_iload C dX4_readLink_101 0 rfl ?_
    refine r_lload_n C dX4_readLink_103 rfl 4 rfl ?_
    obtain ⟨h0, h⟩ := h
    refine r_lastore C dX4_readLink_104 ak_24 (cn_24 hr16) al_24 h0 ?_
    have h := h _ rfl
    refine r_aload_n C dX4_readLink_105 rfl 5 rfl ?_
    refine gf_4_22 C dX4_readLink_106 (cn_4 (by decide)) ?_
    obtain ⟨hr18, h⟩ := h
    refine gf_4_164 C dX4_readLink_109 (cn_2 hr18) ?_
    refine r_iload C dX4_readLink_112 0 rfl ?_
    refine r_iload_n C dX4_readLink_114 rfl 3 rfl ?_
    obtain ⟨h0, h⟩ := h
    refine r_iastore C dX4_readLink_115 ak_25 (cn_25 hr18) al_25 h0 ?_
    have h := h _ rfl
    refine r_aload_n C dX4_readLink_116 rfl 5 rfl ?_
    refine gf_4_22 C dX4_readLink_117 (cn_4 (by decide)) ?_
    obtain ⟨hr20, h⟩ := h
    refine gf_4_167 C dX4_readLink_120 (cn_2 hr20) ?_
    refine r_iload C dX4_readLink_123 0 rfl ?_
    refine r_iload C dX4_readLink_125 2 rfl ?_
    obtain ⟨h0, h⟩ := h
    refine r_iastore C dX4_readLink_127 ak_26 (cn_26 hr20) al_26 h0 ?_
    have h := h _ rfl
    refine r_aload_n C dX4_readLink_128 rfl 5 rfl ?_
    refine gf_4_22 C dX4_readLink_129 (cn_4 (by decide)) ?_
    obtain ⟨hr22, h⟩ := h
    refine gf_4_170 C dX4_readLink_132 (cn_2 hr22) ?_
    refine r_iload C dX4_readLink_135 0 rfl ?_
    refine r_iload C dX4_readLink_137 1 rfl ?_
    obtain ⟨h0, h⟩ := h
    refine r_iastore C dX4_readLink_139 ak_27 (cn_27 hr22) al_27 h0 ?_
    have h := h _ rfl
    refine r_aload_n C dX4_readLink_140 rfl 5 rfl ?_
    refine r_iload C dX4_readLink_141 0 rfl ?_
    refine r_callVv [] C dX4_readLink_143 w_4_173 (ok_X4_readReceivers l g _ _ _ h) (Nat.le_of_ble_eq_true rfl) rfl rfl ak_4 (cn_4 (by decide)) rfl rfl (Nat.le_of_ble_eq_true rfl) (fun σ24 h => ?_)
    refine r_aload_n C dX4_readLink_146 rfl 5 rfl ?_
    refine gf_4_22 C dX4_readLink_147 (cn_4 (by decide)) ?_
    obtain ⟨hr25, h⟩ := h
    refine r_dup C dX4_readLink_150 rfl ?_
    refine gf_4_90 C dX4_readLink_151 (cn_2 hr25) ?_
    refine r_iconst C dX4_readLink_154 ic_1 ?_
    refine r_iadd C dX4_readLink_155 ?_
    refine pf_4_90 C dX4_readLink_156 (cn_2 hr25) ?_
    have h := h _ rfl
    exact r_return C dX4_readLink_159 ⟨rfl, h⟩
def S_X4_readEnd (σ : Hp) (Q : Hp → Prop) : Prop :=
  gR σ 1 < 2 ∧ S_X4_beginLine (gI σ 2 (gR σ 1) 5) 6 σ (fun σ2 => S_X4_pass 7308889334409601056 σ2 (fun σ3 => S_X4_newName σ3 (fun r5 σ4 => S_X4_pass 7022273041327464480 σ4 (fun σ6 => gR σ6 1 < 2 ∧ S_X4_wholeWithin 0 ((gI σ6 2 (gR σ6 1) 0) - 1) σ6 (fun r9 σ8 => ((¬ (gI σ8 4 0 10) = 0 → Q σ8) ∧ ((gI σ8 4 0 10) = 0 → gR σ8 1 < 2 ∧ vp_in (gI σ8 2 (gR σ8 1) 5) 6 ∧ ∀ σ11, σ11 = sL σ8 23 (gR σ8 1) (ix (gI σ8 2 (gR σ8 1) 5)) r5 → gR σ11 1 < 2 ∧ vp_in (gI σ11 2 (gR σ11 1) 5) 6 ∧ ∀ σ13, σ13 = sI σ11 22 (gR σ11 1) (ix (gI σ11 2 (gR σ11 1) 5)) r9 → gR σ13 1 < 2 ∧ ∀ σ15, σ15 = sI σ13 2 (gR σ13 1) 5 ((gI σ13 2 (gR σ13 1) 5) + 1) → Q σ15)))))))
set_option maxHeartbeats 2000000 in
set_option maxRecDepth 20000 in
theorem ok_X4_readEnd (l : Launch) (g : Gm) (σ : Hp) (Q : Hp → Prop) (h : S_X4_readEnd σ Q) : Ct l g yX4_readEnd cX4_readEnd 4 none 5 [.ref (gad g 4 0)] σ (QV Q) := by
  refine Ct.of (by decide +kernel) (Nat.le_of_ble_eq_true rfl) ?_
  intro p e R s m args below meth c C
  have C : Cx g p R s m args meth c cX4_readEnd 4 RX4 none 5 := C
  unfold S_X4_readEnd at h
  show G g p l e R s m args below meth c (QV Q) 4 0 [(0, .ref (gad g 4 0))] [] σ
  refine r_aload_n C dX4_readEnd_0 rfl 0 rfl ?_
  refine r_aload_n C dX4_readEnd_1 rfl 0 rfl ?_
  refine gf_4_22 C dX4_readEnd_2 (cn_4 (by decide)) ?_
  obtain ⟨hr1, h⟩ := h
  refine gf_4_125 C dX4_readEnd_5 (cn_2 hr1) ?_
  refine r_bipush C dX4_readEnd_8 bi_6 ?_
  refine r_callVv [] C dX4_readEnd_10 w_4_128 (ok_X4_beginLine l g _ _ _ _ h) (Nat.le_of_ble_eq_true rfl) rfl rfl ak_4 (cn_4 (by decide)) rfl rfl (Nat.le_of_ble_eq_true rfl) (fun σ2 h => ?_)
  refine r_aload_n C dX4_readEnd_13 rfl 0 rfl ?_
  refine r_ldc2 (v := 7308889334409601056) C dX4_readEnd_14 u3_3 ?_
  refine r_callVv [] C dX4_readEnd_17 w_4_93 (ok_X4_pass l g _ _ _ h) (Nat.le_of_ble_eq_true rfl) rfl rfl ak_4 (cn_4 (by decide)) rfl rfl (Nat.le_of_ble_eq_true rfl) (fun σ3 h => ?_)
  refine r_aload_n C dX4_readEnd_20 rfl 0 rfl ?_
  refine r_callVl [] C dX4_readEnd_21 w_4_132 (ok_X4_newName l g _ _ h) (Nat.le_of_ble_eq_true rfl) rfl rfl ak_4 (cn_4 (by decide)) rfl rfl (Nat.le_of_ble_eq_true rfl) (fun r5 σ4 h => ?_)
  refine r_lstore_n C dX4_readEnd_24 rfl (Nat.le_of_ble_eq_true rfl) rfl ?_
  refine r_aload_n C dX4_readEnd_25 rfl 1 rfl ?_
  refine r_ldc2 (v := 7022273041327464480) C dX4_readEnd_26 u3_29 ?_
  refine r_callVv [] C dX4_readEnd_29 w_4_93 (ok_X4_pass l g _ _ _ h) (Nat.le_of_ble_eq_true rfl) rfl rfl ak_4 (cn_4 (by decide)) rfl rfl (Nat.le_of_ble_eq_true rfl) (fun σ6 h => ?_)
  refine r_aload_n C dX4_readEnd_32 rfl 1 rfl ?_
  refine r_iconst C dX4_readEnd_33 ic_0 ?_
  refine r_aload_n C dX4_readEnd_34 rfl 1 rfl ?_
  refine gf_4_22 C dX4_readEnd_35 (cn_4 (by decide)) ?_
  obtain ⟨hr7, h⟩ := h
  refine gf_4_102 C dX4_readEnd_38 (cn_2 hr7) ?_
  refine r_iconst C dX4_readEnd_41 ic_1 ?_
  refine r_isub C dX4_readEnd_42 ?_
  refine r_callVi [] C dX4_readEnd_43 w_4_99 (ok_X4_wholeWithin l g _ _ _ _ h) (Nat.le_of_ble_eq_true rfl) rfl rfl ak_4 (cn_4 (by decide)) rfl rfl (Nat.le_of_ble_eq_true rfl) (fun r9 σ8 h => ?_)
  refine r_istore_n C dX4_readEnd_46 rfl (Nat.le_of_ble_eq_true rfl) rfl ?_
  refine r_aload_n C dX4_readEnd_47 rfl 2 rfl ?_
  refine gf_4_49 C dX4_readEnd_48 (cn_4 (by decide)) ?_
  refine r_if_ne (tgt := 99) C dX4_readEnd_51 rfl (fun q => ?_) (fun q => ?_)
  · have h := h.1 q
    exact r_return C dX4_readEnd_99 ⟨rfl, h⟩
  · have h := h.2 q
    refine r_aload_n C dX4_readEnd_54 rfl 2 rfl ?_
    refine gf_4_22 C dX4_readEnd_55 (cn_4 (by decide)) ?_
    obtain ⟨hr10, h⟩ := h
    refine gf_4_138 C dX4_readEnd_58 (cn_2 hr10) ?_
    refine r_aload_n C dX4_readEnd_61 rfl 2 rfl ?_
    refine gf_4_22 C dX4_readEnd_62 (cn_4 (by decide)) ?_
    refine gf_4_125 C dX4_readEnd_65 (cn_2 hr10) ?_
    refine r_lload_n C dX4_readEnd_68 rfl 1 rfl ?_
    obtain ⟨h0, h⟩ := h
    refine r_lastore C dX4_readEnd_69 ak_23 (cn_23 hr10) al_23 h0 ?_
    have h := h _ rfl
    refine r_aload_n C dX4_readEnd_70 rfl 2 rfl ?_
    refine gf_4_22 C dX4_readEnd_71 (cn_4 (by decide)) ?_
    obtain ⟨hr12, h⟩ := h
    refine gf_4_142 C dX4_readEnd_74 (cn_2 hr12) ?_
    refine r_aload_n C dX4_readEnd_77 rfl 2 rfl ?_
    refine gf_4_22 C dX4_readEnd_78 (cn_4 (by decide)) ?_
    refine gf_4_125 C dX4_readEnd_81 (cn_2 hr12) ?_
    refine r_iload_n C dX4_readEnd_84 rfl 0 rfl ?_
    obtain ⟨h0, h⟩ := h
    refine r_iastore C dX4_readEnd_85 ak_22 (cn_22 hr12) al_22 h0 ?_
    have h := h _ rfl
    refine r_aload_n C dX4_readEnd_86 rfl 2 rfl ?_
    refine gf_4_22 C dX4_readEnd_87 (cn_4 (by decide)) ?_
    obtain ⟨hr14, h⟩ := h
    refine r_dup C dX4_readEnd_90 rfl ?_
    refine gf_4_125 C dX4_readEnd_91 (cn_2 hr14) ?_
    refine r_iconst C dX4_readEnd_94 ic_1 ?_
    refine r_iadd C dX4_readEnd_95 ?_
    refine pf_4_125 C dX4_readEnd_96 (cn_2 hr14) ?_
    have h := h _ rfl
    exact r_return C dX4_readEnd_99 ⟨rfl, h⟩
def J_X4_readBus_12 (Q : Hp → Prop) (σ : Hp) : Prop :=
  ∀ σ1, σ1 = sI σ 4 0 9 1 → S_X4_pass 7094703369807208480 σ1 (fun σ2 => S_X4_pass 8320234785195189619 σ2 (fun σ3 => gR σ3 1 < 2 ∧ S_X4_wholeWithin 1 3 σ3 (fun r6 σ5 => ∀ σ7, σ7 = sI σ5 2 (gR σ3 1) 0 r6 → S_X4_pass 8245931957219762208 σ7 (fun σ8 => gR σ8 1 < 2 ∧ S_X4_wholeWithin 1 12 σ8 (fun r11 σ10 => ∀ σ12, σ12 = sI σ10 2 (gR σ8 1) 1 r11 → S_X4_pass 7667787883841986592 σ12 (fun σ13 => gR σ13 1 < 2 ∧ S_X4_wholeWithin 0 400 σ13 (fun r16 σ15 => ∀ σ17, σ17 = sI σ15 2 (gR σ13 1) 2 r16 → S_X4_pass 8604529940713906208 σ17 (fun σ18 => gR σ18 1 < 2 ∧ S_X4_wholeWithin 1 100 σ18 (fun r21 σ20 => ∀ σ22, σ22 = sI σ20 2 (gR σ18 1) 3 r21 → S_X4_pass 8316852699184242720 σ22 (fun σ23 => gR σ23 1 < 2 ∧ S_X4_wholeWithin 1 999 σ23 (fun r26 σ25 => ∀ σ27, σ27 = sI σ25 2 (gR σ23 1) 4 r26 → Q σ27)))))))))))
def S_X4_readBus (σ : Hp) (Q : Hp → Prop) : Prop :=
  (((gI σ 4 0 9) = 0 → J_X4_readBus_12 Q σ) ∧ (¬ (gI σ 4 0 9) = 0 → S_X4_fail 3 σ (fun σ28 => J_X4_readBus_12 Q σ28)))
set_option maxHeartbeats 2000000 in
set_option maxRecDepth 20000 in
theorem ok_X4_readBus (l : Launch) (g : Gm) (σ : Hp) (Q : Hp → Prop) (h : S_X4_readBus σ Q) : Ct l g yX4_readBus cX4_readBus 1 none 5 [.ref (gad g 4 0)] σ (QV Q) := by
  refine Ct.of (by decide +kernel) (Nat.le_of_ble_eq_true rfl) ?_
  intro p e R s m args below meth c C
  have C : Cx g p R s m args meth c cX4_readBus 1 RX4 none 5 := C
  have j12 : ∀ (σ : Hp), J_X4_readBus_12 Q σ → G g p l e R s m args below meth c (QV Q) 1 12 [(0, .ref (gad g 4 0))] [] σ := by
    intro σ h
    unfold J_X4_readBus_12 at h
    refine r_aload_n C dX4_readBus_12 rfl 0 rfl ?_
    refine r_iconst C dX4_readBus_13 ic_1 ?_
    refine pf_4_45 C dX4_readBus_14 zb1 (cn_4 (by decide)) ?_
    have h := h _ rfl
    refine r_aload_n C dX4_readBus_17 rfl 0 rfl ?_
    refine r_ldc2 (v := 7094703369807208480) C dX4_readBus_18 u2_213 ?_
    refine r_callVv [] C dX4_readBus_21 w_4_93 (ok_X4_pass l g _ _ _ h) (Nat.le_of_ble_eq_true rfl) rfl rfl ak_4 (cn_4 (by decide)) rfl rfl (Nat.le_of_ble_eq_true rfl) (fun σ2 h => ?_)
    refine r_aload_n C dX4_readBus_24 rfl 0 rfl ?_
    refine r_ldc2 (v := 8320234785195189619) C dX4_readBus_25 u2_230 ?_
    refine r_callVv [] C dX4_readBus_28 w_4_93 (ok_X4_pass l g _ _ _ h) (Nat.le_of_ble_eq_true rfl) rfl rfl ak_4 (cn_4 (by decide)) rfl rfl (Nat.le_of_ble_eq_true rfl) (fun σ3 h => ?_)
    refine r_aload_n C dX4_readBus_31 rfl 0 rfl ?_
    refine gf_4_22 C dX4_readBus_32 (cn_4 (by decide)) ?_
    obtain ⟨hr4, h⟩ := h
    refine r_aload_n C dX4_readBus_35 rfl 0 rfl ?_
    refine r_iconst C dX4_readBus_36 ic_1 ?_
    refine r_iconst C dX4_readBus_37 ic_3 ?_
    refine r_callVi [.ref (gad g 2 _)] C dX4_readBus_38 w_4_99 (ok_X4_wholeWithin l g _ _ _ _ h) (Nat.le_of_ble_eq_true rfl) rfl rfl ak_4 (cn_4 (by decide)) rfl rfl (Nat.le_of_ble_eq_true rfl) (fun r6 σ5 h => ?_)
    refine pf_4_102 C dX4_readBus_41 (cn_2 hr4) ?_
    have h := h _ rfl
    refine r_aload_n C dX4_readBus_44 rfl 0 rfl ?_
    refine r_ldc2 (v := 8245931957219762208) C dX4_readBus_45 u2_239 ?_
    refine r_callVv [] C dX4_readBus_48 w_4_93 (ok_X4_pass l g _ _ _ h) (Nat.le_of_ble_eq_true rfl) rfl rfl ak_4 (cn_4 (by decide)) rfl rfl (Nat.le_of_ble_eq_true rfl) (fun σ8 h => ?_)
    refine r_aload_n C dX4_readBus_51 rfl 0 rfl ?_
    refine gf_4_22 C dX4_readBus_52 (cn_4 (by decide)) ?_
    obtain ⟨hr9, h⟩ := h
    refine r_aload_n C dX4_readBus_55 rfl 0 rfl ?_
    refine r_iconst C dX4_readBus_56 ic_1 ?_
    refine r_bipush C dX4_readBus_57 bi_12 ?_
    refine r_callVi [.ref (gad g 2 _)] C dX4_readBus_59 w_4_99 (ok_X4_wholeWithin l g _ _ _ _ h) (Nat.le_of_ble_eq_true rfl) rfl rfl ak_4 (cn_4 (by decide)) rfl rfl (Nat.le_of_ble_eq_true rfl) (fun r11 σ10 h => ?_)
    refine pf_4_107 C dX4_readBus_62 (cn_2 hr9) ?_
    have h := h _ rfl
    refine r_aload_n C dX4_readBus_65 rfl 0 rfl ?_
    refine r_ldc2 (v := 7667787883841986592) C dX4_readBus_66 u3_0 ?_
    refine r_callVv [] C dX4_readBus_69 w_4_93 (ok_X4_pass l g _ _ _ h) (Nat.le_of_ble_eq_true rfl) rfl rfl ak_4 (cn_4 (by decide)) rfl rfl (Nat.le_of_ble_eq_true rfl) (fun σ13 h => ?_)
    refine r_aload_n C dX4_readBus_72 rfl 0 rfl ?_
    refine gf_4_22 C dX4_readBus_73 (cn_4 (by decide)) ?_
    obtain ⟨hr14, h⟩ := h
    refine r_aload_n C dX4_readBus_76 rfl 0 rfl ?_
    refine r_iconst C dX4_readBus_77 ic_0 ?_
    refine r_sipush C dX4_readBus_78 si_400 ?_
    refine r_callVi [.ref (gad g 2 _)] C dX4_readBus_81 w_4_99 (ok_X4_wholeWithin l g _ _ _ _ h) (Nat.le_of_ble_eq_true rfl) rfl rfl ak_4 (cn_4 (by decide)) rfl rfl (Nat.le_of_ble_eq_true rfl) (fun r16 σ15 h => ?_)
    refine pf_4_112 C dX4_readBus_84 (cn_2 hr14) ?_
    have h := h _ rfl
    refine r_aload_n C dX4_readBus_87 rfl 0 rfl ?_
    refine r_ldc2 (v := 8604529940713906208) C dX4_readBus_88 u3_1 ?_
    refine r_callVv [] C dX4_readBus_91 w_4_93 (ok_X4_pass l g _ _ _ h) (Nat.le_of_ble_eq_true rfl) rfl rfl ak_4 (cn_4 (by decide)) rfl rfl (Nat.le_of_ble_eq_true rfl) (fun σ18 h => ?_)
    refine r_aload_n C dX4_readBus_94 rfl 0 rfl ?_
    refine gf_4_22 C dX4_readBus_95 (cn_4 (by decide)) ?_
    obtain ⟨hr19, h⟩ := h
    refine r_aload_n C dX4_readBus_98 rfl 0 rfl ?_
    refine r_iconst C dX4_readBus_99 ic_1 ?_
    refine r_bipush C dX4_readBus_100 bi_100 ?_
    refine r_callVi [.ref (gad g 2 _)] C dX4_readBus_102 w_4_99 (ok_X4_wholeWithin l g _ _ _ _ h) (Nat.le_of_ble_eq_true rfl) rfl rfl ak_4 (cn_4 (by decide)) rfl rfl (Nat.le_of_ble_eq_true rfl) (fun r21 σ20 h => ?_)
    refine pf_4_117 C dX4_readBus_105 (cn_2 hr19) ?_
    have h := h _ rfl
    refine r_aload_n C dX4_readBus_108 rfl 0 rfl ?_
    refine r_ldc2 (v := 8316852699184242720) C dX4_readBus_109 u3_2 ?_
    refine r_callVv [] C dX4_readBus_112 w_4_93 (ok_X4_pass l g _ _ _ h) (Nat.le_of_ble_eq_true rfl) rfl rfl ak_4 (cn_4 (by decide)) rfl rfl (Nat.le_of_ble_eq_true rfl) (fun σ23 h => ?_)
    refine r_aload_n C dX4_readBus_115 rfl 0 rfl ?_
    refine gf_4_22 C dX4_readBus_116 (cn_4 (by decide)) ?_
    obtain ⟨hr24, h⟩ := h
    refine r_aload_n C dX4_readBus_119 rfl 0 rfl ?_
    refine r_iconst C dX4_readBus_120 ic_1 ?_
    refine r_sipush C dX4_readBus_121 si_999 ?_
    refine r_callVi [.ref (gad g 2 _)] C dX4_readBus_124 w_4_99 (ok_X4_wholeWithin l g _ _ _ _ h) (Nat.le_of_ble_eq_true rfl) rfl rfl ak_4 (cn_4 (by decide)) rfl rfl (Nat.le_of_ble_eq_true rfl) (fun r26 σ25 h => ?_)
    refine pf_4_122 C dX4_readBus_127 (cn_2 hr24) ?_
    have h := h _ rfl
    exact r_return C dX4_readBus_130 ⟨rfl, h⟩
  unfold S_X4_readBus at h
  show G g p l e R s m args below meth c (QV Q) 1 0 [(0, .ref (gad g 4 0))] [] σ
  refine r_aload_n C dX4_readBus_0 rfl 0 rfl ?_
  refine gf_4_45 C dX4_readBus_1 (cn_4 (by decide)) ?_
  refine r_if_eq (tgt := 12) C dX4_readBus_4 rfl (fun q => ?_) (fun q => ?_)
  · have h := h.1 q
    exact j12 _ h
  · have h := h.2 q
    refine r_aload_n C dX4_readBus_7 rfl 0 rfl ?_
    refine r_iconst C dX4_readBus_8 ic_3 ?_
    refine r_callVv [] C dX4_readBus_9 w_4_86 (ok_X4_fail l g _ _ _ h) (Nat.le_of_ble_eq_true rfl) rfl rfl ak_4 (cn_4 (by decide)) rfl rfl (Nat.le_of_ble_eq_true rfl) (fun σ28 h => ?_)
    exact j12 _ h
def J_X4_read_106 (Q : Hp → Prop) (kb : Int32 → Hp → Prop) (K132 : Hp → Prop) (y2 : Int32) (σ : Hp) : Prop :=
  (((gI σ 4 0 3) < (y2 + 1) → K132 σ) ∧ (¬ (gI σ 4 0 3) < (y2 + 1) → ((¬ (gI σ 4 0 10) = 0 → K132 σ) ∧ ((gI σ 4 0 10) = 0 → (((gI σ 4 0 6) = 3 → kb (y2 + 1) σ) ∧ (¬ (gI σ 4 0 6) = 3 → K132 σ))))))
def L_X4_read_46 (Q : Hp → Prop) (K132 : Hp → Prop) : Nat → Int32 → Hp → Prop
  | 0, _, _ => False
  | n + 1, y2, σ =>
  S_X4_step σ (fun σ9 => S_X4_isWord 7094703369807208480 σ9 (fun r11 σ10 => ((r11 = 0 → S_X4_isWord 7308889334409601056 σ10 (fun r13 σ12 => ((r13 = 0 → S_X4_isWord 7811896435030368288 σ12 (fun r15 σ14 => ((r15 = 0 → S_X4_fail 1 σ14 (fun σ16 => J_X4_read_106 Q (L_X4_read_46 Q K132 n) K132 y2 σ16)) ∧ (¬ r15 = 0 → S_X4_readLink σ14 (fun σ17 => J_X4_read_106 Q (L_X4_read_46 Q K132 n) K132 y2 σ17))))) ∧ (¬ r13 = 0 → S_X4_readEnd σ12 (fun σ18 => J_X4_read_106 Q (L_X4_read_46 Q K132 n) K132 y2 σ18))))) ∧ (¬ r11 = 0 → S_X4_readBus σ10 (fun σ19 => J_X4_read_106 Q (L_X4_read_46 Q K132 n) K132 y2 σ19)))))
def J_X4_read_132 (Q : Hp → Prop) (σ : Hp) : Prop :=
  (((gI σ 4 0 6) = 0 → gR σ 1 < 2 ∧ ((¬ (gI σ 2 (gR σ 1) 6) = 0 → Q σ) ∧ ((gI σ 2 (gR σ 1) 6) = 0 → S_X4_fail 6 σ (fun σ23 => Q σ23)))) ∧ (¬ (gI σ 4 0 6) = 0 → S_X4_fail 1 σ (fun σ24 => Q σ24)))
def S_X4_read (x1 : Int32) (σ : Hp) (Q : Hp → Prop) : Prop :=
  ∀ σ1, σ1 = sI σ 4 0 3 (if (gI σ 4 0 1) < x1 then (gI σ 4 0 1) else x1) → ∀ σ2, σ2 = sI σ1 4 0 1 0 → ∀ σ3, σ3 = sI σ2 4 0 5 0 → ∀ σ4, σ4 = sI σ3 4 0 9 0 → ∀ σ5, σ5 = sI σ4 4 0 10 0 → ∀ σ6, σ6 = sI σ5 4 0 11 (-1) → gR σ6 1 < 2 ∧ S_X2_clear (gR σ6 1) σ6 (fun σ8 => (∃ n20, L_X4_read_46 Q (fun σ21 => J_X4_read_132 Q σ21) n20 0 σ8))
set_option maxHeartbeats 2000000 in
set_option maxRecDepth 20000 in
theorem ok_X4_read (l : Launch) (g : Gm) (x1 : Int32) (σ : Hp) (Q : Hp → Prop) (h : S_X4_read x1 σ Q) : Ct l g yX4_read cX4_read 3 none 6 [.ref (gad g 4 0), .int x1] σ (QV Q) := by
  refine Ct.of (by decide +kernel) (Nat.le_of_ble_eq_true rfl) ?_
  intro p e R s m args below meth c C
  have C : Cx g p R s m args meth c cX4_read 3 RX4 none 6 := C
  have j106 : ∀ (kb : Int32 → Hp → Prop) (K132 : Hp → Prop) (y2 : Int32) (hkb : ∀ (v2 : Int32) (σ : Hp), kb v2 σ → G g p l e R s m args below meth c (QV Q) 3 46 [(0, .ref (gad g 4 0)), (2, .int v2)] [] σ) (hK132 : ∀ (σ : Hp), K132 σ → G g p l e R s m args below meth c (QV Q) 3 132 [(0, .ref (gad g 4 0))] [] σ) (σ : Hp), J_X4_read_106 Q kb K132 y2 σ → G g p l e R s m args below meth c (QV Q) 3 106 [(0, .ref (gad g 4 0)), (2, .int y2)] [] σ := by
    intro kb K132 y2 hkb hK132 σ h
    unfold J_X4_read_106 at h
    refine r_iinc (v := y2 + 1) C dX4_read_106 1 rfl rfl (Nat.le_of_ble_eq_true rfl) rfl ?_
    refine r_iload_n C dX4_read_109 rfl 0 rfl ?_
    refine r_aload_n C dX4_read_110 rfl 1 rfl ?_
    refine gf_4_26 C dX4_read_111 (cn_4 (by decide)) ?_
    refine r_icmp_gt (tgt := 132) C dX4_read_114 rfl (fun q => ?_) (fun q => ?_)
    · have h := h.1 q
      refine r_sub [1] rfl ?_
      exact hK132 _ h
    · have h := h.2 q
      refine r_aload_n C dX4_read_117 rfl 1 rfl ?_
      refine gf_4_49 C dX4_read_118 (cn_4 (by decide)) ?_
      refine r_if_ne (tgt := 132) C dX4_read_121 rfl (fun q => ?_) (fun q => ?_)
      · have h := h.1 q
        refine r_sub [1] rfl ?_
        exact hK132 _ h
      · have h := h.2 q
        refine r_aload_n C dX4_read_124 rfl 1 rfl ?_
        refine gf_4_35 C dX4_read_125 (cn_4 (by decide)) ?_
        refine r_iconst C dX4_read_128 ic_3 ?_
        refine r_icmp_eq (tgt := 46) C dX4_read_129 rfl (fun q => ?_) (fun q => ?_)
        · have h := h.1 q
          refine r_sub [1, 0] rfl ?_
          exact hkb _ _ h
        · have h := h.2 q
          refine r_sub [1] rfl ?_
          exact hK132 _ h
  have l46 : ∀ (K132 : Hp → Prop) (hK132 : ∀ (σ : Hp), K132 σ → G g p l e R s m args below meth c (QV Q) 3 132 [(0, .ref (gad g 4 0))] [] σ) (n : Nat) (y2 : Int32) (σ : Hp), L_X4_read_46 Q K132 n y2 σ → G g p l e R s m args below meth c (QV Q) 3 46 [(0, .ref (gad g 4 0)), (2, .int y2)] [] σ := by
    intro K132 hK132 n
    induction n with
    | zero => intro y2 σ h; exact False.elim h
    | succ n ih =>
      intro y2 σ h
      unfold L_X4_read_46 at h
      refine r_aload_n C dX4_read_46 rfl 0 rfl ?_
      refine r_callVv [] C dX4_read_47 w_4_64 (ok_X4_step l g _ _ h) (Nat.le_of_ble_eq_true rfl) rfl rfl ak_4 (cn_4 (by decide)) rfl rfl (Nat.le_of_ble_eq_true rfl) (fun σ9 h => ?_)
      refine r_aload_n C dX4_read_50 rfl 0 rfl ?_
      refine r_ldc2 (v := 7094703369807208480) C dX4_read_51 u2_213 ?_
      refine r_callVi [] C dX4_read_54 w_4_69 (ok_X4_isWord l g _ _ _ h) (Nat.le_of_ble_eq_true rfl) rfl rfl ak_4 (cn_4 (by decide)) rfl rfl (Nat.le_of_ble_eq_true rfl) (fun r11 σ10 h => ?_)
      refine r_if_eq (tgt := 67) C dX4_read_57 rfl (fun q => ?_) (fun q => ?_)
      · have h := h.1 q
        refine r_aload_n C dX4_read_67 rfl 0 rfl ?_
        refine r_ldc2 (v := 7308889334409601056) C dX4_read_68 u3_3 ?_
        refine r_callVi [] C dX4_read_71 w_4_69 (ok_X4_isWord l g _ _ _ h) (Nat.le_of_ble_eq_true rfl) rfl rfl ak_4 (cn_4 (by decide)) rfl rfl (Nat.le_of_ble_eq_true rfl) (fun r13 σ12 h => ?_)
        refine r_if_eq (tgt := 84) C dX4_read_74 rfl (fun q => ?_) (fun q => ?_)
        · have h := h.1 q
          refine r_aload_n C dX4_read_84 rfl 0 rfl ?_
          refine r_ldc2 (v := 7811896435030368288) C dX4_read_85 u3_20 ?_
          refine r_callVi [] C dX4_read_88 w_4_69 (ok_X4_isWord l g _ _ _ h) (Nat.le_of_ble_eq_true rfl) rfl rfl ak_4 (cn_4 (by decide)) rfl rfl (Nat.le_of_ble_eq_true rfl) (fun r15 σ14 h => ?_)
          refine r_if_eq (tgt := 101) C dX4_read_91 rfl (fun q => ?_) (fun q => ?_)
          · have h := h.1 q
            refine r_aload_n C dX4_read_101 rfl 0 rfl ?_
            refine r_iconst C dX4_read_102 ic_1 ?_
            refine r_callVv [] C dX4_read_103 w_4_86 (ok_X4_fail l g _ _ _ h) (Nat.le_of_ble_eq_true rfl) rfl rfl ak_4 (cn_4 (by decide)) rfl rfl (Nat.le_of_ble_eq_true rfl) (fun σ16 h => ?_)
            exact j106 _ _ _ ih hK132 _ h
          · have h := h.2 q
            refine r_aload_n C dX4_read_94 rfl 0 rfl ?_
            refine r_callVv [] C dX4_read_95 w_4_83 (ok_X4_readLink l g _ _ h) (Nat.le_of_ble_eq_true rfl) rfl rfl ak_4 (cn_4 (by decide)) rfl rfl (Nat.le_of_ble_eq_true rfl) (fun σ17 h => ?_)
            refine r_goto (tgt := 106) C dX4_read_98 rfl ?_
            exact j106 _ _ _ ih hK132 _ h
        · have h := h.2 q
          refine r_aload_n C dX4_read_77 rfl 0 rfl ?_
          refine r_callVv [] C dX4_read_78 w_4_78 (ok_X4_readEnd l g _ _ h) (Nat.le_of_ble_eq_true rfl) rfl rfl ak_4 (cn_4 (by decide)) rfl rfl (Nat.le_of_ble_eq_true rfl) (fun σ18 h => ?_)
          refine r_goto (tgt := 106) C dX4_read_81 rfl ?_
          exact j106 _ _ _ ih hK132 _ h
      · have h := h.2 q
        refine r_aload_n C dX4_read_60 rfl 0 rfl ?_
        refine r_callVv [] C dX4_read_61 w_4_73 (ok_X4_readBus l g _ _ h) (Nat.le_of_ble_eq_true rfl) rfl rfl ak_4 (cn_4 (by decide)) rfl rfl (Nat.le_of_ble_eq_true rfl) (fun σ19 h => ?_)
        refine r_goto (tgt := 106) C dX4_read_64 rfl ?_
        exact j106 _ _ _ ih hK132 _ h
  have j132 : ∀ (σ : Hp), J_X4_read_132 Q σ → G g p l e R s m args below meth c (QV Q) 3 132 [(0, .ref (gad g 4 0))] [] σ := by
    intro σ h
    unfold J_X4_read_132 at h
    refine r_aload_n C dX4_read_132 rfl 0 rfl ?_
    refine gf_4_35 C dX4_read_133 (cn_4 (by decide)) ?_
    refine r_if_eq (tgt := 147) C dX4_read_136 rfl (fun q => ?_) (fun q => ?_)
    · have h := h.1 q
      refine r_aload_n C dX4_read_147 rfl 0 rfl ?_
      refine gf_4_22 C dX4_read_148 (cn_4 (by decide)) ?_
      obtain ⟨hr22, h⟩ := h
      refine gf_4_90 C dX4_read_151 (cn_2 hr22) ?_
      refine r_if_ne (tgt := 163) C dX4_read_154 rfl (fun q => ?_) (fun q => ?_)
      · have h := h.1 q
        exact r_return C dX4_read_163 ⟨rfl, h⟩
      · have h := h.2 q
        refine r_aload_n C dX4_read_157 rfl 0 rfl ?_
        refine r_bipush C dX4_read_158 bi_6 ?_
        refine r_callVv [] C dX4_read_160 w_4_86 (ok_X4_fail l g _ _ _ h) (Nat.le_of_ble_eq_true rfl) rfl rfl ak_4 (cn_4 (by decide)) rfl rfl (Nat.le_of_ble_eq_true rfl) (fun σ23 h => ?_)
        exact r_return C dX4_read_163 ⟨rfl, h⟩
    · have h := h.2 q
      refine r_aload_n C dX4_read_139 rfl 0 rfl ?_
      refine r_iconst C dX4_read_140 ic_1 ?_
      refine r_callVv [] C dX4_read_141 w_4_86 (ok_X4_fail l g _ _ _ h) (Nat.le_of_ble_eq_true rfl) rfl rfl ak_4 (cn_4 (by decide)) rfl rfl (Nat.le_of_ble_eq_true rfl) (fun σ24 h => ?_)
      refine r_goto (tgt := 163) C dX4_read_144 rfl ?_
      exact r_return C dX4_read_163 ⟨rfl, h⟩
  unfold S_X4_read at h
  show G g p l e R s m args below meth c (QV Q) 3 0 [(0, .ref (gad g 4 0)), (1, .int x1)] [] σ
  refine r_aload_n C dX4_read_0 rfl 0 rfl ?_
  refine r_iload_n C dX4_read_1 rfl 1 rfl ?_
  refine r_aload_n C dX4_read_2 rfl 0 rfl ?_
  refine gf_4_15 C dX4_read_3 (cn_4 (by decide)) ?_
  refine r_min C dX4_read_6 u2_187 u2_188 u1_10 u2_189 (by decide) (Nat.le_of_ble_eq_true rfl) ?_
  refine pf_4_26 C dX4_read_9 (cn_4 (by decide)) ?_
  have h := h _ rfl
  refine r_aload_n C dX4_read_12 rfl 0 rfl ?_
  refine r_iconst C dX4_read_13 ic_0 ?_
  refine pf_4_15 C dX4_read_14 (cn_4 (by decide)) ?_
  have h := h _ rfl
  refine r_aload_n C dX4_read_17 rfl 0 rfl ?_
  refine r_iconst C dX4_read_18 ic_0 ?_
  refine pf_4_32 C dX4_read_19 (cn_4 (by decide)) ?_
  have h := h _ rfl
  refine r_aload_n C dX4_read_22 rfl 0 rfl ?_
  refine r_iconst C dX4_read_23 ic_0 ?_
  refine pf_4_45 C dX4_read_24 zb0 (cn_4 (by decide)) ?_
  have h := h _ rfl
  refine r_aload_n C dX4_read_27 rfl 0 rfl ?_
  refine r_iconst C dX4_read_28 ic_0 ?_
  refine pf_4_49 C dX4_read_29 (cn_4 (by decide)) ?_
  have h := h _ rfl
  refine r_aload_n C dX4_read_32 rfl 0 rfl ?_
  refine r_iconst C dX4_read_33 ic_m1 ?_
  refine pf_4_52 C dX4_read_34 (cn_4 (by decide)) ?_
  have h := h _ rfl
  refine r_aload_n C dX4_read_37 rfl 0 rfl ?_
  refine gf_4_22 C dX4_read_38 (cn_4 (by decide)) ?_
  obtain ⟨hr7, h⟩ := h
  refine r_callVv [] C dX4_read_41 w_4_61 (ok_X2_clear l g _ hr7 _ _ h) (Nat.le_of_ble_eq_true rfl) rfl rfl ak_2 (cn_2 hr7) rfl rfl (Nat.le_of_ble_eq_true rfl) (fun σ8 h => ?_)
  refine r_iconst C dX4_read_44 ic_0 ?_
  refine r_istore_n C dX4_read_45 rfl (Nat.le_of_ble_eq_true rfl) rfl ?_
  refine r_sub [1, 0] rfl ?_
  obtain ⟨n20, h⟩ := h
  refine l46 _ (fun σ21 h => ?_) n20 _ _ h
  exact j132 _ h
def L_X5_beginWith_72 (Q : Hp → Prop) (K111 : Hp → Prop) (S : Nat) (P : Nat) : Nat → Int32 → Hp → Prop
  | 0, _, _ => False
  | n + 1, y2, σ =>
  (((gI σ 2 P 6) ≤ y2 → K111 σ) ∧ (¬ (gI σ 2 P 6) ≤ y2 → S_X2_creditLimit P y2 σ (fun r11 σ10 => vp_in y2 16 ∧ ∀ σ12, σ12 = sI σ10 45 S (ix y2) r11 → S_X2_creditLimit P y2 σ12 (fun r14 σ13 => vp_in (8 + y2) 16 ∧ ∀ σ15, σ15 = sI σ13 45 S (ix (8 + y2)) r14 → L_X5_beginWith_72 Q K111 S P n (y2 + 1) σ15))))
def S_X5_beginWith (S : Nat) (P : Nat) (σ : Hp) (Q : Hp → Prop) : Prop :=
  ∀ σ1, σ1 = sI σ 5 S 0 0 → S_J7_fill_53178 38 S 0 σ1 (fun σ2 => S_J7_fill_53178 39 S 0 σ2 (fun σ3 => S_J7_fill_53178 40 S 0 σ3 (fun σ4 => S_J7_fill_53178 41 S 0 σ4 (fun σ5 => S_J7_fill_53178 42 S 0 σ5 (fun σ6 => S_J7_fill_53178 43 S 0 σ6 (fun σ7 => S_J7_fill_53178 44 S (-2) σ7 (fun σ8 => S_J7_fill_53178 46 S 0 σ8 (fun σ9 => (∃ n16, L_X5_beginWith_72 Q (fun σ17 => S_X3_clear S σ17 (fun σ18 => S_X0_clear S σ18 (fun σ19 => Q σ19))) S P n16 0 σ9)))))))))
set_option maxHeartbeats 2000000 in
set_option maxRecDepth 20000 in
theorem ok_X5_beginWith (l : Launch) (g : Gm) (S : Nat) (P : Nat) (hS : S < 3) (hP : P < 2) (σ : Hp) (Q : Hp → Prop) (h : S_X5_beginWith S P σ Q) : Ct l g yX5_beginWith cX5_beginWith 3 none 2 [.ref (gad g 5 S), .ref (gad g 2 P)] σ (QV Q) := by
  refine Ct.of (by decide +kernel) (Nat.le_of_ble_eq_true rfl) ?_
  intro p e R s m args below meth c C
  have C : Cx g p R s m args meth c cX5_beginWith 3 RX5 none 2 := C
  have l72 : ∀ (K111 : Hp → Prop) (hK111 : ∀ (σ : Hp), K111 σ → G g p l e R s m args below meth c (QV Q) 3 111 [(0, .ref (gad g 5 S))] [] σ) (n : Nat) (y2 : Int32) (σ : Hp), L_X5_beginWith_72 Q K111 S P n y2 σ → G g p l e R s m args below meth c (QV Q) 3 72 [(0, .ref (gad g 5 S)), (1, .ref (gad g 2 P)), (2, .int y2)] [] σ := by
    intro K111 hK111 n
    induction n with
    | zero => intro y2 σ h; exact False.elim h
    | succ n ih =>
      intro y2 σ h
      unfold L_X5_beginWith_72 at h
      refine r_iload_n C dX5_beginWith_72 rfl 2 rfl ?_
      refine r_aload_n C dX5_beginWith_73 rfl 1 rfl ?_
      refine gf_5_63 C dX5_beginWith_74 (cn_2 hP) ?_
      refine r_icmp_ge (tgt := 111) C dX5_beginWith_77 rfl (fun q => ?_) (fun q => ?_)
      · have h := h.1 q
        refine r_sub [0] rfl ?_
        exact hK111 _ h
      · have h := h.2 q
        refine r_aload_n C dX5_beginWith_80 rfl 0 rfl ?_
        refine gf_5_37 C dX5_beginWith_81 (cn_5 hS) ?_
        refine r_iload_n C dX5_beginWith_84 rfl 2 rfl ?_
        refine r_aload_n C dX5_beginWith_85 rfl 1 rfl ?_
        refine r_iload_n C dX5_beginWith_86 rfl 2 rfl ?_
        refine r_callVi [.int _, .ref (gad g 45 S)] C dX5_beginWith_87 w_5_68 (ok_X2_creditLimit l g P hP _ _ _ h) (Nat.le_of_ble_eq_true rfl) rfl rfl ak_2 (cn_2 hP) rfl rfl (Nat.le_of_ble_eq_true rfl) (fun r11 σ10 h => ?_)
        obtain ⟨h0, h⟩ := h
        refine r_iastore C dX5_beginWith_90 ak_45 (cn_45 hS) al_45 h0 ?_
        have h := h _ rfl
        refine r_aload_n C dX5_beginWith_91 rfl 0 rfl ?_
        refine gf_5_37 C dX5_beginWith_92 (cn_5 hS) ?_
        refine r_bipush C dX5_beginWith_95 bi_8 ?_
        refine r_iload_n C dX5_beginWith_97 rfl 2 rfl ?_
        refine r_iadd C dX5_beginWith_98 ?_
        refine r_aload_n C dX5_beginWith_99 rfl 1 rfl ?_
        refine r_iload_n C dX5_beginWith_100 rfl 2 rfl ?_
        refine r_callVi [.int _, .ref (gad g 45 S)] C dX5_beginWith_101 w_5_68 (ok_X2_creditLimit l g P hP _ _ _ h) (Nat.le_of_ble_eq_true rfl) rfl rfl ak_2 (cn_2 hP) rfl rfl (Nat.le_of_ble_eq_true rfl) (fun r14 σ13 h => ?_)
        obtain ⟨h0, h⟩ := h
        refine r_iastore C dX5_beginWith_104 ak_45 (cn_45 hS) al_45 h0 ?_
        have h := h _ rfl
        refine r_iinc (v := y2 + 1) C dX5_beginWith_105 2 rfl rfl (Nat.le_of_ble_eq_true rfl) rfl ?_
        refine r_goto (tgt := 72) C dX5_beginWith_108 rfl ?_
        refine r_sub [1, 2, 0] rfl ?_
        exact ih _ _ h
  unfold S_X5_beginWith at h
  show G g p l e R s m args below meth c (QV Q) 3 0 [(0, .ref (gad g 5 S)), (1, .ref (gad g 2 P))] [] σ
  refine r_aload_n C dX5_beginWith_0 rfl 0 rfl ?_
  refine r_iconst C dX5_beginWith_1 ic_0 ?_
  refine pf_5_9 C dX5_beginWith_2 (cn_5 hS) ?_
  have h := h _ rfl
  refine r_aload_n C dX5_beginWith_5 rfl 0 rfl ?_
  refine gf_5_15 C dX5_beginWith_6 (cn_5 hS) ?_
  refine r_iconst C dX5_beginWith_9 ic_0 ?_
  refine r_callSv [] C dX5_beginWith_10 w_5_57 (ok_J7_fill_53178 l g 38 S ak_38 (cn_38 hS) _ _ _ h) (Nat.le_of_ble_eq_true rfl) rfl rfl (Nat.le_of_ble_eq_true rfl) (fun σ2 h => ?_)
  refine r_aload_n C dX5_beginWith_13 rfl 0 rfl ?_
  refine gf_5_19 C dX5_beginWith_14 (cn_5 hS) ?_
  refine r_iconst C dX5_beginWith_17 ic_0 ?_
  refine r_callSv [] C dX5_beginWith_18 w_5_57 (ok_J7_fill_53178 l g 39 S ak_39 (cn_39 hS) _ _ _ h) (Nat.le_of_ble_eq_true rfl) rfl rfl (Nat.le_of_ble_eq_true rfl) (fun σ3 h => ?_)
  refine r_aload_n C dX5_beginWith_21 rfl 0 rfl ?_
  refine gf_5_22 C dX5_beginWith_22 (cn_5 hS) ?_
  refine r_iconst C dX5_beginWith_25 ic_0 ?_
  refine r_callSv [] C dX5_beginWith_26 w_5_57 (ok_J7_fill_53178 l g 40 S ak_40 (cn_40 hS) _ _ _ h) (Nat.le_of_ble_eq_true rfl) rfl rfl (Nat.le_of_ble_eq_true rfl) (fun σ4 h => ?_)
  refine r_aload_n C dX5_beginWith_29 rfl 0 rfl ?_
  refine gf_5_25 C dX5_beginWith_30 (cn_5 hS) ?_
  refine r_iconst C dX5_beginWith_33 ic_0 ?_
  refine r_callSv [] C dX5_beginWith_34 w_5_57 (ok_J7_fill_53178 l g 41 S ak_41 (cn_41 hS) _ _ _ h) (Nat.le_of_ble_eq_true rfl) rfl rfl (Nat.le_of_ble_eq_true rfl) (fun σ5 h => ?_)
  refine r_aload_n C dX5_beginWith_37 rfl 0 rfl ?_
  refine gf_5_28 C dX5_beginWith_38 (cn_5 hS) ?_
  refine r_iconst C dX5_beginWith_41 ic_0 ?_
  refine r_callSv [] C dX5_beginWith_42 w_5_57 (ok_J7_fill_53178 l g 42 S ak_42 (cn_42 hS) _ _ _ h) (Nat.le_of_ble_eq_true rfl) rfl rfl (Nat.le_of_ble_eq_true rfl) (fun σ6 h => ?_)
  refine r_aload_n C dX5_beginWith_45 rfl 0 rfl ?_
  refine gf_5_31 C dX5_beginWith_46 (cn_5 hS) ?_
  refine r_iconst C dX5_beginWith_49 ic_0 ?_
  refine r_callSv [] C dX5_beginWith_50 w_5_57 (ok_J7_fill_53178 l g 43 S ak_43 (cn_43 hS) _ _ _ h) (Nat.le_of_ble_eq_true rfl) rfl rfl (Nat.le_of_ble_eq_true rfl) (fun σ7 h => ?_)
  refine r_aload_n C dX5_beginWith_53 rfl 0 rfl ?_
  refine gf_5_34 C dX5_beginWith_54 (cn_5 hS) ?_
  refine r_bipush C dX5_beginWith_57 bi_m2 ?_
  refine r_callSv [] C dX5_beginWith_59 w_5_57 (ok_J7_fill_53178 l g 44 S ak_44 (cn_44 hS) _ _ _ h) (Nat.le_of_ble_eq_true rfl) rfl rfl (Nat.le_of_ble_eq_true rfl) (fun σ8 h => ?_)
  refine r_aload_n C dX5_beginWith_62 rfl 0 rfl ?_
  refine gf_5_40 C dX5_beginWith_63 (cn_5 hS) ?_
  refine r_iconst C dX5_beginWith_66 ic_0 ?_
  refine r_callSv [] C dX5_beginWith_67 w_5_57 (ok_J7_fill_53178 l g 46 S ak_46 (cn_46 hS) _ _ _ h) (Nat.le_of_ble_eq_true rfl) rfl rfl (Nat.le_of_ble_eq_true rfl) (fun σ9 h => ?_)
  refine r_iconst C dX5_beginWith_70 ic_0 ?_
  refine r_istore_n C dX5_beginWith_71 rfl (Nat.le_of_ble_eq_true rfl) rfl ?_
  refine r_sub [1, 2, 0] rfl ?_
  obtain ⟨n16, h⟩ := h
  refine l72 _ (fun σ17 h => ?_) n16 _ _ h
  refine r_aload_n C dX5_beginWith_111 rfl 0 rfl ?_
  refine gf_5_46 C dX5_beginWith_112 (cn_5 hS) ?_
  refine r_callVv [] C dX5_beginWith_115 w_5_72 (ok_X3_clear l g S hS _ _ h) (Nat.le_of_ble_eq_true rfl) rfl rfl ak_3 (cn_3 hS) rfl rfl (Nat.le_of_ble_eq_true rfl) (fun σ18 h => ?_)
  refine r_aload_n C dX5_beginWith_118 rfl 0 rfl ?_
  refine gf_5_53 C dX5_beginWith_119 (cn_5 hS) ?_
  refine r_callVv [] C dX5_beginWith_122 w_5_75 (ok_X0_clear l g S hS _ _ h) (Nat.le_of_ble_eq_true rfl) rfl rfl ak_0 (cn_0 hS) rfl rfl (Nat.le_of_ble_eq_true rfl) (fun σ19 h => ?_)
  exact r_return C dX5_beginWith_125 ⟨rfl, h⟩
def S_X5_copy (S : Nat) (S2 : Nat) (σ : Hp) (Q : Hp → Prop) : Prop :=
  ∀ σ1, σ1 = sI σ 5 S 0 (gI σ 5 S2 0) → S_X7_copyAll 38 S2 38 S σ1 (fun σ2 => S_X7_copyAll 39 S2 39 S σ2 (fun σ3 => S_X7_copyAll 40 S2 40 S σ3 (fun σ4 => S_X7_copyAll 41 S2 41 S σ4 (fun σ5 => S_X7_copyAll 42 S2 42 S σ5 (fun σ6 => S_X7_copyAll 43 S2 43 S σ6 (fun σ7 => S_X7_copyAll 44 S2 44 S σ7 (fun σ8 => S_X7_copyAll 45 S2 45 S σ8 (fun σ9 => S_X7_copyAll 46 S2 46 S σ9 (fun σ10 => S_X3_copy S S2 σ10 (fun σ11 => S_X0_copy S S2 σ11 (fun σ12 => Q σ12)))))))))))
set_option maxHeartbeats 2000000 in
set_option maxRecDepth 20000 in
theorem ok_X5_copy (l : Launch) (g : Gm) (S : Nat) (S2 : Nat) (hS : S < 3) (hS2 : S2 < 3) (σ : Hp) (Q : Hp → Prop) (h : S_X5_copy S S2 σ Q) : Ct l g yX5_copy cX5_copy 2 none 3 [.ref (gad g 5 S), .ref (gad g 5 S2)] σ (QV Q) := by
  refine Ct.of (by decide +kernel) (Nat.le_of_ble_eq_true rfl) ?_
  intro p e R s m args below meth c C
  have C : Cx g p R s m args meth c cX5_copy 2 RX5 none 3 := C
  unfold S_X5_copy at h
  show G g p l e R s m args below meth c (QV Q) 2 0 [(0, .ref (gad g 5 S)), (1, .ref (gad g 5 S2))] [] σ
  refine r_aload_n C dX5_copy_0 rfl 0 rfl ?_
  refine r_aload_n C dX5_copy_1 rfl 1 rfl ?_
  refine gf_5_9 C dX5_copy_2 (cn_5 hS2) ?_
  refine pf_5_9 C dX5_copy_5 (cn_5 hS) ?_
  have h := h _ rfl
  refine r_aload_n C dX5_copy_8 rfl 1 rfl ?_
  refine gf_5_15 C dX5_copy_9 (cn_5 hS2) ?_
  refine r_aload_n C dX5_copy_12 rfl 0 rfl ?_
  refine gf_5_15 C dX5_copy_13 (cn_5 hS) ?_
  refine r_callNv [] C dX5_copy_16 w_5_76 (ok_X7_copyAll l g 38 S2 38 S ak_38 (cn_38 hS2) ak_38 (cn_38 hS) _ _ h) (Nat.le_of_ble_eq_true rfl) rfl rfl (Nat.le_of_ble_eq_true rfl) (fun σ2 h => ?_)
  refine r_aload_n C dX5_copy_19 rfl 1 rfl ?_
  refine gf_5_19 C dX5_copy_20 (cn_5 hS2) ?_
  refine r_aload_n C dX5_copy_23 rfl 0 rfl ?_
  refine gf_5_19 C dX5_copy_24 (cn_5 hS) ?_
  refine r_callNv [] C dX5_copy_27 w_5_76 (ok_X7_copyAll l g 39 S2 39 S ak_39 (cn_39 hS2) ak_39 (cn_39 hS) _ _ h) (Nat.le_of_ble_eq_true rfl) rfl rfl (Nat.le_of_ble_eq_true rfl) (fun σ3 h => ?_)
  refine r_aload_n C dX5_copy_30 rfl 1 rfl ?_
  refine gf_5_22 C dX5_copy_31 (cn_5 hS2) ?_
  refine r_aload_n C dX5_copy_34 rfl 0 rfl ?_
  refine gf_5_22 C dX5_copy_35 (cn_5 hS) ?_
  refine r_callNv [] C dX5_copy_38 w_5_76 (ok_X7_copyAll l g 40 S2 40 S ak_40 (cn_40 hS2) ak_40 (cn_40 hS) _ _ h) (Nat.le_of_ble_eq_true rfl) rfl rfl (Nat.le_of_ble_eq_true rfl) (fun σ4 h => ?_)
  refine r_aload_n C dX5_copy_41 rfl 1 rfl ?_
  refine gf_5_25 C dX5_copy_42 (cn_5 hS2) ?_
  refine r_aload_n C dX5_copy_45 rfl 0 rfl ?_
  refine gf_5_25 C dX5_copy_46 (cn_5 hS) ?_
  refine r_callNv [] C dX5_copy_49 w_5_76 (ok_X7_copyAll l g 41 S2 41 S ak_41 (cn_41 hS2) ak_41 (cn_41 hS) _ _ h) (Nat.le_of_ble_eq_true rfl) rfl rfl (Nat.le_of_ble_eq_true rfl) (fun σ5 h => ?_)
  refine r_aload_n C dX5_copy_52 rfl 1 rfl ?_
  refine gf_5_28 C dX5_copy_53 (cn_5 hS2) ?_
  refine r_aload_n C dX5_copy_56 rfl 0 rfl ?_
  refine gf_5_28 C dX5_copy_57 (cn_5 hS) ?_
  refine r_callNv [] C dX5_copy_60 w_5_76 (ok_X7_copyAll l g 42 S2 42 S ak_42 (cn_42 hS2) ak_42 (cn_42 hS) _ _ h) (Nat.le_of_ble_eq_true rfl) rfl rfl (Nat.le_of_ble_eq_true rfl) (fun σ6 h => ?_)
  refine r_aload_n C dX5_copy_63 rfl 1 rfl ?_
  refine gf_5_31 C dX5_copy_64 (cn_5 hS2) ?_
  refine r_aload_n C dX5_copy_67 rfl 0 rfl ?_
  refine gf_5_31 C dX5_copy_68 (cn_5 hS) ?_
  refine r_callNv [] C dX5_copy_71 w_5_76 (ok_X7_copyAll l g 43 S2 43 S ak_43 (cn_43 hS2) ak_43 (cn_43 hS) _ _ h) (Nat.le_of_ble_eq_true rfl) rfl rfl (Nat.le_of_ble_eq_true rfl) (fun σ7 h => ?_)
  refine r_aload_n C dX5_copy_74 rfl 1 rfl ?_
  refine gf_5_34 C dX5_copy_75 (cn_5 hS2) ?_
  refine r_aload_n C dX5_copy_78 rfl 0 rfl ?_
  refine gf_5_34 C dX5_copy_79 (cn_5 hS) ?_
  refine r_callNv [] C dX5_copy_82 w_5_76 (ok_X7_copyAll l g 44 S2 44 S ak_44 (cn_44 hS2) ak_44 (cn_44 hS) _ _ h) (Nat.le_of_ble_eq_true rfl) rfl rfl (Nat.le_of_ble_eq_true rfl) (fun σ8 h => ?_)
  refine r_aload_n C dX5_copy_85 rfl 1 rfl ?_
  refine gf_5_37 C dX5_copy_86 (cn_5 hS2) ?_
  refine r_aload_n C dX5_copy_89 rfl 0 rfl ?_
  refine gf_5_37 C dX5_copy_90 (cn_5 hS) ?_
  refine r_callNv [] C dX5_copy_93 w_5_76 (ok_X7_copyAll l g 45 S2 45 S ak_45 (cn_45 hS2) ak_45 (cn_45 hS) _ _ h) (Nat.le_of_ble_eq_true rfl) rfl rfl (Nat.le_of_ble_eq_true rfl) (fun σ9 h => ?_)
  refine r_aload_n C dX5_copy_96 rfl 1 rfl ?_
  refine gf_5_40 C dX5_copy_97 (cn_5 hS2) ?_
  refine r_aload_n C dX5_copy_100 rfl 0 rfl ?_
  refine gf_5_40 C dX5_copy_101 (cn_5 hS) ?_
  refine r_callNv [] C dX5_copy_104 w_5_76 (ok_X7_copyAll l g 46 S2 46 S ak_46 (cn_46 hS2) ak_46 (cn_46 hS) _ _ h) (Nat.le_of_ble_eq_true rfl) rfl rfl (Nat.le_of_ble_eq_true rfl) (fun σ10 h => ?_)
  refine r_aload_n C dX5_copy_107 rfl 0 rfl ?_
  refine gf_5_46 C dX5_copy_108 (cn_5 hS) ?_
  refine r_aload_n C dX5_copy_111 rfl 1 rfl ?_
  refine gf_5_46 C dX5_copy_112 (cn_5 hS2) ?_
  refine r_callVv [] C dX5_copy_115 w_5_80 (ok_X3_copy l g S S2 hS hS2 _ _ h) (Nat.le_of_ble_eq_true rfl) rfl rfl ak_3 (cn_3 hS) rfl rfl (Nat.le_of_ble_eq_true rfl) (fun σ11 h => ?_)
  refine r_aload_n C dX5_copy_118 rfl 0 rfl ?_
  refine gf_5_53 C dX5_copy_119 (cn_5 hS) ?_
  refine r_aload_n C dX5_copy_122 rfl 1 rfl ?_
  refine gf_5_53 C dX5_copy_123 (cn_5 hS2) ?_
  refine r_callVv [] C dX5_copy_126 w_5_84 (ok_X0_copy l g S S2 hS hS2 _ _ h) (Nat.le_of_ble_eq_true rfl) rfl rfl ak_0 (cn_0 hS) rfl rfl (Nat.le_of_ble_eq_true rfl) (fun σ12 h => ?_)
  exact r_return C dX5_copy_129 ⟨rfl, h⟩
def L_X5_allWaiting_4 (Q : Int32 → Hp → Prop) (K25 : Int32 → Hp → Prop) (S : Nat) : Nat → Int32 → Int32 → Hp → Prop
  | 0, _, _, _ => False
  | n + 1, y1, y2, σ =>
  (((8 : Int32) ≤ y2 → K25 y1 σ) ∧ (¬ (8 : Int32) ≤ y2 → vp_in y2 8 ∧ L_X5_allWaiting_4 Q K25 S n (y1 + (gI σ 40 S (ix y2))) (y2 + 1) σ))
def S_X5_allWaiting (S : Nat) (σ : Hp) (Q : Int32 → Hp → Prop) : Prop :=
  (∃ n1, L_X5_allWaiting_4 Q (fun w3 σ2 => Q w3 σ2) S n1 0 0 σ)
set_option maxHeartbeats 2000000 in
set_option maxRecDepth 20000 in
theorem ok_X5_allWaiting (l : Launch) (g : Gm) (S : Nat) (hS : S < 3) (σ : Hp) (Q : Int32 → Hp → Prop) (h : S_X5_allWaiting S σ Q) : Ct l g yX5_allWaiting cX5_allWaiting 3 (some .int) 0 [.ref (gad g 5 S)] σ (QI Q) := by
  refine Ct.of (by decide +kernel) (Nat.le_of_ble_eq_true rfl) ?_
  intro p e R s m args below meth c C
  have C : Cx g p R s m args meth c cX5_allWaiting 3 RX5 (some .int) 0 := C
  have l4 : ∀ (K25 : Int32 → Hp → Prop) (hK25 : ∀ (v1 : Int32) (σ : Hp), K25 v1 σ → G g p l e R s m args below meth c (QI Q) 3 25 [(1, .int v1)] [] σ) (n : Nat) (y1 : Int32) (y2 : Int32) (σ : Hp), L_X5_allWaiting_4 Q K25 S n y1 y2 σ → G g p l e R s m args below meth c (QI Q) 3 4 [(0, .ref (gad g 5 S)), (1, .int y1), (2, .int y2)] [] σ := by
    intro K25 hK25 n
    induction n with
    | zero => intro y1 y2 σ h; exact False.elim h
    | succ n ih =>
      intro y1 y2 σ h
      unfold L_X5_allWaiting_4 at h
      refine r_iload_n C dX5_allWaiting_4 rfl 2 rfl ?_
      refine r_bipush C dX5_allWaiting_5 bi_8 ?_
      refine r_icmp_ge (tgt := 25) C dX5_allWaiting_7 rfl (fun q => ?_) (fun q => ?_)
      · have h := h.1 q
        refine r_sub [1] rfl ?_
        exact hK25 _ _ h
      · have h := h.2 q
        refine r_iload_n C dX5_allWaiting_10 rfl 1 rfl ?_
        refine r_aload_n C dX5_allWaiting_11 rfl 0 rfl ?_
        refine gf_5_22 C dX5_allWaiting_12 (cn_5 hS) ?_
        refine r_iload_n C dX5_allWaiting_15 rfl 2 rfl ?_
        obtain ⟨h0, h⟩ := h
        refine r_iaload C dX5_allWaiting_16 ak_40 (cn_40 hS) al_40 h0 ?_
        refine r_iadd C dX5_allWaiting_17 ?_
        refine r_istore_n C dX5_allWaiting_18 rfl (Nat.le_of_ble_eq_true rfl) rfl ?_
        refine r_iinc (v := y2 + 1) C dX5_allWaiting_19 2 rfl rfl (Nat.le_of_ble_eq_true rfl) rfl ?_
        refine r_goto (tgt := 4) C dX5_allWaiting_22 rfl ?_
        refine r_sub [2, 1, 0] rfl ?_
        exact ih _ _ _ h
  unfold S_X5_allWaiting at h
  show G g p l e R s m args below meth c (QI Q) 3 0 [(0, .ref (gad g 5 S))] [] σ
  refine r_iconst C dX5_allWaiting_0 ic_0 ?_
  refine r_istore_n C dX5_allWaiting_1 rfl (Nat.le_of_ble_eq_true rfl) rfl ?_
  refine r_iconst C dX5_allWaiting_2 ic_0 ?_
  refine r_istore_n C dX5_allWaiting_3 rfl (Nat.le_of_ble_eq_true rfl) rfl ?_
  refine r_sub [2, 1, 0] rfl ?_
  obtain ⟨n1, h⟩ := h
  refine l4 _ (fun w3 σ2 h => ?_) n1 _ _ _ h
  refine r_iload_n C dX5_allWaiting_25 rfl 0 rfl ?_
  exact r_ireturn C dX5_allWaiting_26 ⟨_, rfl, h⟩
def S_X5_isQuiet (S : Nat) (σ : Hp) (Q : Int32 → Hp → Prop) : Prop :=
  ((¬ (gI σ 3 S 0) = 0 → Q 0 σ) ∧ ((gI σ 3 S 0) = 0 → S_X5_allWaiting S σ (fun r2 σ1 => ((¬ r2 = 0 → Q 0 σ1) ∧ (r2 = 0 → Q 1 σ1)))))
set_option maxHeartbeats 2000000 in
set_option maxRecDepth 20000 in
theorem ok_X5_isQuiet (l : Launch) (g : Gm) (S : Nat) (hS : S < 3) (σ : Hp) (Q : Int32 → Hp → Prop) (h : S_X5_isQuiet S σ Q) : Ct l g yX5_isQuiet cX5_isQuiet 1 (some .boolean) 1 [.ref (gad g 5 S)] σ (QI Q) := by
  refine Ct.of (by decide +kernel) (Nat.le_of_ble_eq_true rfl) ?_
  intro p e R s m args below meth c C
  have C : Cx g p R s m args meth c cX5_isQuiet 1 RX5 (some .boolean) 1 := C
  unfold S_X5_isQuiet at h
  show G g p l e R s m args below meth c (QI Q) 1 0 [(0, .ref (gad g 5 S))] [] σ
  refine r_aload_n C dX5_isQuiet_0 rfl 0 rfl ?_
  refine gf_5_46 C dX5_isQuiet_1 (cn_5 hS) ?_
  refine gf_5_87 C dX5_isQuiet_4 (cn_3 hS) ?_
  refine r_if_ne (tgt := 21) C dX5_isQuiet_7 rfl (fun q => ?_) (fun q => ?_)
  · have h := h.1 q
    refine r_iconst C dX5_isQuiet_21 ic_0 ?_
    exact r_zreturn C dX5_isQuiet_22 zb0.1 ⟨_, rfl, h⟩
  · have h := h.2 q
    refine r_aload_n C dX5_isQuiet_10 rfl 0 rfl ?_
    refine r_callVi [] C dX5_isQuiet_11 w_5_90 (ok_X5_allWaiting l g S hS _ _ h) (Nat.le_of_ble_eq_true rfl) rfl rfl ak_5 (cn_5 hS) rfl rfl (Nat.le_of_ble_eq_true rfl) (fun r2 σ1 h => ?_)
    refine r_if_ne (tgt := 21) C dX5_isQuiet_14 rfl (fun q => ?_) (fun q => ?_)
    · have h := h.1 q
      refine r_iconst C dX5_isQuiet_21 ic_0 ?_
      exact r_zreturn C dX5_isQuiet_22 zb0.1 ⟨_, rfl, h⟩
    · have h := h.2 q
      refine r_iconst C dX5_isQuiet_17 ic_1 ?_
      refine r_goto (tgt := 22) C dX5_isQuiet_18 rfl ?_
      exact r_zreturn C dX5_isQuiet_22 zb1.1 ⟨_, rfl, h⟩
def J_X5_beginAnew_51 (Q : Int32 → Hp → Prop) (kb : Int32 → Int32 → Hp → Prop) (K57 : Int32 → Hp → Prop) (S : Nat) (P : Nat) (y2 : Int32) (y3 : Int32) (y4 : Int32) (σ : Hp) : Prop :=
  kb y3 (y4 + 1) σ
def L_X5_beginAnew_5 (Q : Int32 → Hp → Prop) (K57 : Int32 → Hp → Prop) (S : Nat) (P : Nat) (y2 : Int32) : Nat → Int32 → Int32 → Hp → Prop
  | 0, _, _, _ => False
  | n + 1, y3, y4, σ =>
  (((gI σ 2 P 6) ≤ y4 → K57 y3 σ) ∧ (¬ (gI σ 2 P 6) ≤ y4 → vp_in y4 8 ∧ ((¬ (gI σ 25 P (ix y4)) = y2 → J_X5_beginAnew_51 Q (L_X5_beginAnew_5 Q K57 S P y2 n) K57 S P y2 y3 y4 σ) ∧ ((gI σ 25 P (ix y4)) = y2 → vp_in y4 8 ∧ vp_in y4 8 ∧ ∀ σ1, σ1 = sI σ 40 S (ix y4) 0 → vp_in y4 8 ∧ ∀ σ2, σ2 = sI σ1 42 S (ix y4) 0 → J_X5_beginAnew_51 Q (L_X5_beginAnew_5 Q K57 S P y2 n) K57 S P y2 (y3 + (gI σ 40 S (ix y4))) y4 σ2))))
def S_X5_beginAnew (S : Nat) (P : Nat) (x2 : Int32) (σ : Hp) (Q : Int32 → Hp → Prop) : Prop :=
  (∃ n3, L_X5_beginAnew_5 Q (fun w5 σ4 => Q w5 σ4) S P x2 n3 0 0 σ)
set_option maxHeartbeats 2000000 in
set_option maxRecDepth 20000 in
theorem ok_X5_beginAnew (l : Launch) (g : Gm) (S : Nat) (P : Nat) (hS : S < 3) (hP : P < 2) (x2 : Int32) (σ : Hp) (Q : Int32 → Hp → Prop) (h : S_X5_beginAnew S P x2 σ Q) : Ct l g yX5_beginAnew cX5_beginAnew 5 (some .int) 0 [.ref (gad g 5 S), .ref (gad g 2 P), .int x2] σ (QI Q) := by
  refine Ct.of (by decide +kernel) (Nat.le_of_ble_eq_true rfl) ?_
  intro p e R s m args below meth c C
  have C : Cx g p R s m args meth c cX5_beginAnew 5 RX5 (some .int) 0 := C
  have j51 : ∀ (kb : Int32 → Int32 → Hp → Prop) (K57 : Int32 → Hp → Prop) (y2 : Int32) (y3 : Int32) (y4 : Int32) (hkb : ∀ (v3 : Int32) (v4 : Int32) (σ : Hp), kb v3 v4 σ → G g p l e R s m args below meth c (QI Q) 5 5 [(0, .ref (gad g 5 S)), (1, .ref (gad g 2 P)), (2, .int y2), (3, .int v3), (4, .int v4)] [] σ) (hK57 : ∀ (v3 : Int32) (σ : Hp), K57 v3 σ → G g p l e R s m args below meth c (QI Q) 5 57 [(3, .int v3)] [] σ) (σ : Hp), J_X5_beginAnew_51 Q kb K57 S P y2 y3 y4 σ → G g p l e R s m args below meth c (QI Q) 5 51 [(0, .ref (gad g 5 S)), (1, .ref (gad g 2 P)), (2, .int y2), (3, .int y3), (4, .int y4)] [] σ := by
    intro kb K57 y2 y3 y4 hkb hK57 σ h
    unfold J_X5_beginAnew_51 at h
    refine r_iinc (v := y4 + 1) C dX5_beginAnew_51 4 rfl rfl (Nat.le_of_ble_eq_true rfl) rfl ?_
    refine r_goto (tgt := 5) C dX5_beginAnew_54 rfl ?_
    refine r_sub [1, 2, 3, 4, 0] rfl ?_
    exact hkb _ _ _ h
  have l5 : ∀ (K57 : Int32 → Hp → Prop) (y2 : Int32) (hK57 : ∀ (v3 : Int32) (σ : Hp), K57 v3 σ → G g p l e R s m args below meth c (QI Q) 5 57 [(3, .int v3)] [] σ) (n : Nat) (y3 : Int32) (y4 : Int32) (σ : Hp), L_X5_beginAnew_5 Q K57 S P y2 n y3 y4 σ → G g p l e R s m args below meth c (QI Q) 5 5 [(0, .ref (gad g 5 S)), (1, .ref (gad g 2 P)), (2, .int y2), (3, .int y3), (4, .int y4)] [] σ := by
    intro K57 y2 hK57 n
    induction n with
    | zero => intro y3 y4 σ h; exact False.elim h
    | succ n ih =>
      intro y3 y4 σ h
      unfold L_X5_beginAnew_5 at h
      refine r_iload C dX5_beginAnew_5 4 rfl ?_
      refine r_aload_n C dX5_beginAnew_7 rfl 1 rfl ?_
      refine gf_5_63 C dX5_beginAnew_8 (cn_2 hP) ?_
      refine r_icmp_ge (tgt := 57) C dX5_beginAnew_11 rfl (fun q => ?_) (fun q => ?_)
      · have h := h.1 q
        refine r_sub [3] rfl ?_
        exact hK57 _ _ h
      · have h := h.2 q
        refine r_aload_n C dX5_beginAnew_14 rfl 1 rfl ?_
        refine gf_5_94 C dX5_beginAnew_15 (cn_2 hP) ?_
        refine r_iload C dX5_beginAnew_18 4 rfl ?_
        obtain ⟨h0, h⟩ := h
        refine r_iaload C dX5_beginAnew_20 ak_25 (cn_25 hP) al_25 h0 ?_
        refine r_iload_n C dX5_beginAnew_21 rfl 2 rfl ?_
        refine r_icmp_ne (tgt := 51) C dX5_beginAnew_22 rfl (fun q => ?_) (fun q => ?_)
        · have h := h.1 q
          exact j51 _ _ _ _ _ ih hK57 _ h
        · have h := h.2 q
          refine r_iload_n C dX5_beginAnew_25 rfl 3 rfl ?_
          refine r_aload_n C dX5_beginAnew_26 rfl 0 rfl ?_
          refine gf_5_22 C dX5_beginAnew_27 (cn_5 hS) ?_
          refine r_iload C dX5_beginAnew_30 4 rfl ?_
          obtain ⟨h0, h⟩ := h
          refine r_iaload C dX5_beginAnew_32 ak_40 (cn_40 hS) al_40 h0 ?_
          refine r_iadd C dX5_beginAnew_33 ?_
          refine r_istore_n C dX5_beginAnew_34 rfl (Nat.le_of_ble_eq_true rfl) rfl ?_
          refine r_aload_n C dX5_beginAnew_35 rfl 1 rfl ?_
          refine gf_5_22 C dX5_beginAnew_36 (cn_5 hS) ?_
          refine r_iload C dX5_beginAnew_39 4 rfl ?_
          refine r_iconst C dX5_beginAnew_41 ic_0 ?_
          obtain ⟨h0, h⟩ := h
          refine r_iastore C dX5_beginAnew_42 ak_40 (cn_40 hS) al_40 h0 ?_
          have h := h _ rfl
          refine r_aload_n C dX5_beginAnew_43 rfl 1 rfl ?_
          refine gf_5_28 C dX5_beginAnew_44 (cn_5 hS) ?_
          refine r_iload C dX5_beginAnew_47 4 rfl ?_
          refine r_iconst C dX5_beginAnew_49 ic_0 ?_
          obtain ⟨h0, h⟩ := h
          refine r_iastore C dX5_beginAnew_50 ak_42 (cn_42 hS) al_42 h0 ?_
          have h := h _ rfl
          refine r_sub [1, 2, 3, 0, 4] rfl ?_
          exact j51 _ _ _ _ _ ih hK57 _ h
  unfold S_X5_beginAnew at h
  show G g p l e R s m args below meth c (QI Q) 5 0 [(0, .ref (gad g 5 S)), (1, .ref (gad g 2 P)), (2, .int x2)] [] σ
  refine r_iconst C dX5_beginAnew_0 ic_0 ?_
  refine r_istore_n C dX5_beginAnew_1 rfl (Nat.le_of_ble_eq_true rfl) rfl ?_
  refine r_iconst C dX5_beginAnew_2 ic_0 ?_
  refine r_istore C dX5_beginAnew_3 (Nat.le_of_ble_eq_true rfl) rfl ?_
  refine r_sub [2, 3, 4, 1, 0] rfl ?_
  obtain ⟨n3, h⟩ := h
  refine l5 _ _ (fun w5 σ4 h => ?_) n3 _ _ _ h
  refine r_iload_n C dX5_beginAnew_57 rfl 0 rfl ?_
  exact r_ireturn C dX5_beginAnew_58 ⟨_, rfl, h⟩
def J_X5_nextChange_47 (Q : Int32 → Hp → Prop) (kb : Int32 → Int32 → Hp → Prop) (K53 : Int32 → Hp → Prop) (S : Nat) (P : Nat) (y3 : Int32) (y4 : Int32) (σ : Hp) : Prop :=
  kb y3 (y4 + 1) σ
def L_X5_nextChange_16 (Q : Int32 → Hp → Prop) (K53 : Int32 → Hp → Prop) (S : Nat) (P : Nat) : Nat → Int32 → Int32 → Hp → Prop
  | 0, _, _, _ => False
  | n + 1, y3, y4, σ =>
  (((gI σ 2 P 6) ≤ y4 → K53 y3 σ) ∧ (¬ (gI σ 2 P 6) ≤ y4 → vp_in y4 8 ∧ (((gI σ 40 S (ix y4)) ≤ 0 → J_X5_nextChange_47 Q (L_X5_nextChange_16 Q K53 S P n) K53 S P y3 y4 σ) ∧ (¬ (gI σ 40 S (ix y4)) ≤ 0 → vp_in y4 8 ∧ J_X5_nextChange_47 Q (L_X5_nextChange_16 Q K53 S P n) K53 S P (if (gI σ 41 S (ix y4)) < y3 then (gI σ 41 S (ix y4)) else y3) y4 σ))))
def S_X5_nextChange (S : Nat) (P : Nat) (x2 : Int32) (σ : Hp) (Q : Int32 → Hp → Prop) : Prop :=
  S_X3_nextChange S (gI σ 5 S 0) x2 σ (fun r2 σ1 => (∃ n3, L_X5_nextChange_16 Q (fun w5 σ4 => Q w5 σ4) S P n3 r2 0 σ1))
set_option maxHeartbeats 2000000 in
set_option maxRecDepth 20000 in
theorem ok_X5_nextChange (l : Launch) (g : Gm) (S : Nat) (P : Nat) (hS : S < 3) (hP : P < 2) (x2 : Int32) (σ : Hp) (Q : Int32 → Hp → Prop) (h : S_X5_nextChange S P x2 σ Q) : Ct l g yX5_nextChange cX5_nextChange 5 (some .int) 2 [.ref (gad g 5 S), .ref (gad g 2 P), .int x2] σ (QI Q) := by
  refine Ct.of (by decide +kernel) (Nat.le_of_ble_eq_true rfl) ?_
  intro p e R s m args below meth c C
  have C : Cx g p R s m args meth c cX5_nextChange 5 RX5 (some .int) 2 := C
  have j47 : ∀ (kb : Int32 → Int32 → Hp → Prop) (K53 : Int32 → Hp → Prop) (y3 : Int32) (y4 : Int32) (hkb : ∀ (v3 : Int32) (v4 : Int32) (σ : Hp), kb v3 v4 σ → G g p l e R s m args below meth c (QI Q) 5 16 [(0, .ref (gad g 5 S)), (1, .ref (gad g 2 P)), (3, .int v3), (4, .int v4)] [] σ) (hK53 : ∀ (v3 : Int32) (σ : Hp), K53 v3 σ → G g p l e R s m args below meth c (QI Q) 5 53 [(3, .int v3)] [] σ) (σ : Hp), J_X5_nextChange_47 Q kb K53 S P y3 y4 σ → G g p l e R s m args below meth c (QI Q) 5 47 [(0, .ref (gad g 5 S)), (1, .ref (gad g 2 P)), (3, .int y3), (4, .int y4)] [] σ := by
    intro kb K53 y3 y4 hkb hK53 σ h
    unfold J_X5_nextChange_47 at h
    refine r_iinc (v := y4 + 1) C dX5_nextChange_47 3 rfl rfl (Nat.le_of_ble_eq_true rfl) rfl ?_
    refine r_goto (tgt := 16) C dX5_nextChange_50 rfl ?_
    refine r_sub [1, 2, 3, 0] rfl ?_
    exact hkb _ _ _ h
  have l16 : ∀ (K53 : Int32 → Hp → Prop) (hK53 : ∀ (v3 : Int32) (σ : Hp), K53 v3 σ → G g p l e R s m args below meth c (QI Q) 5 53 [(3, .int v3)] [] σ) (n : Nat) (y3 : Int32) (y4 : Int32) (σ : Hp), L_X5_nextChange_16 Q K53 S P n y3 y4 σ → G g p l e R s m args below meth c (QI Q) 5 16 [(0, .ref (gad g 5 S)), (1, .ref (gad g 2 P)), (3, .int y3), (4, .int y4)] [] σ := by
    intro K53 hK53 n
    induction n with
    | zero => intro y3 y4 σ h; exact False.elim h
    | succ n ih =>
      intro y3 y4 σ h
      unfold L_X5_nextChange_16 at h
      refine r_iload C dX5_nextChange_16 3 rfl ?_
      refine r_aload_n C dX5_nextChange_18 rfl 1 rfl ?_
      refine gf_5_63 C dX5_nextChange_19 (cn_2 hP) ?_
      refine r_icmp_ge (tgt := 53) C dX5_nextChange_22 rfl (fun q => ?_) (fun q => ?_)
      · have h := h.1 q
        refine r_sub [2] rfl ?_
        exact hK53 _ _ h
      · have h := h.2 q
        refine r_aload_n C dX5_nextChange_25 rfl 0 rfl ?_
        refine gf_5_22 C dX5_nextChange_26 (cn_5 hS) ?_
        refine r_iload C dX5_nextChange_29 3 rfl ?_
        obtain ⟨h0, h⟩ := h
        refine r_iaload C dX5_nextChange_31 ak_40 (cn_40 hS) al_40 h0 ?_
        refine r_if_le (tgt := 47) C dX5_nextChange_32 rfl (fun q => ?_) (fun q => ?_)
        · have h := h.1 q
          exact j47 _ _ _ _ ih hK53 _ h
        · have h := h.2 q
          refine r_iload_n C dX5_nextChange_35 rfl 2 rfl ?_
          refine r_aload_n C dX5_nextChange_36 rfl 0 rfl ?_
          refine gf_5_25 C dX5_nextChange_37 (cn_5 hS) ?_
          refine r_iload C dX5_nextChange_40 3 rfl ?_
          obtain ⟨h0, h⟩ := h
          refine r_iaload C dX5_nextChange_42 ak_41 (cn_41 hS) al_41 h0 ?_
          refine r_min C dX5_nextChange_43 u4_156 u2_188 u1_10 u2_189 (by decide) (Nat.le_of_ble_eq_true rfl) ?_
          refine r_istore_n C dX5_nextChange_46 rfl (Nat.le_of_ble_eq_true rfl) rfl ?_
          refine r_sub [1, 2, 0, 3] rfl ?_
          exact j47 _ _ _ _ ih hK53 _ h
  unfold S_X5_nextChange at h
  show G g p l e R s m args below meth c (QI Q) 5 0 [(0, .ref (gad g 5 S)), (1, .ref (gad g 2 P)), (2, .int x2)] [] σ
  refine r_aload_n C dX5_nextChange_0 rfl 0 rfl ?_
  refine gf_5_46 C dX5_nextChange_1 (cn_5 hS) ?_
  refine r_aload_n C dX5_nextChange_4 rfl 0 rfl ?_
  refine gf_5_9 C dX5_nextChange_5 (cn_5 hS) ?_
  refine r_iload_n C dX5_nextChange_8 rfl 2 rfl ?_
  refine r_callVi [] C dX5_nextChange_9 w_5_127 (ok_X3_nextChange l g S hS _ _ _ _ h) (Nat.le_of_ble_eq_true rfl) rfl rfl ak_3 (cn_3 hS) rfl rfl (Nat.le_of_ble_eq_true rfl) (fun r2 σ1 h => ?_)
  refine r_istore_n C dX5_nextChange_12 rfl (Nat.le_of_ble_eq_true rfl) rfl ?_
  refine r_iconst C dX5_nextChange_13 ic_0 ?_
  refine r_istore C dX5_nextChange_14 (Nat.le_of_ble_eq_true rfl) rfl ?_
  refine r_sub [2, 3, 1, 0] rfl ?_
  obtain ⟨n3, h⟩ := h
  refine l16 _ (fun w5 σ4 h => ?_) n3 _ _ _ h
  refine r_iload_n C dX5_nextChange_53 rfl 0 rfl ?_
  exact r_ireturn C dX5_nextChange_54 ⟨_, rfl, h⟩
def L_X5_growCredit_2 (Q : Hp → Prop) (K79 : Hp → Prop) (S : Nat) (P : Nat) (y2 : Int32) : Nat → Int32 → Hp → Prop
  | 0, _, _ => False
  | n + 1, y3, σ =>
  (((gI σ 2 P 6) ≤ y3 → K79 σ) ∧ (¬ (gI σ 2 P 6) ≤ y3 → vp_in y3 8 ∧ S_X2_creditLimit P y3 σ (fun r2 σ1 => vp_in y3 16 ∧ vp_in y3 16 ∧ ∀ σ3, σ3 = sI σ1 45 S (ix y3) (if ((gI σ1 45 S (ix y3)) + ((gI σ 27 P (ix y3)) * y2)) < r2 then ((gI σ1 45 S (ix y3)) + ((gI σ 27 P (ix y3)) * y2)) else r2) → vp_in (8 + y3) 16 ∧ vp_in (8 + y3) 16 ∧ ∀ σ4, σ4 = sI σ3 45 S (ix (8 + y3)) (if ((gI σ3 45 S (ix (8 + y3))) + ((gI σ 27 P (ix y3)) * y2)) < r2 then ((gI σ3 45 S (ix (8 + y3))) + ((gI σ 27 P (ix y3)) * y2)) else r2) → L_X5_growCredit_2 Q K79 S P y2 n (y3 + 1) σ4)))
def S_X5_growCredit (S : Nat) (P : Nat) (x2 : Int32) (σ : Hp) (Q : Hp → Prop) : Prop :=
  (∃ n5, L_X5_growCredit_2 Q (fun σ6 => Q σ6) S P x2 n5 0 σ)
set_option maxHeartbeats 2000000 in
set_option maxRecDepth 20000 in
theorem ok_X5_growCredit (l : Launch) (g : Gm) (S : Nat) (P : Nat) (hS : S < 3) (hP : P < 2) (x2 : Int32) (σ : Hp) (Q : Hp → Prop) (h : S_X5_growCredit S P x2 σ Q) : Ct l g yX5_growCredit cX5_growCredit 6 none 1 [.ref (gad g 5 S), .ref (gad g 2 P), .int x2] σ (QV Q) := by
  refine Ct.of (by decide +kernel) (Nat.le_of_ble_eq_true rfl) ?_
  intro p e R s m args below meth c C
  have C : Cx g p R s m args meth c cX5_growCredit 6 RX5 none 1 := C
  have l2 : ∀ (K79 : Hp → Prop) (y2 : Int32) (hK79 : ∀ (σ : Hp), K79 σ → G g p l e R s m args below meth c (QV Q) 6 79 [] [] σ) (n : Nat) (y3 : Int32) (σ : Hp), L_X5_growCredit_2 Q K79 S P y2 n y3 σ → G g p l e R s m args below meth c (QV Q) 6 2 [(0, .ref (gad g 5 S)), (1, .ref (gad g 2 P)), (2, .int y2), (3, .int y3)] [] σ := by
    intro K79 y2 hK79 n
    induction n with
    | zero => intro y3 σ h; exact False.elim h
    | succ n ih =>
      intro y3 σ h
      unfold L_X5_growCredit_2 at h
      refine r_iload_n C dX5_growCredit_2 rfl 3 rfl ?_
      refine r_aload_n C dX5_growCredit_3 rfl 1 rfl ?_
      refine gf_5_63 C dX5_growCredit_4 (cn_2 hP) ?_
      refine r_icmp_ge (tgt := 79) C dX5_growCredit_7 rfl (fun q => ?_) (fun q => ?_)
      · have h := h.1 q
        refine r_sub [] rfl ?_
        exact hK79 _ h
      · have h := h.2 q
        refine r_aload_n C dX5_growCredit_10 rfl 1 rfl ?_
        refine gf_5_132 C dX5_growCredit_11 (cn_2 hP) ?_
        refine r_iload_n C dX5_growCredit_14 rfl 3 rfl ?_
        obtain ⟨h0, h⟩ := h
        refine r_iaload C dX5_growCredit_15 ak_27 (cn_27 hP) al_27 h0 ?_
        refine r_iload_n C dX5_growCredit_16 rfl 2 rfl ?_
        refine r_imul C dX5_growCredit_17 ?_
        refine r_istore C dX5_growCredit_18 (Nat.le_of_ble_eq_true rfl) rfl ?_
        refine r_aload_n C dX5_growCredit_20 rfl 2 rfl ?_
        refine r_iload_n C dX5_growCredit_21 rfl 4 rfl ?_
        refine r_callVi [] C dX5_growCredit_22 w_5_68 (ok_X2_creditLimit l g P hP _ _ _ h) (Nat.le_of_ble_eq_true rfl) rfl rfl ak_2 (cn_2 hP) rfl rfl (Nat.le_of_ble_eq_true rfl) (fun r2 σ1 h => ?_)
        refine r_istore C dX5_growCredit_25 (Nat.le_of_ble_eq_true rfl) rfl ?_
        refine r_aload_n C dX5_growCredit_27 rfl 2 rfl ?_
        refine gf_5_37 C dX5_growCredit_28 (cn_5 hS) ?_
        refine r_iload_n C dX5_growCredit_31 rfl 5 rfl ?_
        refine r_iload C dX5_growCredit_32 0 rfl ?_
        refine r_aload_n C dX5_growCredit_34 rfl 2 rfl ?_
        refine gf_5_37 C dX5_growCredit_35 (cn_5 hS) ?_
        refine r_iload_n C dX5_growCredit_38 rfl 5 rfl ?_
        obtain ⟨h0, h⟩ := h
        refine r_iaload C dX5_growCredit_39 ak_45 (cn_45 hS) al_45 h0 ?_
        refine r_iload C dX5_growCredit_40 1 rfl ?_
        refine r_iadd C dX5_growCredit_42 ?_
        refine r_min C dX5_growCredit_43 u4_156 u2_188 u1_10 u2_189 (by decide) (Nat.le_of_ble_eq_true rfl) ?_
        obtain ⟨h0, h⟩ := h
        refine r_iastore C dX5_growCredit_46 ak_45 (cn_45 hS) al_45 h0 ?_
        have h := h _ rfl
        refine r_aload_n C dX5_growCredit_47 rfl 2 rfl ?_
        refine gf_5_37 C dX5_growCredit_48 (cn_5 hS) ?_
        refine r_bipush C dX5_growCredit_51 bi_8 ?_
        refine r_iload_n C dX5_growCredit_53 rfl 5 rfl ?_
        refine r_iadd C dX5_growCredit_54 ?_
        refine r_iload C dX5_growCredit_55 0 rfl ?_
        refine r_aload_n C dX5_growCredit_57 rfl 2 rfl ?_
        refine gf_5_37 C dX5_growCredit_58 (cn_5 hS) ?_
        refine r_bipush C dX5_growCredit_61 bi_8 ?_
        refine r_iload_n C dX5_growCredit_63 rfl 5 rfl ?_
        refine r_iadd C dX5_growCredit_64 ?_
        obtain ⟨h0, h⟩ := h
        refine r_iaload C dX5_growCredit_65 ak_45 (cn_45 hS) al_45 h0 ?_
        refine r_iload C dX5_growCredit_66 1 rfl ?_
        refine r_iadd C dX5_growCredit_68 ?_
        refine r_min C dX5_growCredit_69 u4_156 u2_188 u1_10 u2_189 (by decide) (Nat.le_of_ble_eq_true rfl) ?_
        obtain ⟨h0, h⟩ := h
        refine r_iastore C dX5_growCredit_72 ak_45 (cn_45 hS) al_45 h0 ?_
        have h := h _ rfl
        refine r_iinc (v := y3 + 1) C dX5_growCredit_73 5 rfl rfl (Nat.le_of_ble_eq_true rfl) rfl ?_
        refine r_goto (tgt := 2) C dX5_growCredit_76 rfl ?_
        refine r_sub [3, 4, 5, 0] rfl ?_
        exact ih _ _ h
  unfold S_X5_growCredit at h
  show G g p l e R s m args below meth c (QV Q) 6 0 [(0, .ref (gad g 5 S)), (1, .ref (gad g 2 P)), (2, .int x2)] [] σ
  refine r_iconst C dX5_growCredit_0 ic_0 ?_
  refine r_istore_n C dX5_growCredit_1 rfl (Nat.le_of_ble_eq_true rfl) rfl ?_
  refine r_sub [1, 2, 3, 0] rfl ?_
  obtain ⟨n5, h⟩ := h
  refine l2 _ _ (fun σ6 h => ?_) n5 _ _ h
  exact r_return C dX5_growCredit_79 ⟨rfl, h⟩
def S_X5_leadsToEnd (x0 : Int32) (σ : Hp) (Q : Int32 → Hp → Prop) : Prop :=
  (((jrem x0 16) < 6 → Q 0 σ) ∧ (¬ (jrem x0 16) < 6 → (((12 : Int32) ≤ (jrem x0 16) → Q 0 σ) ∧ (¬ (12 : Int32) ≤ (jrem x0 16) → Q 1 σ))))
set_option maxHeartbeats 2000000 in
set_option maxRecDepth 20000 in
theorem ok_X5_leadsToEnd (l : Launch) (g : Gm) (x0 : Int32) (σ : Hp) (Q : Int32 → Hp → Prop) (h : S_X5_leadsToEnd x0 σ Q) : Ct l g yX5_leadsToEnd cX5_leadsToEnd 2 (some .boolean) 0 [.int x0] σ (QI Q) := by
  refine Ct.of (by decide +kernel) (Nat.le_of_ble_eq_true rfl) ?_
  intro p e R s m args below meth c C
  have C : Cx g p R s m args meth c cX5_leadsToEnd 2 RX5 (some .boolean) 0 := C
  unfold S_X5_leadsToEnd at h
  show G g p l e R s m args below meth c (QI Q) 2 0 [(0, .int x0)] [] σ
  refine r_iload_n C dX5_leadsToEnd_0 rfl 0 rfl ?_
  refine r_bipush C dX5_leadsToEnd_1 bi_16 ?_
  refine r_irem C dX5_leadsToEnd_3 (by decide) ?_
  refine r_istore_n C dX5_leadsToEnd_4 rfl (Nat.le_of_ble_eq_true rfl) rfl ?_
  refine r_iload_n C dX5_leadsToEnd_5 rfl 0 rfl ?_
  refine r_bipush C dX5_leadsToEnd_6 bi_6 ?_
  refine r_icmp_lt (tgt := 21) C dX5_leadsToEnd_8 rfl (fun q => ?_) (fun q => ?_)
  · have h := h.1 q
    refine r_iconst C dX5_leadsToEnd_21 ic_0 ?_
    exact r_zreturn C dX5_leadsToEnd_22 zb0.1 ⟨_, rfl, h⟩
  · have h := h.2 q
    refine r_iload_n C dX5_leadsToEnd_11 rfl 0 rfl ?_
    refine r_bipush C dX5_leadsToEnd_12 bi_12 ?_
    refine r_icmp_ge (tgt := 21) C dX5_leadsToEnd_14 rfl (fun q => ?_) (fun q => ?_)
    · have h := h.1 q
      refine r_iconst C dX5_leadsToEnd_21 ic_0 ?_
      exact r_zreturn C dX5_leadsToEnd_22 zb0.1 ⟨_, rfl, h⟩
    · have h := h.2 q
      refine r_iconst C dX5_leadsToEnd_17 ic_1 ?_
      refine r_goto (tgt := 22) C dX5_leadsToEnd_18 rfl ?_
      exact r_zreturn C dX5_leadsToEnd_22 zb1.1 ⟨_, rfl, h⟩
def J_X5_spread_98 (Q : Hp → Prop) (kb : Int32 → Hp → Prop) (K104 : Hp → Prop) (S : Nat) (P : Nat) (y2 : Int32) (y3 : Int32) (y4 : Int32) (y5 : Int32) (σ : Hp) : Prop :=
  kb (y5 + 1) σ
def J_X5_spread_96 (Q : Hp → Prop) (kb : Int32 → Hp → Prop) (K104 : Hp → Prop) (S : Nat) (P : Nat) (y2 : Int32) (y3 : Int32) (y4 : Int32) (y5 : Int32) (z0 : Int32) (z1 : Int32) (z2 : Int32) (σ : Hp) : Prop :=
  vp_in z2 6 ∧ ∀ σ3, σ3 = sI σ 39 S (ix z2) (z1 + z0) → J_X5_spread_98 Q kb K104 S P y2 y3 y4 y5 σ3
def L_X5_spread_4 (Q : Hp → Prop) (K104 : Hp → Prop) (S : Nat) (P : Nat) (y2 : Int32) (y3 : Int32) (y4 : Int32) : Nat → Int32 → Hp → Prop
  | 0, _, _ => False
  | n + 1, y5, σ =>
  (((16 : Int32) ≤ y5 → K104 σ) ∧ (¬ (16 : Int32) ≤ y5 → ((¬ ((y3 >>> (y5 &&& 31)) &&& 1) = 1 → J_X5_spread_98 Q (L_X5_spread_4 Q K104 S P y2 y3 y4 n) K104 S P y2 y3 y4 y5 σ) ∧ (((y3 >>> (y5 &&& 31)) &&& 1) = 1 → vp_in y4 384 ∧ vp_in y4 384 ∧ vp_in y4 384 ∧ S_X3_admits S (gI σ 2 P 1) ((y2 * 16) + y5) (gI σ 34 S (ix y4)) (gI σ 35 S (ix y4)) (gI σ 36 S (ix y4)) σ (fun r2 σ1 => vp_in ((y2 * 3) + 0) 6 ∧ ((r2 = 0 → J_X5_spread_96 Q (L_X5_spread_4 Q K104 S P y2 y3 y4 n) K104 S P y2 y3 y4 y5 1 (gI σ1 39 S (ix ((y2 * 3) + 0))) ((y2 * 3) + 0) σ1) ∧ (¬ r2 = 0 → J_X5_spread_96 Q (L_X5_spread_4 Q K104 S P y2 y3 y4 n) K104 S P y2 y3 y4 y5 0 (gI σ1 39 S (ix ((y2 * 3) + 0))) ((y2 * 3) + 0) σ1)))))))
def S_X5_spread (S : Nat) (P : Nat) (x2 : Int32) (x3 : Int32) (x4 : Int32) (σ : Hp) (Q : Hp → Prop) : Prop :=
  (∃ n4, L_X5_spread_4 Q (fun σ5 => Q σ5) S P x2 x3 x4 n4 6 σ)
set_option maxHeartbeats 2000000 in
set_option maxRecDepth 20000 in
theorem ok_X5_spread (l : Launch) (g : Gm) (S : Nat) (P : Nat) (hS : S < 3) (hP : P < 2) (x2 : Int32) (x3 : Int32) (x4 : Int32) (σ : Hp) (Q : Hp → Prop) (h : S_X5_spread S P x2 x3 x4 σ Q) : Ct l g yX5_spread cX5_spread 8 none 2 [.ref (gad g 5 S), .ref (gad g 2 P), .int x2, .int x3, .int x4] σ (QV Q) := by
  refine Ct.of (by decide +kernel) (Nat.le_of_ble_eq_true rfl) ?_
  intro p e R s m args below meth c C
  have C : Cx g p R s m args meth c cX5_spread 8 RX5 none 2 := C
  have j98 : ∀ (kb : Int32 → Hp → Prop) (K104 : Hp → Prop) (y2 : Int32) (y3 : Int32) (y4 : Int32) (y5 : Int32) (hkb : ∀ (v5 : Int32) (σ : Hp), kb v5 σ → G g p l e R s m args below meth c (QV Q) 8 4 [(0, .ref (gad g 5 S)), (1, .ref (gad g 2 P)), (2, .int y2), (3, .int y3), (4, .int y4), (5, .int v5)] [] σ) (hK104 : ∀ (σ : Hp), K104 σ → G g p l e R s m args below meth c (QV Q) 8 104 [] [] σ) (σ : Hp), J_X5_spread_98 Q kb K104 S P y2 y3 y4 y5 σ → G g p l e R s m args below meth c (QV Q) 8 98 [(0, .ref (gad g 5 S)), (1, .ref (gad g 2 P)), (2, .int y2), (3, .int y3), (4, .int y4), (5, .int y5)] [] σ := by
    intro kb K104 y2 y3 y4 y5 hkb hK104 σ h
    unfold J_X5_spread_98 at h
    refine r_iinc (v := y5 + 1) C dX5_spread_98 5 rfl rfl (Nat.le_of_ble_eq_true rfl) rfl ?_
    refine r_goto (tgt := 4) C dX5_spread_101 rfl ?_
    refine r_sub [1, 2, 3, 4, 5, 0] rfl ?_
    exact hkb _ _ h
  have j96 : ∀ (kb : Int32 → Hp → Prop) (K104 : Hp → Prop) (y2 : Int32) (y3 : Int32) (y4 : Int32) (y5 : Int32) (z0 : Int32) (z1 : Int32) (z2 : Int32) (hkb : ∀ (v5 : Int32) (σ : Hp), kb v5 σ → G g p l e R s m args below meth c (QV Q) 8 4 [(0, .ref (gad g 5 S)), (1, .ref (gad g 2 P)), (2, .int y2), (3, .int y3), (4, .int y4), (5, .int v5)] [] σ) (hK104 : ∀ (σ : Hp), K104 σ → G g p l e R s m args below meth c (QV Q) 8 104 [] [] σ) (σ : Hp), J_X5_spread_96 Q kb K104 S P y2 y3 y4 y5 z0 z1 z2 σ → G g p l e R s m args below meth c (QV Q) 8 96 [(0, .ref (gad g 5 S)), (1, .ref (gad g 2 P)), (2, .int y2), (3, .int y3), (4, .int y4), (5, .int y5)] [.int z0, .int z1, .int z2, .ref (gad g 39 S)] σ := by
    intro kb K104 y2 y3 y4 y5 z0 z1 z2 hkb hK104 σ h
    unfold J_X5_spread_96 at h
    refine r_iadd C dX5_spread_96 ?_
    obtain ⟨h0, h⟩ := h
    refine r_iastore C dX5_spread_97 ak_39 (cn_39 hS) al_39 h0 ?_
    have h := h _ rfl
    exact j98 _ _ _ _ _ _ hkb hK104 _ h
  have l4 : ∀ (K104 : Hp → Prop) (y2 : Int32) (y3 : Int32) (y4 : Int32) (hK104 : ∀ (σ : Hp), K104 σ → G g p l e R s m args below meth c (QV Q) 8 104 [] [] σ) (n : Nat) (y5 : Int32) (σ : Hp), L_X5_spread_4 Q K104 S P y2 y3 y4 n y5 σ → G g p l e R s m args below meth c (QV Q) 8 4 [(0, .ref (gad g 5 S)), (1, .ref (gad g 2 P)), (2, .int y2), (3, .int y3), (4, .int y4), (5, .int y5)] [] σ := by
    intro K104 y2 y3 y4 hK104 n
    induction n with
    | zero => intro y5 σ h; exact False.elim h
    | succ n ih =>
      intro y5 σ h
      unfold L_X5_spread_4 at h
      refine r_iload C dX5_spread_4 5 rfl ?_
      refine r_bipush C dX5_spread_6 bi_16 ?_
      refine r_icmp_ge (tgt := 104) C dX5_spread_8 rfl (fun q => ?_) (fun q => ?_)
      · have h := h.1 q
        refine r_sub [] rfl ?_
        exact hK104 _ h
      · have h := h.2 q
        refine r_iload_n C dX5_spread_11 rfl 3 rfl ?_
        refine r_iload C dX5_spread_12 5 rfl ?_
        refine r_ishr C dX5_spread_14 ?_
        refine r_iconst C dX5_spread_15 ic_1 ?_
        refine r_iand C dX5_spread_16 ?_
        refine r_iconst C dX5_spread_17 ic_1 ?_
        refine r_icmp_ne (tgt := 98) C dX5_spread_18 rfl (fun q => ?_) (fun q => ?_)
        · have h := h.1 q
          exact j98 _ _ _ _ _ _ ih hK104 _ h
        · have h := h.2 q
          refine r_iload_n C dX5_spread_21 rfl 2 rfl ?_
          refine r_bipush C dX5_spread_22 bi_16 ?_
          refine r_imul C dX5_spread_24 ?_
          refine r_iload C dX5_spread_25 5 rfl ?_
          refine r_iadd C dX5_spread_27 ?_
          refine r_istore C dX5_spread_28 (Nat.le_of_ble_eq_true rfl) rfl ?_
          refine r_aload_n C dX5_spread_30 rfl 1 rfl ?_
          refine gf_5_46 C dX5_spread_31 (cn_5 hS) ?_
          refine r_aload_n C dX5_spread_34 rfl 2 rfl ?_
          refine gf_5_188 C dX5_spread_35 (cn_2 hP) ?_
          refine r_iload C dX5_spread_38 0 rfl ?_
          refine r_aload_n C dX5_spread_40 rfl 1 rfl ?_
          refine gf_5_46 C dX5_spread_41 (cn_5 hS) ?_
          refine gf_5_156 C dX5_spread_44 (cn_3 hS) ?_
          refine r_iload C dX5_spread_47 5 rfl ?_
          obtain ⟨h0, h⟩ := h
          refine r_iaload C dX5_spread_49 ak_34 (cn_34 hS) al_34 h0 ?_
          refine r_aload_n C dX5_spread_50 rfl 1 rfl ?_
          refine gf_5_46 C dX5_spread_51 (cn_5 hS) ?_
          refine gf_5_162 C dX5_spread_54 (cn_3 hS) ?_
          refine r_iload C dX5_spread_57 5 rfl ?_
          obtain ⟨h0, h⟩ := h
          refine r_iaload C dX5_spread_59 ak_35 (cn_35 hS) al_35 h0 ?_
          refine r_aload_n C dX5_spread_60 rfl 1 rfl ?_
          refine gf_5_46 C dX5_spread_61 (cn_5 hS) ?_
          refine gf_5_163 C dX5_spread_64 (cn_3 hS) ?_
          refine r_iload C dX5_spread_67 5 rfl ?_
          obtain ⟨h0, h⟩ := h
          refine r_iaload C dX5_spread_69 ak_36 (cn_36 hS) al_36 h0 ?_
          refine r_callVi [] C dX5_spread_70 w_5_191 (ok_X3_admits l g S hS _ _ _ _ _ _ _ h) (Nat.le_of_ble_eq_true rfl) rfl rfl ak_3 (cn_3 hS) rfl rfl (Nat.le_of_ble_eq_true rfl) (fun r2 σ1 h => ?_)
          refine r_istore C dX5_spread_73 (Nat.le_of_ble_eq_true rfl) rfl ?_
          refine r_aload_n C dX5_spread_75 rfl 2 rfl ?_
          refine gf_5_19 C dX5_spread_76 (cn_5 hS) ?_
          refine r_iload_n C dX5_spread_79 rfl 4 rfl ?_
          refine r_iconst C dX5_spread_80 ic_3 ?_
          refine r_imul C dX5_spread_81 ?_
          refine r_iconst C dX5_spread_82 ic_0 ?_
          refine r_iadd C dX5_spread_83 ?_
          refine r_dup2 C dX5_spread_84 rfl rfl ?_
          obtain ⟨h0, h⟩ := h
          refine r_iaload C dX5_spread_85 ak_39 (cn_39 hS) al_39 h0 ?_
          refine r_iload C dX5_spread_86 0 rfl ?_
          refine r_if_eq (tgt := 95) C dX5_spread_88 rfl (fun q => ?_) (fun q => ?_)
          · have h := h.1 q
            refine r_iconst C dX5_spread_95 ic_1 ?_
            refine r_sub [2, 3, 4, 5, 6, 7] rfl ?_
            exact j96 _ _ _ _ _ _ _ _ _ ih hK104 _ h
          · have h := h.2 q
            refine r_iconst C dX5_spread_91 ic_0 ?_
            refine r_goto (tgt := 96) C dX5_spread_92 rfl ?_
            refine r_sub [2, 3, 4, 5, 6, 7] rfl ?_
            exact j96 _ _ _ _ _ _ _ _ _ ih hK104 _ h
  unfold S_X5_spread at h
  show G g p l e R s m args below meth c (QV Q) 8 0 [(0, .ref (gad g 5 S)), (1, .ref (gad g 2 P)), (2, .int x2), (3, .int x3), (4, .int x4)] [] σ
  refine r_bipush C dX5_spread_0 bi_6 ?_
  refine r_istore C dX5_spread_2 (Nat.le_of_ble_eq_true rfl) rfl ?_
  refine r_sub [1, 2, 3, 4, 5, 0] rfl ?_
  obtain ⟨n4, h⟩ := h
  refine l4 _ _ _ _ (fun σ5 h => ?_) n4 _ _ h
  exact r_return C dX5_spread_104 ⟨rfl, h⟩
def S_X5_paysCredit (S : Nat) (P : Nat) (x2 : Int32) (x3 : Int32) (σ : Hp) (Q : Int32 → Hp → Prop) : Prop :=
  vp_in x3 8 ∧ vp_in x3 8 ∧ vp_in ((x2 * 8) + x3) 16 ∧ ((((gI σ 27 P (ix x3)) * (gI σ 26 P (ix x3))) ≤ (gI σ 45 S (ix ((x2 * 8) + x3))) → vp_in ((x2 * 8) + x3) 16 ∧ vp_in ((x2 * 8) + x3) 16 ∧ ∀ σ1, σ1 = sI σ 45 S (ix ((x2 * 8) + x3)) ((gI σ 45 S (ix ((x2 * 8) + x3))) - ((gI σ 27 P (ix x3)) * (gI σ 26 P (ix x3)))) → Q 1 σ1) ∧ (¬ ((gI σ 27 P (ix x3)) * (gI σ 26 P (ix x3))) ≤ (gI σ 45 S (ix ((x2 * 8) + x3))) → Q 0 σ))
set_option maxHeartbeats 2000000 in
set_option maxRecDepth 20000 in
theorem ok_X5_paysCredit (l : Launch) (g : Gm) (S : Nat) (P : Nat) (hS : S < 3) (hP : P < 2) (x2 : Int32) (x3 : Int32) (σ : Hp) (Q : Int32 → Hp → Prop) (h : S_X5_paysCredit S P x2 x3 σ Q) : Ct l g yX5_paysCredit cX5_paysCredit 5 (some .boolean) 0 [.ref (gad g 5 S), .ref (gad g 2 P), .int x2, .int x3] σ (QI Q) := by
  refine Ct.of (by decide +kernel) (Nat.le_of_ble_eq_true rfl) ?_
  intro p e R s m args below meth c C
  have C : Cx g p R s m args meth c cX5_paysCredit 5 RX5 (some .boolean) 0 := C
  unfold S_X5_paysCredit at h
  show G g p l e R s m args below meth c (QI Q) 5 0 [(0, .ref (gad g 5 S)), (1, .ref (gad g 2 P)), (2, .int x2), (3, .int x3)] [] σ
  refine r_aload_n C dX5_paysCredit_0 rfl 1 rfl ?_
  refine gf_5_132 C dX5_paysCredit_1 (cn_2 hP) ?_
  refine r_iload_n C dX5_paysCredit_4 rfl 3 rfl ?_
  obtain ⟨h0, h⟩ := h
  refine r_iaload C dX5_paysCredit_5 ak_27 (cn_27 hP) al_27 h0 ?_
  refine r_aload_n C dX5_paysCredit_6 rfl 1 rfl ?_
  refine gf_5_185 C dX5_paysCredit_7 (cn_2 hP) ?_
  refine r_iload_n C dX5_paysCredit_10 rfl 3 rfl ?_
  obtain ⟨h0, h⟩ := h
  refine r_iaload C dX5_paysCredit_11 ak_26 (cn_26 hP) al_26 h0 ?_
  refine r_imul C dX5_paysCredit_12 ?_
  refine r_istore C dX5_paysCredit_13 (Nat.le_of_ble_eq_true rfl) rfl ?_
  refine r_iload C dX5_paysCredit_15 0 rfl ?_
  refine r_aload_n C dX5_paysCredit_17 rfl 1 rfl ?_
  refine gf_5_37 C dX5_paysCredit_18 (cn_5 hS) ?_
  refine r_iload_n C dX5_paysCredit_21 rfl 3 rfl ?_
  refine r_bipush C dX5_paysCredit_22 bi_8 ?_
  refine r_imul C dX5_paysCredit_24 ?_
  refine r_iload_n C dX5_paysCredit_25 rfl 4 rfl ?_
  refine r_iadd C dX5_paysCredit_26 ?_
  obtain ⟨h0, h⟩ := h
  refine r_iaload C dX5_paysCredit_27 ak_45 (cn_45 hS) al_45 h0 ?_
  refine r_icmp_le (tgt := 33) C dX5_paysCredit_28 rfl (fun q => ?_) (fun q => ?_)
  · have h := h.1 q
    refine r_aload_n C dX5_paysCredit_33 rfl 1 rfl ?_
    refine gf_5_37 C dX5_paysCredit_34 (cn_5 hS) ?_
    refine r_iload_n C dX5_paysCredit_37 rfl 3 rfl ?_
    refine r_bipush C dX5_paysCredit_38 bi_8 ?_
    refine r_imul C dX5_paysCredit_40 ?_
    refine r_iload_n C dX5_paysCredit_41 rfl 4 rfl ?_
    refine r_iadd C dX5_paysCredit_42 ?_
    refine r_dup2 C dX5_paysCredit_43 rfl rfl ?_
    obtain ⟨h0, h⟩ := h
    refine r_iaload C dX5_paysCredit_44 ak_45 (cn_45 hS) al_45 h0 ?_
    refine r_iload C dX5_paysCredit_45 0 rfl ?_
    refine r_isub C dX5_paysCredit_47 ?_
    obtain ⟨h0, h⟩ := h
    refine r_iastore C dX5_paysCredit_48 ak_45 (cn_45 hS) al_45 h0 ?_
    have h := h _ rfl
    refine r_iconst C dX5_paysCredit_49 ic_1 ?_
    exact r_zreturn C dX5_paysCredit_50 zb1.1 ⟨_, rfl, h⟩
  · have h := h.2 q
    refine r_iconst C dX5_paysCredit_31 ic_0 ?_
    exact r_zreturn C dX5_paysCredit_32 zb0.1 ⟨_, rfl, h⟩
def J_X5_arriveAtSwitch_106 (Q : Hp → Prop) (S : Nat) (P : Nat) (y3 : Int32) (y4 : Int32) (y5 : Int32) (y6 : Int32) (σ : Hp) : Prop :=
  vp_in ((y6 * 16) + y5) 128 ∧ S_X5_spread S P y4 (gI σ 50 P (ix ((y6 * 16) + y5))) y3 σ (fun σ1 => Q σ1)
def S_X5_arriveAtSwitch (S : Nat) (P : Nat) (x2 : Int32) (x3 : Int32) (σ : Hp) (Q : Hp → Prop) : Prop :=
  vp_in x3 384 ∧ vp_in (x2 / 16) 2 ∧ ((¬ (gI σ 38 S (ix (x2 / 16))) = 1 → (((6 : Int32) ≤ (jrem x2 16) → J_X5_arriveAtSwitch_106 Q S P x3 (x2 / 16) (jrem x2 16) (gI σ 34 S (ix x3)) σ) ∧ (¬ (6 : Int32) ≤ (jrem x2 16) → S_X5_paysCredit S P (x2 / 16) (gI σ 34 S (ix x3)) σ (fun r3 σ2 => ((¬ r3 = 0 → J_X5_arriveAtSwitch_106 Q S P x3 (x2 / 16) (jrem x2 16) (gI σ 34 S (ix x3)) σ2) ∧ (r3 = 0 → vp_in (((x2 / 16) * 3) + 2) 6 ∧ vp_in (((x2 / 16) * 3) + 2) 6 ∧ ∀ σ4, σ4 = sI σ2 39 S (ix (((x2 / 16) * 3) + 2)) ((gI σ2 39 S (ix (((x2 / 16) * 3) + 2))) + 1) → vp_in (((x2 / 16) * 8) + (gI σ 34 S (ix x3))) 16 ∧ vp_in (((x2 / 16) * 8) + (gI σ 34 S (ix x3))) 16 ∧ ∀ σ5, σ5 = sI σ4 46 S (ix (((x2 / 16) * 8) + (gI σ 34 S (ix x3)))) ((gI σ4 46 S (ix (((x2 / 16) * 8) + (gI σ 34 S (ix x3))))) + 1) → Q σ5)))))) ∧ ((gI σ 38 S (ix (x2 / 16))) = 1 → vp_in (((x2 / 16) * 3) + 1) 6 ∧ vp_in (((x2 / 16) * 3) + 1) 6 ∧ ∀ σ6, σ6 = sI σ 39 S (ix (((x2 / 16) * 3) + 1)) ((gI σ 39 S (ix (((x2 / 16) * 3) + 1))) + 1) → Q σ6))
set_option maxHeartbeats 2000000 in
set_option maxRecDepth 20000 in
theorem ok_X5_arriveAtSwitch (l : Launch) (g : Gm) (S : Nat) (P : Nat) (hS : S < 3) (hP : P < 2) (x2 : Int32) (x3 : Int32) (σ : Hp) (Q : Hp → Prop) (h : S_X5_arriveAtSwitch S P x2 x3 σ Q) : Ct l g yX5_arriveAtSwitch cX5_arriveAtSwitch 7 none 3 [.ref (gad g 5 S), .ref (gad g 2 P), .int x2, .int x3] σ (QV Q) := by
  refine Ct.of (by decide +kernel) (Nat.le_of_ble_eq_true rfl) ?_
  intro p e R s m args below meth c C
  have C : Cx g p R s m args meth c cX5_arriveAtSwitch 7 RX5 none 3 := C
  have j106 : ∀ (y3 : Int32) (y4 : Int32) (y5 : Int32) (y6 : Int32) (σ : Hp), J_X5_arriveAtSwitch_106 Q S P y3 y4 y5 y6 σ → G g p l e R s m args below meth c (QV Q) 7 106 [(0, .ref (gad g 5 S)), (1, .ref (gad g 2 P)), (3, .int y3), (4, .int y4), (5, .int y5), (6, .int y6)] [] σ := by
    intro y3 y4 y5 y6 σ h
    unfold J_X5_arriveAtSwitch_106 at h
    refine r_aload_n C dX5_arriveAtSwitch_106 rfl 0 rfl ?_
    refine r_aload_n C dX5_arriveAtSwitch_107 rfl 1 rfl ?_
    refine r_iload C dX5_arriveAtSwitch_108 3 rfl ?_
    refine r_aload_n C dX5_arriveAtSwitch_110 rfl 1 rfl ?_
    refine gf_5_172 C dX5_arriveAtSwitch_111 (cn_2 hP) ?_
    refine gf_5_176 C dX5_arriveAtSwitch_114 (cn_6 hP) ?_
    refine r_iload C dX5_arriveAtSwitch_117 5 rfl ?_
    refine r_bipush C dX5_arriveAtSwitch_119 bi_16 ?_
    refine r_imul C dX5_arriveAtSwitch_121 ?_
    refine r_iload C dX5_arriveAtSwitch_122 4 rfl ?_
    refine r_iadd C dX5_arriveAtSwitch_124 ?_
    obtain ⟨h0, h⟩ := h
    refine r_iaload C dX5_arriveAtSwitch_125 ak_50 (cn_50 hP) al_50 h0 ?_
    refine r_iload_n C dX5_arriveAtSwitch_126 rfl 2 rfl ?_
    refine r_callVv [] C dX5_arriveAtSwitch_127 w_5_181 (ok_X5_spread l g S P hS hP _ _ _ _ _ h) (Nat.le_of_ble_eq_true rfl) rfl rfl ak_5 (cn_5 hS) rfl rfl (Nat.le_of_ble_eq_true rfl) (fun σ1 h => ?_)
    exact r_return C dX5_arriveAtSwitch_130 ⟨rfl, h⟩
  unfold S_X5_arriveAtSwitch at h
  show G g p l e R s m args below meth c (QV Q) 7 0 [(0, .ref (gad g 5 S)), (1, .ref (gad g 2 P)), (2, .int x2), (3, .int x3)] [] σ
  refine r_iload_n C dX5_arriveAtSwitch_0 rfl 2 rfl ?_
  refine r_bipush C dX5_arriveAtSwitch_1 bi_16 ?_
  refine r_idiv C dX5_arriveAtSwitch_3 (by decide) ?_
  refine r_istore C dX5_arriveAtSwitch_4 (Nat.le_of_ble_eq_true rfl) rfl ?_
  refine r_iload_n C dX5_arriveAtSwitch_6 rfl 3 rfl ?_
  refine r_bipush C dX5_arriveAtSwitch_7 bi_16 ?_
  refine r_irem C dX5_arriveAtSwitch_9 (by decide) ?_
  refine r_istore C dX5_arriveAtSwitch_10 (Nat.le_of_ble_eq_true rfl) rfl ?_
  refine r_aload_n C dX5_arriveAtSwitch_12 rfl 2 rfl ?_
  refine gf_5_46 C dX5_arriveAtSwitch_13 (cn_5 hS) ?_
  refine gf_5_156 C dX5_arriveAtSwitch_16 (cn_3 hS) ?_
  refine r_iload_n C dX5_arriveAtSwitch_19 rfl 5 rfl ?_
  obtain ⟨h0, h⟩ := h
  refine r_iaload C dX5_arriveAtSwitch_20 ak_34 (cn_34 hS) al_34 h0 ?_
  refine r_istore C dX5_arriveAtSwitch_21 (Nat.le_of_ble_eq_true rfl) rfl ?_
  refine r_aload_n C dX5_arriveAtSwitch_23 rfl 3 rfl ?_
  refine gf_5_15 C dX5_arriveAtSwitch_24 (cn_5 hS) ?_
  refine r_iload C dX5_arriveAtSwitch_27 2 rfl ?_
  obtain ⟨h0, h⟩ := h
  refine r_iaload C dX5_arriveAtSwitch_29 ak_38 (cn_38 hS) al_38 h0 ?_
  refine r_iconst C dX5_arriveAtSwitch_30 ic_1 ?_
  refine r_icmp_ne (tgt := 52) C dX5_arriveAtSwitch_31 rfl (fun q => ?_) (fun q => ?_)
  · have h := h.1 q
    refine r_iload C dX5_arriveAtSwitch_52 1 rfl ?_
    refine r_bipush C dX5_arriveAtSwitch_54 bi_6 ?_
    refine r_icmp_ge (tgt := 106) C dX5_arriveAtSwitch_56 rfl (fun q => ?_) (fun q => ?_)
    · have h := h.1 q
      refine r_sub [3, 4, 6, 2, 1, 0] rfl ?_
      exact j106 _ _ _ _ _ h
    · have h := h.2 q
      refine r_aload_n C dX5_arriveAtSwitch_59 rfl 3 rfl ?_
      refine r_aload_n C dX5_arriveAtSwitch_60 rfl 4 rfl ?_
      refine r_iload C dX5_arriveAtSwitch_61 2 rfl ?_
      refine r_iload C dX5_arriveAtSwitch_63 0 rfl ?_
      refine r_callVi [] C dX5_arriveAtSwitch_65 w_5_168 (ok_X5_paysCredit l g S P hS hP _ _ _ _ h) (Nat.le_of_ble_eq_true rfl) rfl rfl ak_5 (cn_5 hS) rfl rfl (Nat.le_of_ble_eq_true rfl) (fun r3 σ2 h => ?_)
      refine r_if_ne (tgt := 106) C dX5_arriveAtSwitch_68 rfl (fun q => ?_) (fun q => ?_)
      · have h := h.1 q
        refine r_sub [3, 4, 6, 2, 1, 0] rfl ?_
        exact j106 _ _ _ _ _ h
      · have h := h.2 q
        refine r_aload_n C dX5_arriveAtSwitch_71 rfl 3 rfl ?_
        refine gf_5_19 C dX5_arriveAtSwitch_72 (cn_5 hS) ?_
        refine r_iload C dX5_arriveAtSwitch_75 2 rfl ?_
        refine r_iconst C dX5_arriveAtSwitch_77 ic_3 ?_
        refine r_imul C dX5_arriveAtSwitch_78 ?_
        refine r_iconst C dX5_arriveAtSwitch_79 ic_2 ?_
        refine r_iadd C dX5_arriveAtSwitch_80 ?_
        refine r_dup2 C dX5_arriveAtSwitch_81 rfl rfl ?_
        obtain ⟨h0, h⟩ := h
        refine r_iaload C dX5_arriveAtSwitch_82 ak_39 (cn_39 hS) al_39 h0 ?_
        refine r_iconst C dX5_arriveAtSwitch_83 ic_1 ?_
        refine r_iadd C dX5_arriveAtSwitch_84 ?_
        obtain ⟨h0, h⟩ := h
        refine r_iastore C dX5_arriveAtSwitch_85 ak_39 (cn_39 hS) al_39 h0 ?_
        have h := h _ rfl
        refine r_aload_n C dX5_arriveAtSwitch_86 rfl 3 rfl ?_
        refine gf_5_40 C dX5_arriveAtSwitch_87 (cn_5 hS) ?_
        refine r_iload C dX5_arriveAtSwitch_90 2 rfl ?_
        refine r_bipush C dX5_arriveAtSwitch_92 bi_8 ?_
        refine r_imul C dX5_arriveAtSwitch_94 ?_
        refine r_iload C dX5_arriveAtSwitch_95 0 rfl ?_
        refine r_iadd C dX5_arriveAtSwitch_97 ?_
        refine r_dup2 C dX5_arriveAtSwitch_98 rfl rfl ?_
        obtain ⟨h0, h⟩ := h
        refine r_iaload C dX5_arriveAtSwitch_99 ak_46 (cn_46 hS) al_46 h0 ?_
        refine r_iconst C dX5_arriveAtSwitch_100 ic_1 ?_
        refine r_iadd C dX5_arriveAtSwitch_101 ?_
        obtain ⟨h0, h⟩ := h
        refine r_iastore C dX5_arriveAtSwitch_102 ak_46 (cn_46 hS) al_46 h0 ?_
        have h := h _ rfl
        refine r_goto (tgt := 130) C dX5_arriveAtSwitch_103 rfl ?_
        exact r_return C dX5_arriveAtSwitch_130 ⟨rfl, h⟩
  · have h := h.2 q
    refine r_aload_n C dX5_arriveAtSwitch_34 rfl 3 rfl ?_
    refine gf_5_19 C dX5_arriveAtSwitch_35 (cn_5 hS) ?_
    refine r_iload C dX5_arriveAtSwitch_38 2 rfl ?_
    refine r_iconst C dX5_arriveAtSwitch_40 ic_3 ?_
    refine r_imul C dX5_arriveAtSwitch_41 ?_
    refine r_iconst C dX5_arriveAtSwitch_42 ic_1 ?_
    refine r_iadd C dX5_arriveAtSwitch_43 ?_
    refine r_dup2 C dX5_arriveAtSwitch_44 rfl rfl ?_
    obtain ⟨h0, h⟩ := h
    refine r_iaload C dX5_arriveAtSwitch_45 ak_39 (cn_39 hS) al_39 h0 ?_
    refine r_iconst C dX5_arriveAtSwitch_46 ic_1 ?_
    refine r_iadd C dX5_arriveAtSwitch_47 ?_
    obtain ⟨h0, h⟩ := h
    refine r_iastore C dX5_arriveAtSwitch_48 ak_39 (cn_39 hS) al_39 h0 ?_
    have h := h _ rfl
    refine r_goto (tgt := 130) C dX5_arriveAtSwitch_49 rfl ?_
    exact r_return C dX5_arriveAtSwitch_130 ⟨rfl, h⟩
