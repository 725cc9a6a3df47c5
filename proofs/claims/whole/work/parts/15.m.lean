def J_X8_goesTick_87 (Q : Hp → Prop) (kb : Int32 → Hp → Prop) (K94 : Hp → Prop) (y1 : Int32) (y2 : Int32) (z0 : Int32) (z1 : Int32) (σ : Hp) : Prop :=
  vp_in z1 1809 ∧ ∀ σ8, σ8 = sI σ 61 0 (ix z1) z0 → kb (y2 + 1) σ8
def L_X8_goesTick_25 (Q : Hp → Prop) (K94 : Hp → Prop) (y1 : Int32) : Nat → Int32 → Hp → Prop
  | 0, _, _ => False
  | n + 1, y2, σ =>
  (((2 : Int32) ≤ y2 → K94 σ) ∧ (¬ (2 : Int32) ≤ y2 → vp_in ((41 + (8 * y2)) + y1) 1809 ∧ S_X8_linkOf y1 2 σ (fun r3 σ2 => S_X8_mostCredit y1 σ2 (fun r5 σ4 => ((((gI σ 61 0 (ix ((41 + (8 * y2)) + y1))) + r3) ≤ r5 → vp_in ((41 + (8 * y2)) + y1) 1809 ∧ S_X8_linkOf y1 2 σ4 (fun r7 σ6 => J_X8_goesTick_87 Q (L_X8_goesTick_25 Q K94 y1 n) K94 y1 y2 ((gI σ4 61 0 (ix ((41 + (8 * y2)) + y1))) + r7) ((41 + (8 * y2)) + y1) σ6)) ∧ (¬ ((gI σ 61 0 (ix ((41 + (8 * y2)) + y1))) + r3) ≤ r5 → S_X8_mostCredit y1 σ4 (fun r10 σ9 => J_X8_goesTick_87 Q (L_X8_goesTick_25 Q K94 y1 n) K94 y1 y2 r10 ((41 + (8 * y2)) + y1) σ9)))))))
def L_X8_goesTick_12 (Q : Hp → Prop) (K100 : Hp → Prop) : Nat → Int32 → Hp → Prop
  | 0, _, _ => False
  | n + 1, y1, σ =>
  vp_in 6 7 ∧ (((gI σ 53 0 (ix 6)) ≤ y1 → K100 σ) ∧ (¬ (gI σ 53 0 (ix 6)) ≤ y1 → (∃ n11, L_X8_goesTick_25 Q (fun σ12 => L_X8_goesTick_12 Q K100 n (y1 + 1) σ12) y1 n11 0 σ)))
def J_X8_goesTick_143 (Q : Hp → Prop) (kb : Int32 → Hp → Prop) (K149 : Hp → Prop) (y1 : Int32) (σ : Hp) : Prop :=
  kb (y1 + 1) σ
def L_X8_goesTick_102 (Q : Hp → Prop) (K149 : Hp → Prop) : Nat → Int32 → Hp → Prop
  | 0, _, _ => False
  | n + 1, y1, σ =>
  (((32 : Int32) ≤ y1 → K149 σ) ∧ (¬ (32 : Int32) ≤ y1 → vp_in ((81 + (39 * y1)) + 1) 1809 ∧ vp_in 0 1809 ∧ ((¬ (gI σ 61 0 (ix ((81 + (39 * y1)) + 1))) = (gI σ 61 0 (ix 0)) → J_X8_goesTick_143 Q (L_X8_goesTick_102 Q K149 n) K149 y1 σ) ∧ ((gI σ 61 0 (ix ((81 + (39 * y1)) + 1))) = (gI σ 61 0 (ix 0)) → S_X8_leaves (y1 / 16) (jrem y1 16) σ (fun σ15 => J_X8_goesTick_143 Q (L_X8_goesTick_102 Q K149 n) K149 y1 σ15)))))
def J_X8_goesTick_237 (Q : Hp → Prop) (kb : Int32 → Hp → Prop) (K243 : Hp → Prop) (y1 : Int32) (σ : Hp) : Prop :=
  kb (y1 + 1) σ
def L_X8_goesTick_151 (Q : Hp → Prop) (K243 : Hp → Prop) : Nat → Int32 → Hp → Prop
  | 0, _, _ => False
  | n + 1, y1, σ =>
  vp_in 6 7 ∧ (((gI σ 53 0 (ix 6)) ≤ y1 → K243 σ) ∧ (¬ (gI σ 53 0 (ix 6)) ≤ y1 → S_X8_linkAt y1 0 σ (fun r19 σ18 => vp_in r19 1809 ∧ (((gI σ18 61 0 (ix r19)) ≤ 0 → J_X8_goesTick_237 Q (L_X8_goesTick_151 Q K243 n) K243 y1 σ18) ∧ (¬ (gI σ18 61 0 (ix r19)) ≤ 0 → S_X8_linkAt y1 1 σ18 (fun r21 σ20 => vp_in r21 1809 ∧ vp_in 0 1809 ∧ (((gI σ20 61 0 (ix 0)) < (gI σ20 61 0 (ix r21)) → J_X8_goesTick_237 Q (L_X8_goesTick_151 Q K243 n) K243 y1 σ20) ∧ (¬ (gI σ20 61 0 (ix 0)) < (gI σ20 61 0 (ix r21)) → S_X8_linkAt y1 0 σ20 (fun r23 σ22 => vp_in r23 1809 ∧ vp_in r23 1809 ∧ ∀ σ24, σ24 = sI σ22 61 0 (ix r23) ((gI σ22 61 0 (ix r23)) - 1) → S_X8_linkAt y1 1 σ24 (fun r26 σ25 => vp_in 0 1809 ∧ S_X8_linkOf y1 1 σ25 (fun r28 σ27 => vp_in r26 1809 ∧ ∀ σ29, σ29 = sI σ27 61 0 (ix r26) ((gI σ25 61 0 (ix 0)) + r28) → S_X8_isBorn y1 σ29 (fun r31 σ30 => J_X8_goesTick_237 Q (L_X8_goesTick_151 Q K243 n) K243 y1 σ30))))))))))))
def J_X8_goesTick_316 (Q : Hp → Prop) (kb : Int32 → Hp → Prop) (K323 : Hp → Prop) (y1 : Int32) (z0 : Int32) (z1 : Int32) (σ : Hp) : Prop :=
  vp_in z1 1809 ∧ ∀ σ35, σ35 = sI σ 61 0 (ix z1) z0 → kb (y1 + 1) σ35
def L_X8_goesTick_245 (Q : Hp → Prop) (K323 : Hp → Prop) : Nat → Int32 → Hp → Prop
  | 0, _, _ => False
  | n + 1, y1, σ =>
  (((32 : Int32) ≤ y1 → K323 σ) ∧ (¬ (32 : Int32) ≤ y1 → S_X8_sends (y1 / 16) (jrem y1 16) σ (fun σ34 => vp_in ((81 + (39 * y1)) + 0) 1809 ∧ vp_in ((81 + (39 * y1)) + 2) 1809 ∧ (((gI σ34 61 0 (ix ((81 + (39 * y1)) + 0))) ≤ (gI σ34 61 0 (ix ((81 + (39 * y1)) + 2))) → vp_in ((81 + (39 * y1)) + 2) 1809 ∧ J_X8_goesTick_316 Q (L_X8_goesTick_245 Q K323 n) K323 y1 (gI σ34 61 0 (ix ((81 + (39 * y1)) + 2))) ((81 + (39 * y1)) + 2) σ34) ∧ (¬ (gI σ34 61 0 (ix ((81 + (39 * y1)) + 0))) ≤ (gI σ34 61 0 (ix ((81 + (39 * y1)) + 2))) → vp_in ((81 + (39 * y1)) + 0) 1809 ∧ J_X8_goesTick_316 Q (L_X8_goesTick_245 Q K323 n) K323 y1 (gI σ34 61 0 (ix ((81 + (39 * y1)) + 0))) ((81 + (39 * y1)) + 2) σ34)))))
def S_X8_goesTick (σ : Hp) (Q : Hp → Prop) : Prop :=
  vp_in 0 1809 ∧ vp_in 0 1809 ∧ ∀ σ1, σ1 = sI σ 61 0 (ix 0) ((gI σ 61 0 (ix 0)) + 1) → (∃ n13, L_X8_goesTick_12 Q (fun σ14 => (∃ n16, L_X8_goesTick_102 Q (fun σ17 => (∃ n32, L_X8_goesTick_151 Q (fun σ33 => (∃ n36, L_X8_goesTick_245 Q (fun σ37 => Q σ37) n36 0 σ33)) n32 0 σ17)) n16 0 σ14)) n13 0 σ1)
set_option maxHeartbeats 2000000 in
set_option maxRecDepth 20000 in
theorem ok_X8_goesTick (l : Launch) (g : Gm) (σ : Hp) (Q : Hp → Prop) (h : S_X8_goesTick σ Q) : Ct l g yX8_goesTick cX8_goesTick 4 none 5 [.ref (gad g 8 0)] σ (QV Q) := by
  refine Ct.of (by decide +kernel) (Nat.le_of_ble_eq_true rfl) ?_
  intro p e R s m args below meth c C
  have C : Cx g p R s m args meth c cX8_goesTick 4 RX8 none 5 := C
  have j87 : ∀ (kb : Int32 → Hp → Prop) (K94 : Hp → Prop) (y1 : Int32) (y2 : Int32) (z0 : Int32) (z1 : Int32) (hkb : ∀ (v2 : Int32) (σ : Hp), kb v2 σ → G g p l e R s m args below meth c (QV Q) 4 25 [(0, .ref (gad g 8 0)), (1, .int y1), (2, .int v2)] [] σ) (hK94 : ∀ (σ : Hp), K94 σ → G g p l e R s m args below meth c (QV Q) 4 94 [(0, .ref (gad g 8 0)), (1, .int y1)] [] σ) (σ : Hp), J_X8_goesTick_87 Q kb K94 y1 y2 z0 z1 σ → G g p l e R s m args below meth c (QV Q) 4 87 [(0, .ref (gad g 8 0)), (1, .int y1), (2, .int y2)] [.int z0, .int z1, .ref (gad g 61 0)] σ := by
    intro kb K94 y1 y2 z0 z1 hkb hK94 σ h
    unfold J_X8_goesTick_87 at h
    obtain ⟨h0, h⟩ := h
    refine r_iastore C dX8_goesTick_87 ak_61 (cn_61 (by decide)) al_61 h0 ?_
    have h := h _ rfl
    refine r_iinc (v := y2 + 1) C dX8_goesTick_88 2 rfl rfl (Nat.le_of_ble_eq_true rfl) rfl ?_
    refine r_goto (tgt := 25) C dX8_goesTick_91 rfl ?_
    refine r_sub [1, 2, 0] rfl ?_
    exact hkb _ _ h
  have l25 : ∀ (K94 : Hp → Prop) (y1 : Int32) (hK94 : ∀ (σ : Hp), K94 σ → G g p l e R s m args below meth c (QV Q) 4 94 [(0, .ref (gad g 8 0)), (1, .int y1)] [] σ) (n : Nat) (y2 : Int32) (σ : Hp), L_X8_goesTick_25 Q K94 y1 n y2 σ → G g p l e R s m args below meth c (QV Q) 4 25 [(0, .ref (gad g 8 0)), (1, .int y1), (2, .int y2)] [] σ := by
    intro K94 y1 hK94 n
    induction n with
    | zero => intro y2 σ h; exact False.elim h
    | succ n ih =>
      intro y2 σ h
      unfold L_X8_goesTick_25 at h
      refine r_iload_n C dX8_goesTick_25 rfl 2 rfl ?_
      refine r_iconst C dX8_goesTick_26 ic_2 ?_
      refine r_icmp_ge (tgt := 94) C dX8_goesTick_27 rfl (fun q => ?_) (fun q => ?_)
      · have h := h.1 q
        refine r_sub [0, 1] rfl ?_
        exact hK94 _ h
      · have h := h.2 q
        refine r_bipush C dX8_goesTick_30 bi_41 ?_
        refine r_bipush C dX8_goesTick_32 bi_8 ?_
        refine r_iload_n C dX8_goesTick_34 rfl 2 rfl ?_
        refine r_imul C dX8_goesTick_35 ?_
        refine r_iadd C dX8_goesTick_36 ?_
        refine r_iload_n C dX8_goesTick_37 rfl 1 rfl ?_
        refine r_iadd C dX8_goesTick_38 ?_
        refine r_istore_n C dX8_goesTick_39 rfl (Nat.le_of_ble_eq_true rfl) rfl ?_
        refine r_aload_n C dX8_goesTick_40 rfl 1 rfl ?_
        refine gf_8_42 C dX8_goesTick_41 (cn_8 (by decide)) ?_
        refine r_iload_n C dX8_goesTick_44 rfl 0 rfl ?_
        refine r_aload_n C dX8_goesTick_45 rfl 1 rfl ?_
        refine gf_8_42 C dX8_goesTick_46 (cn_8 (by decide)) ?_
        refine r_iload_n C dX8_goesTick_49 rfl 0 rfl ?_
        obtain ⟨h0, h⟩ := h
        refine r_iaload C dX8_goesTick_50 ak_61 (cn_61 (by decide)) al_61 h0 ?_
        refine r_aload_n C dX8_goesTick_51 rfl 1 rfl ?_
        refine r_iload_n C dX8_goesTick_52 rfl 2 rfl ?_
        refine r_iconst C dX8_goesTick_53 ic_2 ?_
        refine r_callVi [.int _, .int _, .ref (gad g 61 0)] C dX8_goesTick_54 w_8_221 (ok_X8_linkOf l g _ _ _ _ h) (Nat.le_of_ble_eq_true rfl) rfl rfl ak_8 (cn_8 (by decide)) rfl rfl (Nat.le_of_ble_eq_true rfl) (fun r3 σ2 h => ?_)
        refine r_iadd C dX8_goesTick_57 ?_
        refine r_aload_n C dX8_goesTick_58 rfl 1 rfl ?_
        refine r_iload_n C dX8_goesTick_59 rfl 2 rfl ?_
        refine r_callVi [.int _, .int _, .ref (gad g 61 0)] C dX8_goesTick_60 w_8_249 (ok_X8_mostCredit l g _ _ _ h) (Nat.le_of_ble_eq_true rfl) rfl rfl ak_8 (cn_8 (by decide)) rfl rfl (Nat.le_of_ble_eq_true rfl) (fun r5 σ4 h => ?_)
        refine r_icmp_le (tgt := 74) C dX8_goesTick_63 rfl (fun q => ?_) (fun q => ?_)
        · have h := h.1 q
          refine r_aload_n C dX8_goesTick_74 rfl 1 rfl ?_
          refine gf_8_42 C dX8_goesTick_75 (cn_8 (by decide)) ?_
          refine r_iload_n C dX8_goesTick_78 rfl 0 rfl ?_
          obtain ⟨h0, h⟩ := h
          refine r_iaload C dX8_goesTick_79 ak_61 (cn_61 (by decide)) al_61 h0 ?_
          refine r_aload_n C dX8_goesTick_80 rfl 1 rfl ?_
          refine r_iload_n C dX8_goesTick_81 rfl 2 rfl ?_
          refine r_iconst C dX8_goesTick_82 ic_2 ?_
          refine r_callVi [.int _, .int _, .ref (gad g 61 0)] C dX8_goesTick_83 w_8_221 (ok_X8_linkOf l g _ _ _ _ h) (Nat.le_of_ble_eq_true rfl) rfl rfl ak_8 (cn_8 (by decide)) rfl rfl (Nat.le_of_ble_eq_true rfl) (fun r7 σ6 h => ?_)
          refine r_iadd C dX8_goesTick_86 ?_
          refine r_sub [1, 2, 3] rfl ?_
          exact j87 _ _ _ _ _ _ ih hK94 _ h
        · have h := h.2 q
          refine r_aload_n C dX8_goesTick_66 rfl 1 rfl ?_
          refine r_iload_n C dX8_goesTick_67 rfl 2 rfl ?_
          refine r_callVi [.int _, .ref (gad g 61 0)] C dX8_goesTick_68 w_8_249 (ok_X8_mostCredit l g _ _ _ h) (Nat.le_of_ble_eq_true rfl) rfl rfl ak_8 (cn_8 (by decide)) rfl rfl (Nat.le_of_ble_eq_true rfl) (fun r10 σ9 h => ?_)
          refine r_goto (tgt := 87) C dX8_goesTick_71 rfl ?_
          refine r_sub [1, 2, 3] rfl ?_
          exact j87 _ _ _ _ _ _ ih hK94 _ h
  have l12 : ∀ (K100 : Hp → Prop) (hK100 : ∀ (σ : Hp), K100 σ → G g p l e R s m args below meth c (QV Q) 4 100 [(0, .ref (gad g 8 0))] [] σ) (n : Nat) (y1 : Int32) (σ : Hp), L_X8_goesTick_12 Q K100 n y1 σ → G g p l e R s m args below meth c (QV Q) 4 12 [(0, .ref (gad g 8 0)), (1, .int y1)] [] σ := by
    intro K100 hK100 n
    induction n with
    | zero => intro y1 σ h; exact False.elim h
    | succ n ih =>
      intro y1 σ h
      unfold L_X8_goesTick_12 at h
      refine r_iload_n C dX8_goesTick_12 rfl 1 rfl ?_
      refine r_aload_n C dX8_goesTick_13 rfl 0 rfl ?_
      refine gf_8_17 C dX8_goesTick_14 (cn_8 (by decide)) ?_
      refine r_bipush C dX8_goesTick_17 bi_6 ?_
      obtain ⟨h0, h⟩ := h
      refine r_iaload C dX8_goesTick_19 ak_53 (cn_53 (by decide)) al_53 h0 ?_
      refine r_icmp_ge (tgt := 100) C dX8_goesTick_20 rfl (fun q => ?_) (fun q => ?_)
      · have h := h.1 q
        refine r_sub [0] rfl ?_
        exact hK100 _ h
      · have h := h.2 q
        refine r_iconst C dX8_goesTick_23 ic_0 ?_
        refine r_istore_n C dX8_goesTick_24 rfl (Nat.le_of_ble_eq_true rfl) rfl ?_
        refine r_sub [1, 2, 0] rfl ?_
        obtain ⟨n11, h⟩ := h
        refine l25 _ _ (fun σ12 h => ?_) n11 _ _ h
        refine r_iinc (v := y1 + 1) C dX8_goesTick_94 1 rfl rfl (Nat.le_of_ble_eq_true rfl) rfl ?_
        refine r_goto (tgt := 12) C dX8_goesTick_97 rfl ?_
        refine r_sub [1, 0] rfl ?_
        exact ih _ _ h
  have j143 : ∀ (kb : Int32 → Hp → Prop) (K149 : Hp → Prop) (y1 : Int32) (hkb : ∀ (v1 : Int32) (σ : Hp), kb v1 σ → G g p l e R s m args below meth c (QV Q) 4 102 [(0, .ref (gad g 8 0)), (1, .int v1)] [] σ) (hK149 : ∀ (σ : Hp), K149 σ → G g p l e R s m args below meth c (QV Q) 4 149 [(0, .ref (gad g 8 0))] [] σ) (σ : Hp), J_X8_goesTick_143 Q kb K149 y1 σ → G g p l e R s m args below meth c (QV Q) 4 143 [(0, .ref (gad g 8 0)), (1, .int y1)] [] σ := by
    intro kb K149 y1 hkb hK149 σ h
    unfold J_X8_goesTick_143 at h
    refine r_iinc (v := y1 + 1) C dX8_goesTick_143 1 rfl rfl (Nat.le_of_ble_eq_true rfl) rfl ?_
    refine r_goto (tgt := 102) C dX8_goesTick_146 rfl ?_
    refine r_sub [1, 0] rfl ?_
    exact hkb _ _ h
  have l102 : ∀ (K149 : Hp → Prop) (hK149 : ∀ (σ : Hp), K149 σ → G g p l e R s m args below meth c (QV Q) 4 149 [(0, .ref (gad g 8 0))] [] σ) (n : Nat) (y1 : Int32) (σ : Hp), L_X8_goesTick_102 Q K149 n y1 σ → G g p l e R s m args below meth c (QV Q) 4 102 [(0, .ref (gad g 8 0)), (1, .int y1)] [] σ := by
    intro K149 hK149 n
    induction n with
    | zero => intro y1 σ h; exact False.elim h
    | succ n ih =>
      intro y1 σ h
      unfold L_X8_goesTick_102 at h
      refine r_iload_n C dX8_goesTick_102 rfl 1 rfl ?_
      refine r_bipush C dX8_goesTick_103 bi_32 ?_
      refine r_icmp_ge (tgt := 149) C dX8_goesTick_105 rfl (fun q => ?_) (fun q => ?_)
      · have h := h.1 q
        refine r_sub [0] rfl ?_
        exact hK149 _ h
      · have h := h.2 q
        refine r_aload_n C dX8_goesTick_108 rfl 0 rfl ?_
        refine gf_8_42 C dX8_goesTick_109 (cn_8 (by decide)) ?_
        refine r_bipush C dX8_goesTick_112 bi_81 ?_
        refine r_bipush C dX8_goesTick_114 bi_39 ?_
        refine r_iload_n C dX8_goesTick_116 rfl 1 rfl ?_
        refine r_imul C dX8_goesTick_117 ?_
        refine r_iadd C dX8_goesTick_118 ?_
        refine r_iconst C dX8_goesTick_119 ic_1 ?_
        refine r_iadd C dX8_goesTick_120 ?_
        obtain ⟨h0, h⟩ := h
        refine r_iaload C dX8_goesTick_121 ak_61 (cn_61 (by decide)) al_61 h0 ?_
        refine r_aload_n C dX8_goesTick_122 rfl 0 rfl ?_
        refine gf_8_42 C dX8_goesTick_123 (cn_8 (by decide)) ?_
        refine r_iconst C dX8_goesTick_126 ic_0 ?_
        obtain ⟨h0, h⟩ := h
        refine r_iaload C dX8_goesTick_127 ak_61 (cn_61 (by decide)) al_61 h0 ?_
        refine r_icmp_ne (tgt := 143) C dX8_goesTick_128 rfl (fun q => ?_) (fun q => ?_)
        · have h := h.1 q
          exact j143 _ _ _ ih hK149 _ h
        · have h := h.2 q
          refine r_aload_n C dX8_goesTick_131 rfl 0 rfl ?_
          refine r_iload_n C dX8_goesTick_132 rfl 1 rfl ?_
          refine r_bipush C dX8_goesTick_133 bi_16 ?_
          refine r_idiv C dX8_goesTick_135 (by decide) ?_
          refine r_iload_n C dX8_goesTick_136 rfl 1 rfl ?_
          refine r_bipush C dX8_goesTick_137 bi_16 ?_
          refine r_irem C dX8_goesTick_139 (by decide) ?_
          refine r_callVv [] C dX8_goesTick_140 w_8_294 (ok_X8_leaves l g _ _ _ _ h) (Nat.le_of_ble_eq_true rfl) rfl rfl ak_8 (cn_8 (by decide)) rfl rfl (Nat.le_of_ble_eq_true rfl) (fun σ15 h => ?_)
          exact j143 _ _ _ ih hK149 _ h
  have j237 : ∀ (kb : Int32 → Hp → Prop) (K243 : Hp → Prop) (y1 : Int32) (hkb : ∀ (v1 : Int32) (σ : Hp), kb v1 σ → G g p l e R s m args below meth c (QV Q) 4 151 [(0, .ref (gad g 8 0)), (1, .int v1)] [] σ) (hK243 : ∀ (σ : Hp), K243 σ → G g p l e R s m args below meth c (QV Q) 4 243 [(0, .ref (gad g 8 0))] [] σ) (σ : Hp), J_X8_goesTick_237 Q kb K243 y1 σ → G g p l e R s m args below meth c (QV Q) 4 237 [(0, .ref (gad g 8 0)), (1, .int y1)] [] σ := by
    intro kb K243 y1 hkb hK243 σ h
    unfold J_X8_goesTick_237 at h
    refine r_iinc (v := y1 + 1) C dX8_goesTick_237 1 rfl rfl (Nat.le_of_ble_eq_true rfl) rfl ?_
    refine r_goto (tgt := 151) C dX8_goesTick_240 rfl ?_
    refine r_sub [1, 0] rfl ?_
    exact hkb _ _ h
  have l151 : ∀ (K243 : Hp → Prop) (hK243 : ∀ (σ : Hp), K243 σ → G g p l e R s m args below meth c (QV Q) 4 243 [(0, .ref (gad g 8 0))] [] σ) (n : Nat) (y1 : Int32) (σ : Hp), L_X8_goesTick_151 Q K243 n y1 σ → G g p l e R s m args below meth c (QV Q) 4 151 [(0, .ref (gad g 8 0)), (1, .int y1)] [] σ := by
    intro K243 hK243 n
    induction n with
    | zero => intro y1 σ h; exact False.elim h
    | succ n ih =>
      intro y1 σ h
      unfold L_X8_goesTick_151 at h
      refine r_iload_n C dX8_goesTick_151 rfl 1 rfl ?_
      refine r_aload_n C dX8_goesTick_152 rfl 0 rfl ?_
      refine gf_8_17 C dX8_goesTick_153 (cn_8 (by decide)) ?_
      refine r_bipush C dX8_goesTick_156 bi_6 ?_
      obtain ⟨h0, h⟩ := h
      refine r_iaload C dX8_goesTick_158 ak_53 (cn_53 (by decide)) al_53 h0 ?_
      refine r_icmp_ge (tgt := 243) C dX8_goesTick_159 rfl (fun q => ?_) (fun q => ?_)
      · have h := h.1 q
        refine r_sub [0] rfl ?_
        exact hK243 _ h
      · have h := h.2 q
        refine r_aload_n C dX8_goesTick_162 rfl 0 rfl ?_
        refine gf_8_42 C dX8_goesTick_163 (cn_8 (by decide)) ?_
        refine r_iload_n C dX8_goesTick_166 rfl 1 rfl ?_
        refine r_iconst C dX8_goesTick_167 ic_0 ?_
        refine r_callSi [.ref (gad g 61 0)] C dX8_goesTick_168 w_8_246 (ok_X8_linkAt l g _ _ _ _ h) (Nat.le_of_ble_eq_true rfl) rfl rfl (Nat.le_of_ble_eq_true rfl) (fun r19 σ18 h => ?_)
        obtain ⟨h0, h⟩ := h
        refine r_iaload C dX8_goesTick_171 ak_61 (cn_61 (by decide)) al_61 h0 ?_
        refine r_if_le (tgt := 237) C dX8_goesTick_172 rfl (fun q => ?_) (fun q => ?_)
        · have h := h.1 q
          exact j237 _ _ _ ih hK243 _ h
        · have h := h.2 q
          refine r_aload_n C dX8_goesTick_175 rfl 0 rfl ?_
          refine gf_8_42 C dX8_goesTick_176 (cn_8 (by decide)) ?_
          refine r_iload_n C dX8_goesTick_179 rfl 1 rfl ?_
          refine r_iconst C dX8_goesTick_180 ic_1 ?_
          refine r_callSi [.ref (gad g 61 0)] C dX8_goesTick_181 w_8_246 (ok_X8_linkAt l g _ _ _ _ h) (Nat.le_of_ble_eq_true rfl) rfl rfl (Nat.le_of_ble_eq_true rfl) (fun r21 σ20 h => ?_)
          obtain ⟨h0, h⟩ := h
          refine r_iaload C dX8_goesTick_184 ak_61 (cn_61 (by decide)) al_61 h0 ?_
          refine r_aload_n C dX8_goesTick_185 rfl 0 rfl ?_
          refine gf_8_42 C dX8_goesTick_186 (cn_8 (by decide)) ?_
          refine r_iconst C dX8_goesTick_189 ic_0 ?_
          obtain ⟨h0, h⟩ := h
          refine r_iaload C dX8_goesTick_190 ak_61 (cn_61 (by decide)) al_61 h0 ?_
          refine r_icmp_gt (tgt := 237) C dX8_goesTick_191 rfl (fun q => ?_) (fun q => ?_)
          · have h := h.1 q
            exact j237 _ _ _ ih hK243 _ h
          · have h := h.2 q
            refine r_aload_n C dX8_goesTick_194 rfl 0 rfl ?_
            refine gf_8_42 C dX8_goesTick_195 (cn_8 (by decide)) ?_
            refine r_iload_n C dX8_goesTick_198 rfl 1 rfl ?_
            refine r_iconst C dX8_goesTick_199 ic_0 ?_
            refine r_callSi [.ref (gad g 61 0)] C dX8_goesTick_200 w_8_246 (ok_X8_linkAt l g _ _ _ _ h) (Nat.le_of_ble_eq_true rfl) rfl rfl (Nat.le_of_ble_eq_true rfl) (fun r23 σ22 h => ?_)
            refine r_dup2 C dX8_goesTick_203 rfl rfl ?_
            obtain ⟨h0, h⟩ := h
            refine r_iaload C dX8_goesTick_204 ak_61 (cn_61 (by decide)) al_61 h0 ?_
            refine r_iconst C dX8_goesTick_205 ic_1 ?_
            refine r_isub C dX8_goesTick_206 ?_
            obtain ⟨h0, h⟩ := h
            refine r_iastore C dX8_goesTick_207 ak_61 (cn_61 (by decide)) al_61 h0 ?_
            have h := h _ rfl
            refine r_aload_n C dX8_goesTick_208 rfl 0 rfl ?_
            refine gf_8_42 C dX8_goesTick_209 (cn_8 (by decide)) ?_
            refine r_iload_n C dX8_goesTick_212 rfl 1 rfl ?_
            refine r_iconst C dX8_goesTick_213 ic_1 ?_
            refine r_callSi [.ref (gad g 61 0)] C dX8_goesTick_214 w_8_246 (ok_X8_linkAt l g _ _ _ _ h) (Nat.le_of_ble_eq_true rfl) rfl rfl (Nat.le_of_ble_eq_true rfl) (fun r26 σ25 h => ?_)
            refine r_aload_n C dX8_goesTick_217 rfl 0 rfl ?_
            refine gf_8_42 C dX8_goesTick_218 (cn_8 (by decide)) ?_
            refine r_iconst C dX8_goesTick_221 ic_0 ?_
            obtain ⟨h0, h⟩ := h
            refine r_iaload C dX8_goesTick_222 ak_61 (cn_61 (by decide)) al_61 h0 ?_
            refine r_aload_n C dX8_goesTick_223 rfl 0 rfl ?_
            refine r_iload_n C dX8_goesTick_224 rfl 1 rfl ?_
            refine r_iconst C dX8_goesTick_225 ic_1 ?_
            refine r_callVi [.int _, .int _, .ref (gad g 61 0)] C dX8_goesTick_226 w_8_221 (ok_X8_linkOf l g _ _ _ _ h) (Nat.le_of_ble_eq_true rfl) rfl rfl ak_8 (cn_8 (by decide)) rfl rfl (Nat.le_of_ble_eq_true rfl) (fun r28 σ27 h => ?_)
            refine r_iadd C dX8_goesTick_229 ?_
            obtain ⟨h0, h⟩ := h
            refine r_iastore C dX8_goesTick_230 ak_61 (cn_61 (by decide)) al_61 h0 ?_
            have h := h _ rfl
            refine r_aload_n C dX8_goesTick_231 rfl 0 rfl ?_
            refine r_iload_n C dX8_goesTick_232 rfl 1 rfl ?_
            refine r_callVi [] C dX8_goesTick_233 w_8_298 (ok_X8_isBorn l g _ _ _ h) (Nat.le_of_ble_eq_true rfl) rfl rfl ak_8 (cn_8 (by decide)) rfl rfl (Nat.le_of_ble_eq_true rfl) (fun r31 σ30 h => ?_)
            refine r_pop C dX8_goesTick_236 rfl ?_
            exact j237 _ _ _ ih hK243 _ h
  have j316 : ∀ (kb : Int32 → Hp → Prop) (K323 : Hp → Prop) (y1 : Int32) (z0 : Int32) (z1 : Int32) (hkb : ∀ (v1 : Int32) (σ : Hp), kb v1 σ → G g p l e R s m args below meth c (QV Q) 4 245 [(0, .ref (gad g 8 0)), (1, .int v1)] [] σ) (hK323 : ∀ (σ : Hp), K323 σ → G g p l e R s m args below meth c (QV Q) 4 323 [] [] σ) (σ : Hp), J_X8_goesTick_316 Q kb K323 y1 z0 z1 σ → G g p l e R s m args below meth c (QV Q) 4 316 [(0, .ref (gad g 8 0)), (1, .int y1)] [.int z0, .int z1, .ref (gad g 61 0)] σ := by
    intro kb K323 y1 z0 z1 hkb hK323 σ h
    unfold J_X8_goesTick_316 at h
    obtain ⟨h0, h⟩ := h
    refine r_iastore C dX8_goesTick_316 ak_61 (cn_61 (by decide)) al_61 h0 ?_
    have h := h _ rfl
    refine r_iinc (v := y1 + 1) C dX8_goesTick_317 1 rfl rfl (Nat.le_of_ble_eq_true rfl) rfl ?_
    refine r_goto (tgt := 245) C dX8_goesTick_320 rfl ?_
    refine r_sub [1, 0] rfl ?_
    exact hkb _ _ h
  have l245 : ∀ (K323 : Hp → Prop) (hK323 : ∀ (σ : Hp), K323 σ → G g p l e R s m args below meth c (QV Q) 4 323 [] [] σ) (n : Nat) (y1 : Int32) (σ : Hp), L_X8_goesTick_245 Q K323 n y1 σ → G g p l e R s m args below meth c (QV Q) 4 245 [(0, .ref (gad g 8 0)), (1, .int y1)] [] σ := by
    intro K323 hK323 n
    induction n with
    | zero => intro y1 σ h; exact False.elim h
    | succ n ih =>
      intro y1 σ h
      unfold L_X8_goesTick_245 at h
      refine r_iload_n C dX8_goesTick_245 rfl 1 rfl ?_
      refine r_bipush C dX8_goesTick_246 bi_32 ?_
      refine r_icmp_ge (tgt := 323) C dX8_goesTick_248 rfl (fun q => ?_) (fun q => ?_)
      · have h := h.1 q
        refine r_sub [] rfl ?_
        exact hK323 _ h
      · have h := h.2 q
        refine r_aload_n C dX8_goesTick_251 rfl 0 rfl ?_
        refine r_iload_n C dX8_goesTick_252 rfl 1 rfl ?_
        refine r_bipush C dX8_goesTick_253 bi_16 ?_
        refine r_idiv C dX8_goesTick_255 (by decide) ?_
        refine r_iload_n C dX8_goesTick_256 rfl 1 rfl ?_
        refine r_bipush C dX8_goesTick_257 bi_16 ?_
        refine r_irem C dX8_goesTick_259 (by decide) ?_
        refine r_callVv [] C dX8_goesTick_260 w_8_301 (ok_X8_sends l g _ _ _ _ h) (Nat.le_of_ble_eq_true rfl) rfl rfl ak_8 (cn_8 (by decide)) rfl rfl (Nat.le_of_ble_eq_true rfl) (fun σ34 h => ?_)
        refine r_bipush C dX8_goesTick_263 bi_81 ?_
        refine r_bipush C dX8_goesTick_265 bi_39 ?_
        refine r_iload_n C dX8_goesTick_267 rfl 1 rfl ?_
        refine r_imul C dX8_goesTick_268 ?_
        refine r_iadd C dX8_goesTick_269 ?_
        refine r_istore_n C dX8_goesTick_270 rfl (Nat.le_of_ble_eq_true rfl) rfl ?_
        refine r_aload_n C dX8_goesTick_271 rfl 1 rfl ?_
        refine gf_8_42 C dX8_goesTick_272 (cn_8 (by decide)) ?_
        refine r_iload_n C dX8_goesTick_275 rfl 0 rfl ?_
        refine r_iconst C dX8_goesTick_276 ic_2 ?_
        refine r_iadd C dX8_goesTick_277 ?_
        refine r_aload_n C dX8_goesTick_278 rfl 1 rfl ?_
        refine gf_8_42 C dX8_goesTick_279 (cn_8 (by decide)) ?_
        refine r_iload_n C dX8_goesTick_282 rfl 0 rfl ?_
        refine r_iconst C dX8_goesTick_283 ic_0 ?_
        refine r_iadd C dX8_goesTick_284 ?_
        obtain ⟨h0, h⟩ := h
        refine r_iaload C dX8_goesTick_285 ak_61 (cn_61 (by decide)) al_61 h0 ?_
        refine r_aload_n C dX8_goesTick_286 rfl 1 rfl ?_
        refine gf_8_42 C dX8_goesTick_287 (cn_8 (by decide)) ?_
        refine r_iload_n C dX8_goesTick_290 rfl 0 rfl ?_
        refine r_iconst C dX8_goesTick_291 ic_2 ?_
        refine r_iadd C dX8_goesTick_292 ?_
        obtain ⟨h0, h⟩ := h
        refine r_iaload C dX8_goesTick_293 ak_61 (cn_61 (by decide)) al_61 h0 ?_
        refine r_icmp_le (tgt := 308) C dX8_goesTick_294 rfl (fun q => ?_) (fun q => ?_)
        · have h := h.1 q
          refine r_aload_n C dX8_goesTick_308 rfl 1 rfl ?_
          refine gf_8_42 C dX8_goesTick_309 (cn_8 (by decide)) ?_
          refine r_iload_n C dX8_goesTick_312 rfl 0 rfl ?_
          refine r_iconst C dX8_goesTick_313 ic_2 ?_
          refine r_iadd C dX8_goesTick_314 ?_
          obtain ⟨h0, h⟩ := h
          refine r_iaload C dX8_goesTick_315 ak_61 (cn_61 (by decide)) al_61 h0 ?_
          refine r_sub [1, 2] rfl ?_
          exact j316 _ _ _ _ _ ih hK323 _ h
        · have h := h.2 q
          refine r_aload_n C dX8_goesTick_297 rfl 1 rfl ?_
          refine gf_8_42 C dX8_goesTick_298 (cn_8 (by decide)) ?_
          refine r_iload_n C dX8_goesTick_301 rfl 0 rfl ?_
          refine r_iconst C dX8_goesTick_302 ic_0 ?_
          refine r_iadd C dX8_goesTick_303 ?_
          obtain ⟨h0, h⟩ := h
          refine r_iaload C dX8_goesTick_304 ak_61 (cn_61 (by decide)) al_61 h0 ?_
          refine r_goto (tgt := 316) C dX8_goesTick_305 rfl ?_
          refine r_sub [1, 2] rfl ?_
          exact j316 _ _ _ _ _ ih hK323 _ h
  unfold S_X8_goesTick at h
  show G g p l e R s m args below meth c (QV Q) 4 0 [(0, .ref (gad g 8 0))] [] σ
  refine r_aload_n C dX8_goesTick_0 rfl 0 rfl ?_
  refine gf_8_42 C dX8_goesTick_1 (cn_8 (by decide)) ?_
  refine r_iconst C dX8_goesTick_4 ic_0 ?_
  refine r_dup2 C dX8_goesTick_5 rfl rfl ?_
  obtain ⟨h0, h⟩ := h
  refine r_iaload C dX8_goesTick_6 ak_61 (cn_61 (by decide)) al_61 h0 ?_
  refine r_iconst C dX8_goesTick_7 ic_1 ?_
  refine r_iadd C dX8_goesTick_8 ?_
  obtain ⟨h0, h⟩ := h
  refine r_iastore C dX8_goesTick_9 ak_61 (cn_61 (by decide)) al_61 h0 ?_
  have h := h _ rfl
  refine r_iconst C dX8_goesTick_10 ic_0 ?_
  refine r_istore_n C dX8_goesTick_11 rfl (Nat.le_of_ble_eq_true rfl) rfl ?_
  refine r_sub [1, 0] rfl ?_
  obtain ⟨n13, h⟩ := h
  refine l12 _ (fun σ14 h => ?_) n13 _ _ h
  refine r_iconst C dX8_goesTick_100 ic_0 ?_
  refine r_istore_n C dX8_goesTick_101 rfl (Nat.le_of_ble_eq_true rfl) rfl ?_
  refine r_sub [1, 0] rfl ?_
  obtain ⟨n16, h⟩ := h
  refine l102 _ (fun σ17 h => ?_) n16 _ _ h
  refine r_iconst C dX8_goesTick_149 ic_0 ?_
  refine r_istore_n C dX8_goesTick_150 rfl (Nat.le_of_ble_eq_true rfl) rfl ?_
  refine r_sub [1, 0] rfl ?_
  obtain ⟨n32, h⟩ := h
  refine l151 _ (fun σ33 h => ?_) n32 _ _ h
  refine r_iconst C dX8_goesTick_243 ic_0 ?_
  refine r_istore_n C dX8_goesTick_244 rfl (Nat.le_of_ble_eq_true rfl) rfl ?_
  refine r_sub [1, 0] rfl ?_
  obtain ⟨n36, h⟩ := h
  refine l245 _ (fun σ37 h => ?_) n36 _ _ h
  exact r_return C dX8_goesTick_323 ⟨rfl, h⟩
def L_X8_goes_7 (Q : Hp → Prop) (K22 : Hp → Prop) (y1 : Int32) : Nat → Int32 → Hp → Prop
  | 0, _, _ => False
  | n + 1, y2, σ =>
  ((y1 ≤ y2 → K22 σ) ∧ (¬ y1 ≤ y2 → S_X8_goesTick σ (fun σ2 => L_X8_goes_7 Q K22 y1 n (y2 + 1) σ2)))
def S_X8_goes (x1 : Int32) (σ : Hp) (Q : Hp → Prop) : Prop :=
  ∀ σ1, σ1 = sI σ 8 0 28 0 → (∃ n3, L_X8_goes_7 Q (fun σ4 => Q σ4) x1 n3 0 σ1)
set_option maxHeartbeats 2000000 in
set_option maxRecDepth 20000 in
theorem ok_X8_goes (l : Launch) (g : Gm) (x1 : Int32) (σ : Hp) (Q : Hp → Prop) (h : S_X8_goes x1 σ Q) : Ct l g yX8_goes cX8_goes 3 none 6 [.ref (gad g 8 0), .int x1] σ (QV Q) := by
  refine Ct.of (by decide +kernel) (Nat.le_of_ble_eq_true rfl) ?_
  intro p e R s m args below meth c C
  have C : Cx g p R s m args meth c cX8_goes 3 RX8 none 6 := C
  have l7 : ∀ (K22 : Hp → Prop) (y1 : Int32) (hK22 : ∀ (σ : Hp), K22 σ → G g p l e R s m args below meth c (QV Q) 3 22 [] [] σ) (n : Nat) (y2 : Int32) (σ : Hp), L_X8_goes_7 Q K22 y1 n y2 σ → G g p l e R s m args below meth c (QV Q) 3 7 [(0, .ref (gad g 8 0)), (1, .int y1), (2, .int y2)] [] σ := by
    intro K22 y1 hK22 n
    induction n with
    | zero => intro y2 σ h; exact False.elim h
    | succ n ih =>
      intro y2 σ h
      unfold L_X8_goes_7 at h
      refine r_iload_n C dX8_goes_7 rfl 2 rfl ?_
      refine r_iload_n C dX8_goes_8 rfl 1 rfl ?_
      refine r_icmp_ge (tgt := 22) C dX8_goes_9 rfl (fun q => ?_) (fun q => ?_)
      · have h := h.1 q
        refine r_sub [] rfl ?_
        exact hK22 _ h
      · have h := h.2 q
        refine r_aload_n C dX8_goes_12 rfl 0 rfl ?_
        refine r_callVv [] C dX8_goes_13 w_8_304 (ok_X8_goesTick l g _ _ h) (Nat.le_of_ble_eq_true rfl) rfl rfl ak_8 (cn_8 (by decide)) rfl rfl (Nat.le_of_ble_eq_true rfl) (fun σ2 h => ?_)
        refine r_iinc (v := y2 + 1) C dX8_goes_16 2 rfl rfl (Nat.le_of_ble_eq_true rfl) rfl ?_
        refine r_goto (tgt := 7) C dX8_goes_19 rfl ?_
        refine r_sub [1, 2, 0] rfl ?_
        exact ih _ _ h
  unfold S_X8_goes at h
  show G g p l e R s m args below meth c (QV Q) 3 0 [(0, .ref (gad g 8 0)), (1, .int x1)] [] σ
  refine r_aload_n C dX8_goes_0 rfl 0 rfl ?_
  refine r_iconst C dX8_goes_1 ic_0 ?_
  refine pf_8_274 C dX8_goes_2 (cn_8 (by decide)) ?_
  have h := h _ rfl
  refine r_iconst C dX8_goes_5 ic_0 ?_
  refine r_istore_n C dX8_goes_6 rfl (Nat.le_of_ble_eq_true rfl) rfl ?_
  refine r_sub [1, 2, 0] rfl ?_
  obtain ⟨n3, h⟩ := h
  refine l7 _ _ (fun σ4 h => ?_) n3 _ _ h
  exact r_return C dX8_goes_22 ⟨rfl, h⟩
def J_X8_waits_34 (Q : Int32 → Hp → Prop) (σ : Hp) : Prop :=
  S_X8_no 1 σ (fun r5 σ4 => Q r5 σ4)
def S_X8_waits (x1 : Int32) (x2 : Int32) (σ : Hp) (Q : Int32 → Hp → Prop) : Prop :=
  S_X8_fresh σ (fun σ1 => S_X8_isLink x1 σ1 (fun r3 σ2 => ((r3 = 0 → J_X8_waits_34 Q σ2) ∧ (¬ r3 = 0 → S_X8_in x2 0 4 σ2 (fun r7 σ6 => ((r7 = 0 → J_X8_waits_34 Q σ6) ∧ (¬ r7 = 0 → S_X8_linkAt x1 x2 σ6 (fun r9 σ8 => vp_in r9 1809 ∧ Q (gI σ8 61 0 (ix r9)) σ8))))))))
set_option maxHeartbeats 2000000 in
set_option maxRecDepth 20000 in
theorem ok_X8_waits (l : Launch) (g : Gm) (x1 : Int32) (x2 : Int32) (σ : Hp) (Q : Int32 → Hp → Prop) (h : S_X8_waits x1 x2 σ Q) : Ct l g yX8_waits cX8_waits 3 (some .int) 2 [.ref (gad g 8 0), .int x1, .int x2] σ (QI Q) := by
  refine Ct.of (by decide +kernel) (Nat.le_of_ble_eq_true rfl) ?_
  intro p e R s m args below meth c C
  have C : Cx g p R s m args meth c cX8_waits 3 RX8 (some .int) 2 := C
  have j34 : ∀ (σ : Hp), J_X8_waits_34 Q σ → G g p l e R s m args below meth c (QI Q) 3 34 [(0, .ref (gad g 8 0))] [] σ := by
    intro σ h
    unfold J_X8_waits_34 at h
    refine r_aload_n C dX8_waits_34 rfl 0 rfl ?_
    refine r_iconst C dX8_waits_35 ic_1 ?_
    refine r_callVi [] C dX8_waits_36 w_8_203 (ok_X8_no l g _ _ _ h) (Nat.le_of_ble_eq_true rfl) rfl rfl ak_8 (cn_8 (by decide)) rfl rfl (Nat.le_of_ble_eq_true rfl) (fun r5 σ4 h => ?_)
    exact r_ireturn C dX8_waits_39 ⟨_, rfl, h⟩
  unfold S_X8_waits at h
  show G g p l e R s m args below meth c (QI Q) 3 0 [(0, .ref (gad g 8 0)), (1, .int x1), (2, .int x2)] [] σ
  refine r_aload_n C dX8_waits_0 rfl 0 rfl ?_
  refine r_callVv [] C dX8_waits_1 w_8_200 (ok_X8_fresh l g _ _ h) (Nat.le_of_ble_eq_true rfl) rfl rfl ak_8 (cn_8 (by decide)) rfl rfl (Nat.le_of_ble_eq_true rfl) (fun σ1 h => ?_)
  refine r_aload_n C dX8_waits_4 rfl 0 rfl ?_
  refine r_iload_n C dX8_waits_5 rfl 1 rfl ?_
  refine r_callVi [] C dX8_waits_6 w_8_224 (ok_X8_isLink l g _ _ _ h) (Nat.le_of_ble_eq_true rfl) rfl rfl ak_8 (cn_8 (by decide)) rfl rfl (Nat.le_of_ble_eq_true rfl) (fun r3 σ2 h => ?_)
  refine r_if_eq (tgt := 34) C dX8_waits_9 rfl (fun q => ?_) (fun q => ?_)
  · have h := h.1 q
    refine r_sub [0] rfl ?_
    exact j34 _ h
  · have h := h.2 q
    refine r_iload_n C dX8_waits_12 rfl 2 rfl ?_
    refine r_iconst C dX8_waits_13 ic_0 ?_
    refine r_iconst C dX8_waits_14 ic_4 ?_
    refine r_callSi [] C dX8_waits_15 w_8_80 (ok_X8_in l g _ _ _ _ _ h) (Nat.le_of_ble_eq_true rfl) rfl rfl (Nat.le_of_ble_eq_true rfl) (fun r7 σ6 h => ?_)
    refine r_if_eq (tgt := 34) C dX8_waits_18 rfl (fun q => ?_) (fun q => ?_)
    · have h := h.1 q
      refine r_sub [0] rfl ?_
      exact j34 _ h
    · have h := h.2 q
      refine r_aload_n C dX8_waits_21 rfl 0 rfl ?_
      refine gf_8_42 C dX8_waits_22 (cn_8 (by decide)) ?_
      refine r_iload_n C dX8_waits_25 rfl 1 rfl ?_
      refine r_iload_n C dX8_waits_26 rfl 2 rfl ?_
      refine r_callSi [.ref (gad g 61 0)] C dX8_waits_27 w_8_246 (ok_X8_linkAt l g _ _ _ _ h) (Nat.le_of_ble_eq_true rfl) rfl rfl (Nat.le_of_ble_eq_true rfl) (fun r9 σ8 h => ?_)
      obtain ⟨h0, h⟩ := h
      refine r_iaload C dX8_waits_30 ak_61 (cn_61 (by decide)) al_61 h0 ?_
      refine r_goto (tgt := 39) C dX8_waits_31 rfl ?_
      exact r_ireturn C dX8_waits_39 ⟨_, rfl, h⟩
def J_X8_credit_38 (Q : Int32 → Hp → Prop) (σ : Hp) : Prop :=
  S_X8_no 1 σ (fun r5 σ4 => Q r5 σ4)
def S_X8_credit (x1 : Int32) (x2 : Int32) (σ : Hp) (Q : Int32 → Hp → Prop) : Prop :=
  S_X8_fresh σ (fun σ1 => S_X8_isLink x2 σ1 (fun r3 σ2 => ((r3 = 0 → J_X8_credit_38 Q σ2) ∧ (¬ r3 = 0 → S_X8_in x1 0 1 σ2 (fun r7 σ6 => ((r7 = 0 → J_X8_credit_38 Q σ6) ∧ (¬ r7 = 0 → vp_in ((41 + (8 * x1)) + x2) 1809 ∧ Q (gI σ6 61 0 (ix ((41 + (8 * x1)) + x2))) σ6)))))))
set_option maxHeartbeats 2000000 in
set_option maxRecDepth 20000 in
theorem ok_X8_credit (l : Launch) (g : Gm) (x1 : Int32) (x2 : Int32) (σ : Hp) (Q : Int32 → Hp → Prop) (h : S_X8_credit x1 x2 σ Q) : Ct l g yX8_credit cX8_credit 3 (some .int) 2 [.ref (gad g 8 0), .int x1, .int x2] σ (QI Q) := by
  refine Ct.of (by decide +kernel) (Nat.le_of_ble_eq_true rfl) ?_
  intro p e R s m args below meth c C
  have C : Cx g p R s m args meth c cX8_credit 3 RX8 (some .int) 2 := C
  have j38 : ∀ (σ : Hp), J_X8_credit_38 Q σ → G g p l e R s m args below meth c (QI Q) 3 38 [(0, .ref (gad g 8 0))] [] σ := by
    intro σ h
    unfold J_X8_credit_38 at h
    refine r_aload_n C dX8_credit_38 rfl 0 rfl ?_
    refine r_iconst C dX8_credit_39 ic_1 ?_
    refine r_callVi [] C dX8_credit_40 w_8_203 (ok_X8_no l g _ _ _ h) (Nat.le_of_ble_eq_true rfl) rfl rfl ak_8 (cn_8 (by decide)) rfl rfl (Nat.le_of_ble_eq_true rfl) (fun r5 σ4 h => ?_)
    exact r_ireturn C dX8_credit_43 ⟨_, rfl, h⟩
  unfold S_X8_credit at h
  show G g p l e R s m args below meth c (QI Q) 3 0 [(0, .ref (gad g 8 0)), (1, .int x1), (2, .int x2)] [] σ
  refine r_aload_n C dX8_credit_0 rfl 0 rfl ?_
  refine r_callVv [] C dX8_credit_1 w_8_200 (ok_X8_fresh l g _ _ h) (Nat.le_of_ble_eq_true rfl) rfl rfl ak_8 (cn_8 (by decide)) rfl rfl (Nat.le_of_ble_eq_true rfl) (fun σ1 h => ?_)
  refine r_aload_n C dX8_credit_4 rfl 0 rfl ?_
  refine r_iload_n C dX8_credit_5 rfl 2 rfl ?_
  refine r_callVi [] C dX8_credit_6 w_8_224 (ok_X8_isLink l g _ _ _ h) (Nat.le_of_ble_eq_true rfl) rfl rfl ak_8 (cn_8 (by decide)) rfl rfl (Nat.le_of_ble_eq_true rfl) (fun r3 σ2 h => ?_)
  refine r_if_eq (tgt := 38) C dX8_credit_9 rfl (fun q => ?_) (fun q => ?_)
  · have h := h.1 q
    refine r_sub [0] rfl ?_
    exact j38 _ h
  · have h := h.2 q
    refine r_iload_n C dX8_credit_12 rfl 1 rfl ?_
    refine r_iconst C dX8_credit_13 ic_0 ?_
    refine r_iconst C dX8_credit_14 ic_1 ?_
    refine r_callSi [] C dX8_credit_15 w_8_80 (ok_X8_in l g _ _ _ _ _ h) (Nat.le_of_ble_eq_true rfl) rfl rfl (Nat.le_of_ble_eq_true rfl) (fun r7 σ6 h => ?_)
    refine r_if_eq (tgt := 38) C dX8_credit_18 rfl (fun q => ?_) (fun q => ?_)
    · have h := h.1 q
      refine r_sub [0] rfl ?_
      exact j38 _ h
    · have h := h.2 q
      refine r_aload_n C dX8_credit_21 rfl 0 rfl ?_
      refine gf_8_42 C dX8_credit_22 (cn_8 (by decide)) ?_
      refine r_bipush C dX8_credit_25 bi_41 ?_
      refine r_bipush C dX8_credit_27 bi_8 ?_
      refine r_iload_n C dX8_credit_29 rfl 1 rfl ?_
      refine r_imul C dX8_credit_30 ?_
      refine r_iadd C dX8_credit_31 ?_
      refine r_iload_n C dX8_credit_32 rfl 2 rfl ?_
      refine r_iadd C dX8_credit_33 ?_
      obtain ⟨h0, h⟩ := h
      refine r_iaload C dX8_credit_34 ak_61 (cn_61 (by decide)) al_61 h0 ?_
      refine r_goto (tgt := 43) C dX8_credit_35 rfl ?_
      exact r_ireturn C dX8_credit_43 ⟨_, rfl, h⟩
def J_X8_port_21 (Q : Int32 → Hp → Prop) (σ : Hp) : Prop :=
  S_X8_no 1 σ (fun r5 σ4 => Q r5 σ4)
def S_X8_port (x1 : Int32) (x2 : Int32) (x3 : Int32) (σ : Hp) (Q : Int32 → Hp → Prop) : Prop :=
  S_X8_fresh σ (fun σ1 => S_X8_isPort x2 σ1 (fun r3 σ2 => ((r3 = 0 → J_X8_port_21 Q σ2) ∧ (¬ r3 = 0 → S_X8_in x1 0 1 σ2 (fun r7 σ6 => ((¬ r7 = 0 → S_X8_portAt x1 x2 σ6 (fun r9 σ8 => ((x3 = 0 → vp_in (r9 + 0) 1809 ∧ Q (gI σ8 61 0 (ix (r9 + 0))) σ8) ∧ (x3 = 1 → vp_in (r9 + 1) 1809 ∧ ((¬ (gI σ8 61 0 (ix (r9 + 1))) = (-2) → vp_in (r9 + 3) 1809 ∧ Q (gI σ8 61 0 (ix (r9 + 3))) σ8) ∧ ((gI σ8 61 0 (ix (r9 + 1))) = (-2) → Q (-2) σ8))) ∧ (x3 = 2 → vp_in (r9 + 1) 1809 ∧ Q (gI σ8 61 0 (ix (r9 + 1))) σ8) ∧ (x3 = 3 → vp_in (r9 + 2) 1809 ∧ Q (gI σ8 61 0 (ix (r9 + 2))) σ8) ∧ (¬ x3 = 0 → ¬ x3 = 1 → ¬ x3 = 2 → ¬ x3 = 3 → S_X8_no 1 σ8 (fun r11 σ10 => Q r11 σ10))))) ∧ (r7 = 0 → J_X8_port_21 Q σ6)))))))
set_option maxHeartbeats 2000000 in
set_option maxRecDepth 20000 in
theorem ok_X8_port (l : Launch) (g : Gm) (x1 : Int32) (x2 : Int32) (x3 : Int32) (σ : Hp) (Q : Int32 → Hp → Prop) (h : S_X8_port x1 x2 x3 σ Q) : Ct l g yX8_port cX8_port 5 (some .int) 3 [.ref (gad g 8 0), .int x1, .int x2, .int x3] σ (QI Q) := by
  refine Ct.of (by decide +kernel) (Nat.le_of_ble_eq_true rfl) ?_
  intro p e R s m args below meth c C
  have C : Cx g p R s m args meth c cX8_port 5 RX8 (some .int) 3 := C
  have j21 : ∀ (σ : Hp), J_X8_port_21 Q σ → G g p l e R s m args below meth c (QI Q) 5 21 [(0, .ref (gad g 8 0))] [] σ := by
    intro σ h
    unfold J_X8_port_21 at h
    refine r_aload_n C dX8_port_21 rfl 0 rfl ?_
    refine r_iconst C dX8_port_22 ic_1 ?_
    refine r_callVi [] C dX8_port_23 w_8_203 (ok_X8_no l g _ _ _ h) (Nat.le_of_ble_eq_true rfl) rfl rfl ak_8 (cn_8 (by decide)) rfl rfl (Nat.le_of_ble_eq_true rfl) (fun r5 σ4 h => ?_)
    exact r_ireturn C dX8_port_26 ⟨_, rfl, h⟩
  unfold S_X8_port at h
  show G g p l e R s m args below meth c (QI Q) 5 0 [(0, .ref (gad g 8 0)), (1, .int x1), (2, .int x2), (3, .int x3)] [] σ
  refine r_aload_n C dX8_port_0 rfl 0 rfl ?_
  refine r_callVv [] C dX8_port_1 w_8_200 (ok_X8_fresh l g _ _ h) (Nat.le_of_ble_eq_true rfl) rfl rfl ak_8 (cn_8 (by decide)) rfl rfl (Nat.le_of_ble_eq_true rfl) (fun σ1 h => ?_)
  refine r_aload_n C dX8_port_4 rfl 0 rfl ?_
  refine r_iload_n C dX8_port_5 rfl 2 rfl ?_
  refine r_callVi [] C dX8_port_6 w_8_307 (ok_X8_isPort l g _ _ _ h) (Nat.le_of_ble_eq_true rfl) rfl rfl ak_8 (cn_8 (by decide)) rfl rfl (Nat.le_of_ble_eq_true rfl) (fun r3 σ2 h => ?_)
  refine r_if_eq (tgt := 21) C dX8_port_9 rfl (fun q => ?_) (fun q => ?_)
  · have h := h.1 q
    refine r_sub [0] rfl ?_
    exact j21 _ h
  · have h := h.2 q
    refine r_iload_n C dX8_port_12 rfl 1 rfl ?_
    refine r_iconst C dX8_port_13 ic_0 ?_
    refine r_iconst C dX8_port_14 ic_1 ?_
    refine r_callSi [] C dX8_port_15 w_8_80 (ok_X8_in l g _ _ _ _ _ h) (Nat.le_of_ble_eq_true rfl) rfl rfl (Nat.le_of_ble_eq_true rfl) (fun r7 σ6 h => ?_)
    refine r_if_ne (tgt := 27) C dX8_port_18 rfl (fun q => ?_) (fun q => ?_)
    · have h := h.1 q
      refine r_iload_n C dX8_port_27 rfl 1 rfl ?_
      refine r_iload_n C dX8_port_28 rfl 2 rfl ?_
      refine r_callSi [] C dX8_port_29 w_8_255 (ok_X8_portAt l g _ _ _ _ h) (Nat.le_of_ble_eq_true rfl) rfl rfl (Nat.le_of_ble_eq_true rfl) (fun r9 σ8 h => ?_)
      refine r_istore C dX8_port_32 (Nat.le_of_ble_eq_true rfl) rfl ?_
      refine r_iload_n C dX8_port_34 rfl 4 rfl ?_
      obtain ⟨h0, h1, h2, h3, h⟩ := h
      by_cases q0 : x3 = 0
      · have h := h0 q0
        refine r_tableIn (off := 29) (tgt := 64) C dX8_port_35 (by rw [q0]; decide) (by rw [q0]; decide) (by rw [q0]; rfl) rfl ?_
        refine r_aload_n C dX8_port_64 rfl 1 rfl ?_
        refine gf_8_42 C dX8_port_65 (cn_8 (by decide)) ?_
        refine r_iload C dX8_port_68 0 rfl ?_
        refine r_iconst C dX8_port_70 ic_0 ?_
        refine r_iadd C dX8_port_71 ?_
        obtain ⟨h0, h⟩ := h
        refine r_iaload C dX8_port_72 ak_61 (cn_61 (by decide)) al_61 h0 ?_
        exact r_ireturn C dX8_port_73 ⟨_, rfl, h⟩
      by_cases q1 : x3 = 1
      · have h := h1 q1
        refine r_tableIn (off := 39) (tgt := 74) C dX8_port_35 (by rw [q1]; decide) (by rw [q1]; decide) (by rw [q1]; rfl) rfl ?_
        refine r_aload_n C dX8_port_74 rfl 1 rfl ?_
        refine gf_8_42 C dX8_port_75 (cn_8 (by decide)) ?_
        refine r_iload C dX8_port_78 0 rfl ?_
        refine r_iconst C dX8_port_80 ic_1 ?_
        refine r_iadd C dX8_port_81 ?_
        obtain ⟨h0, h⟩ := h
        refine r_iaload C dX8_port_82 ak_61 (cn_61 (by decide)) al_61 h0 ?_
        refine r_bipush C dX8_port_83 bi_m2 ?_
        refine r_icmp_ne (tgt := 93) C dX8_port_85 rfl (fun q => ?_) (fun q => ?_)
        · have h := h.1 q
          refine r_aload_n C dX8_port_93 rfl 1 rfl ?_
          refine gf_8_42 C dX8_port_94 (cn_8 (by decide)) ?_
          refine r_iload C dX8_port_97 0 rfl ?_
          refine r_iconst C dX8_port_99 ic_3 ?_
          refine r_iadd C dX8_port_100 ?_
          obtain ⟨h0, h⟩ := h
          refine r_iaload C dX8_port_101 ak_61 (cn_61 (by decide)) al_61 h0 ?_
          exact r_ireturn C dX8_port_102 ⟨_, rfl, h⟩
        · have h := h.2 q
          refine r_bipush C dX8_port_88 bi_m2 ?_
          refine r_goto (tgt := 102) C dX8_port_90 rfl ?_
          exact r_ireturn C dX8_port_102 ⟨_, rfl, h⟩
      by_cases q2 : x3 = 2
      · have h := h2 q2
        refine r_tableIn (off := 68) (tgt := 103) C dX8_port_35 (by rw [q2]; decide) (by rw [q2]; decide) (by rw [q2]; rfl) rfl ?_
        refine r_aload_n C dX8_port_103 rfl 1 rfl ?_
        refine gf_8_42 C dX8_port_104 (cn_8 (by decide)) ?_
        refine r_iload C dX8_port_107 0 rfl ?_
        refine r_iconst C dX8_port_109 ic_1 ?_
        refine r_iadd C dX8_port_110 ?_
        obtain ⟨h0, h⟩ := h
        refine r_iaload C dX8_port_111 ak_61 (cn_61 (by decide)) al_61 h0 ?_
        exact r_ireturn C dX8_port_112 ⟨_, rfl, h⟩
      by_cases q3 : x3 = 3
      · have h := h3 q3
        refine r_tableIn (off := 78) (tgt := 113) C dX8_port_35 (by rw [q3]; decide) (by rw [q3]; decide) (by rw [q3]; rfl) rfl ?_
        refine r_aload_n C dX8_port_113 rfl 1 rfl ?_
        refine gf_8_42 C dX8_port_114 (cn_8 (by decide)) ?_
        refine r_iload C dX8_port_117 0 rfl ?_
        refine r_iconst C dX8_port_119 ic_2 ?_
        refine r_iadd C dX8_port_120 ?_
        obtain ⟨h0, h⟩ := h
        refine r_iaload C dX8_port_121 ak_61 (cn_61 (by decide)) al_61 h0 ?_
        exact r_ireturn C dX8_port_122 ⟨_, rfl, h⟩
      have h := h q0 q1 q2 q3
      refine r_tableOut (tgt := 123) C dX8_port_35 (sw_out3 q0 q1 q2 q3) rfl ?_
      refine r_aload_n C dX8_port_123 rfl 1 rfl ?_
      refine r_iconst C dX8_port_124 ic_1 ?_
      refine r_callVi [] C dX8_port_125 w_8_203 (ok_X8_no l g _ _ _ h) (Nat.le_of_ble_eq_true rfl) rfl rfl ak_8 (cn_8 (by decide)) rfl rfl (Nat.le_of_ble_eq_true rfl) (fun r11 σ10 h => ?_)
      exact r_ireturn C dX8_port_128 ⟨_, rfl, h⟩
    · have h := h.2 q
      refine r_sub [0] rfl ?_
      exact j21 _ h
def J_X8_frame_53 (Q : Int32 → Hp → Prop) (σ : Hp) : Prop :=
  S_X8_no 1 σ (fun r5 σ4 => Q r5 σ4)
def S_X8_frame (x1 : Int32) (x2 : Int32) (x3 : Int32) (x4 : Int32) (σ : Hp) (Q : Int32 → Hp → Prop) : Prop :=
  S_X8_fresh σ (fun σ1 => S_X8_isPort x2 σ1 (fun r3 σ2 => ((r3 = 0 → J_X8_frame_53 Q σ2) ∧ (¬ r3 = 0 → S_X8_in x1 0 1 σ2 (fun r7 σ6 => ((r7 = 0 → J_X8_frame_53 Q σ6) ∧ (¬ r7 = 0 → S_X8_in x4 0 2 σ6 (fun r9 σ8 => ((r9 = 0 → J_X8_frame_53 Q σ8) ∧ (¬ r9 = 0 → S_X8_portAt x1 x2 σ8 (fun r11 σ10 => vp_in (r11 + 0) 1809 ∧ S_X8_in x3 0 ((gI σ10 61 0 (ix (r11 + 0))) - 1) σ10 (fun r13 σ12 => ((¬ r13 = 0 → S_X8_portAt x1 x2 σ12 (fun r15 σ14 => vp_in (((r15 + 3) + (3 * x3)) + x4) 1809 ∧ Q (gI σ14 61 0 (ix (((r15 + 3) + (3 * x3)) + x4))) σ14)) ∧ (r13 = 0 → J_X8_frame_53 Q σ12))))))))))))))
set_option maxHeartbeats 2000000 in
set_option maxRecDepth 20000 in
theorem ok_X8_frame (l : Launch) (g : Gm) (x1 : Int32) (x2 : Int32) (x3 : Int32) (x4 : Int32) (σ : Hp) (Q : Int32 → Hp → Prop) (h : S_X8_frame x1 x2 x3 x4 σ Q) : Ct l g yX8_frame cX8_frame 5 (some .int) 3 [.ref (gad g 8 0), .int x1, .int x2, .int x3, .int x4] σ (QI Q) := by
  refine Ct.of (by decide +kernel) (Nat.le_of_ble_eq_true rfl) ?_
  intro p e R s m args below meth c C
  have C : Cx g p R s m args meth c cX8_frame 5 RX8 (some .int) 3 := C
  have j53 : ∀ (σ : Hp), J_X8_frame_53 Q σ → G g p l e R s m args below meth c (QI Q) 5 53 [(0, .ref (gad g 8 0))] [] σ := by
    intro σ h
    unfold J_X8_frame_53 at h
    refine r_aload_n C dX8_frame_53 rfl 0 rfl ?_
    refine r_iconst C dX8_frame_54 ic_1 ?_
    refine r_callVi [] C dX8_frame_55 w_8_203 (ok_X8_no l g _ _ _ h) (Nat.le_of_ble_eq_true rfl) rfl rfl ak_8 (cn_8 (by decide)) rfl rfl (Nat.le_of_ble_eq_true rfl) (fun r5 σ4 h => ?_)
    exact r_ireturn C dX8_frame_58 ⟨_, rfl, h⟩
  unfold S_X8_frame at h
  show G g p l e R s m args below meth c (QI Q) 5 0 [(0, .ref (gad g 8 0)), (1, .int x1), (2, .int x2), (3, .int x3), (4, .int x4)] [] σ
  refine r_aload_n C dX8_frame_0 rfl 0 rfl ?_
  refine r_callVv [] C dX8_frame_1 w_8_200 (ok_X8_fresh l g _ _ h) (Nat.le_of_ble_eq_true rfl) rfl rfl ak_8 (cn_8 (by decide)) rfl rfl (Nat.le_of_ble_eq_true rfl) (fun σ1 h => ?_)
  refine r_aload_n C dX8_frame_4 rfl 0 rfl ?_
  refine r_iload_n C dX8_frame_5 rfl 2 rfl ?_
  refine r_callVi [] C dX8_frame_6 w_8_307 (ok_X8_isPort l g _ _ _ h) (Nat.le_of_ble_eq_true rfl) rfl rfl ak_8 (cn_8 (by decide)) rfl rfl (Nat.le_of_ble_eq_true rfl) (fun r3 σ2 h => ?_)
  refine r_if_eq (tgt := 53) C dX8_frame_9 rfl (fun q => ?_) (fun q => ?_)
  · have h := h.1 q
    refine r_sub [0] rfl ?_
    exact j53 _ h
  · have h := h.2 q
    refine r_iload_n C dX8_frame_12 rfl 1 rfl ?_
    refine r_iconst C dX8_frame_13 ic_0 ?_
    refine r_iconst C dX8_frame_14 ic_1 ?_
    refine r_callSi [] C dX8_frame_15 w_8_80 (ok_X8_in l g _ _ _ _ _ h) (Nat.le_of_ble_eq_true rfl) rfl rfl (Nat.le_of_ble_eq_true rfl) (fun r7 σ6 h => ?_)
    refine r_if_eq (tgt := 53) C dX8_frame_18 rfl (fun q => ?_) (fun q => ?_)
    · have h := h.1 q
      refine r_sub [0] rfl ?_
      exact j53 _ h
    · have h := h.2 q
      refine r_iload C dX8_frame_21 4 rfl ?_
      refine r_iconst C dX8_frame_23 ic_0 ?_
      refine r_iconst C dX8_frame_24 ic_2 ?_
      refine r_callSi [] C dX8_frame_25 w_8_80 (ok_X8_in l g _ _ _ _ _ h) (Nat.le_of_ble_eq_true rfl) rfl rfl (Nat.le_of_ble_eq_true rfl) (fun r9 σ8 h => ?_)
      refine r_if_eq (tgt := 53) C dX8_frame_28 rfl (fun q => ?_) (fun q => ?_)
      · have h := h.1 q
        refine r_sub [0] rfl ?_
        exact j53 _ h
      · have h := h.2 q
        refine r_iload_n C dX8_frame_31 rfl 3 rfl ?_
        refine r_iconst C dX8_frame_32 ic_0 ?_
        refine r_aload_n C dX8_frame_33 rfl 0 rfl ?_
        refine gf_8_42 C dX8_frame_34 (cn_8 (by decide)) ?_
        refine r_iload_n C dX8_frame_37 rfl 1 rfl ?_
        refine r_iload_n C dX8_frame_38 rfl 2 rfl ?_
        refine r_callSi [.ref (gad g 61 0), .int _, .int _] C dX8_frame_39 w_8_255 (ok_X8_portAt l g _ _ _ _ h) (Nat.le_of_ble_eq_true rfl) rfl rfl (Nat.le_of_ble_eq_true rfl) (fun r11 σ10 h => ?_)
        refine r_iconst C dX8_frame_42 ic_0 ?_
        refine r_iadd C dX8_frame_43 ?_
        obtain ⟨h0, h⟩ := h
        refine r_iaload C dX8_frame_44 ak_61 (cn_61 (by decide)) al_61 h0 ?_
        refine r_iconst C dX8_frame_45 ic_1 ?_
        refine r_isub C dX8_frame_46 ?_
        refine r_callSi [] C dX8_frame_47 w_8_80 (ok_X8_in l g _ _ _ _ _ h) (Nat.le_of_ble_eq_true rfl) rfl rfl (Nat.le_of_ble_eq_true rfl) (fun r13 σ12 h => ?_)
        refine r_if_ne (tgt := 59) C dX8_frame_50 rfl (fun q => ?_) (fun q => ?_)
        · have h := h.1 q
          refine r_aload_n C dX8_frame_59 rfl 0 rfl ?_
          refine gf_8_42 C dX8_frame_60 (cn_8 (by decide)) ?_
          refine r_iload_n C dX8_frame_63 rfl 1 rfl ?_
          refine r_iload_n C dX8_frame_64 rfl 2 rfl ?_
          refine r_callSi [.ref (gad g 61 0)] C dX8_frame_65 w_8_255 (ok_X8_portAt l g _ _ _ _ h) (Nat.le_of_ble_eq_true rfl) rfl rfl (Nat.le_of_ble_eq_true rfl) (fun r15 σ14 h => ?_)
          refine r_iconst C dX8_frame_68 ic_3 ?_
          refine r_iadd C dX8_frame_69 ?_
          refine r_iconst C dX8_frame_70 ic_3 ?_
          refine r_iload_n C dX8_frame_71 rfl 3 rfl ?_
          refine r_imul C dX8_frame_72 ?_
          refine r_iadd C dX8_frame_73 ?_
          refine r_iload C dX8_frame_74 4 rfl ?_
          refine r_iadd C dX8_frame_76 ?_
          obtain ⟨h0, h⟩ := h
          refine r_iaload C dX8_frame_77 ak_61 (cn_61 (by decide)) al_61 h0 ?_
          exact r_ireturn C dX8_frame_78 ⟨_, rfl, h⟩
        · have h := h.2 q
          refine r_sub [0] rfl ?_
          exact j53 _ h
def S_X8_isLoss (x1 : Int32) (x2 : Int32) (σ : Hp) (Q : Int32 → Hp → Prop) : Prop :=
  (((gI σ 8 0 14) = 0 → Q 0 σ) ∧ (¬ (gI σ 8 0 14) = 0 → S_X8_in x1 0 1 σ (fun r2 σ1 => ((r2 = 0 → Q 0 σ1) ∧ (¬ r2 = 0 → S_X8_in x2 0 2 σ1 (fun r4 σ3 => ((r4 = 0 → Q 0 σ3) ∧ (¬ r4 = 0 → Q 1 σ3))))))))
set_option maxHeartbeats 2000000 in
set_option maxRecDepth 20000 in
theorem ok_X8_isLoss (l : Launch) (g : Gm) (x1 : Int32) (x2 : Int32) (σ : Hp) (Q : Int32 → Hp → Prop) (h : S_X8_isLoss x1 x2 σ Q) : Ct l g yX8_isLoss cX8_isLoss 3 (some .boolean) 1 [.ref (gad g 8 0), .int x1, .int x2] σ (QI Q) := by
  refine Ct.of (by decide +kernel) (Nat.le_of_ble_eq_true rfl) ?_
  intro p e R s m args below meth c C
  have C : Cx g p R s m args meth c cX8_isLoss 3 RX8 (some .boolean) 1 := C
  unfold S_X8_isLoss at h
  show G g p l e R s m args below meth c (QI Q) 3 0 [(0, .ref (gad g 8 0)), (1, .int x1), (2, .int x2)] [] σ
  refine r_aload_n C dX8_isLoss_0 rfl 0 rfl ?_
  refine gf_8_212 C dX8_isLoss_1 (cn_8 (by decide)) ?_
  refine r_if_eq (tgt := 29) C dX8_isLoss_4 rfl (fun q => ?_) (fun q => ?_)
  · have h := h.1 q
    refine r_iconst C dX8_isLoss_29 ic_0 ?_
    exact r_zreturn C dX8_isLoss_30 zb0.1 ⟨_, rfl, h⟩
  · have h := h.2 q
    refine r_iload_n C dX8_isLoss_7 rfl 1 rfl ?_
    refine r_iconst C dX8_isLoss_8 ic_0 ?_
    refine r_iconst C dX8_isLoss_9 ic_1 ?_
    refine r_callSi [] C dX8_isLoss_10 w_8_80 (ok_X8_in l g _ _ _ _ _ h) (Nat.le_of_ble_eq_true rfl) rfl rfl (Nat.le_of_ble_eq_true rfl) (fun r2 σ1 h => ?_)
    refine r_if_eq (tgt := 29) C dX8_isLoss_13 rfl (fun q => ?_) (fun q => ?_)
    · have h := h.1 q
      refine r_iconst C dX8_isLoss_29 ic_0 ?_
      exact r_zreturn C dX8_isLoss_30 zb0.1 ⟨_, rfl, h⟩
    · have h := h.2 q
      refine r_iload_n C dX8_isLoss_16 rfl 2 rfl ?_
      refine r_iconst C dX8_isLoss_17 ic_0 ?_
      refine r_iconst C dX8_isLoss_18 ic_2 ?_
      refine r_callSi [] C dX8_isLoss_19 w_8_80 (ok_X8_in l g _ _ _ _ _ h) (Nat.le_of_ble_eq_true rfl) rfl rfl (Nat.le_of_ble_eq_true rfl) (fun r4 σ3 h => ?_)
      refine r_if_eq (tgt := 29) C dX8_isLoss_22 rfl (fun q => ?_) (fun q => ?_)
      · have h := h.1 q
        refine r_iconst C dX8_isLoss_29 ic_0 ?_
        exact r_zreturn C dX8_isLoss_30 zb0.1 ⟨_, rfl, h⟩
      · have h := h.2 q
        refine r_iconst C dX8_isLoss_25 ic_1 ?_
        refine r_goto (tgt := 30) C dX8_isLoss_26 rfl ?_
        exact r_zreturn C dX8_isLoss_30 zb1.1 ⟨_, rfl, h⟩
def S_X8_lost (x1 : Int32) (x2 : Int32) (σ : Hp) (Q : Int32 → Hp → Prop) : Prop :=
  S_X8_fresh σ (fun σ1 => S_X8_isLoss x1 x2 σ1 (fun r3 σ2 => ((r3 = 0 → S_X8_no 1 σ2 (fun r5 σ4 => Q r5 σ4)) ∧ (¬ r3 = 0 → vp_in ((73 + (3 * x1)) + x2) 1809 ∧ Q (gI σ2 61 0 (ix ((73 + (3 * x1)) + x2))) σ2))))
set_option maxHeartbeats 2000000 in
set_option maxRecDepth 20000 in
theorem ok_X8_lost (l : Launch) (g : Gm) (x1 : Int32) (x2 : Int32) (σ : Hp) (Q : Int32 → Hp → Prop) (h : S_X8_lost x1 x2 σ Q) : Ct l g yX8_lost cX8_lost 3 (some .int) 2 [.ref (gad g 8 0), .int x1, .int x2] σ (QI Q) := by
  refine Ct.of (by decide +kernel) (Nat.le_of_ble_eq_true rfl) ?_
  intro p e R s m args below meth c C
  have C : Cx g p R s m args meth c cX8_lost 3 RX8 (some .int) 2 := C
  unfold S_X8_lost at h
  show G g p l e R s m args below meth c (QI Q) 3 0 [(0, .ref (gad g 8 0)), (1, .int x1), (2, .int x2)] [] σ
  refine r_aload_n C dX8_lost_0 rfl 0 rfl ?_
  refine r_callVv [] C dX8_lost_1 w_8_200 (ok_X8_fresh l g _ _ h) (Nat.le_of_ble_eq_true rfl) rfl rfl ak_8 (cn_8 (by decide)) rfl rfl (Nat.le_of_ble_eq_true rfl) (fun σ1 h => ?_)
  refine r_aload_n C dX8_lost_4 rfl 0 rfl ?_
  refine r_iload_n C dX8_lost_5 rfl 1 rfl ?_
  refine r_iload_n C dX8_lost_6 rfl 2 rfl ?_
  refine r_callVi [] C dX8_lost_7 w_8_310 (ok_X8_isLoss l g _ _ _ _ h) (Nat.le_of_ble_eq_true rfl) rfl rfl ak_8 (cn_8 (by decide)) rfl rfl (Nat.le_of_ble_eq_true rfl) (fun r3 σ2 h => ?_)
  refine r_if_eq (tgt := 29) C dX8_lost_10 rfl (fun q => ?_) (fun q => ?_)
  · have h := h.1 q
    refine r_aload_n C dX8_lost_29 rfl 0 rfl ?_
    refine r_iconst C dX8_lost_30 ic_1 ?_
    refine r_callVi [] C dX8_lost_31 w_8_203 (ok_X8_no l g _ _ _ h) (Nat.le_of_ble_eq_true rfl) rfl rfl ak_8 (cn_8 (by decide)) rfl rfl (Nat.le_of_ble_eq_true rfl) (fun r5 σ4 h => ?_)
    exact r_ireturn C dX8_lost_34 ⟨_, rfl, h⟩
  · have h := h.2 q
    refine r_aload_n C dX8_lost_13 rfl 0 rfl ?_
    refine gf_8_42 C dX8_lost_14 (cn_8 (by decide)) ?_
    refine r_bipush C dX8_lost_17 bi_73 ?_
    refine r_iconst C dX8_lost_19 ic_3 ?_
    refine r_iload_n C dX8_lost_20 rfl 1 rfl ?_
    refine r_imul C dX8_lost_21 ?_
    refine r_iadd C dX8_lost_22 ?_
    refine r_iload_n C dX8_lost_23 rfl 2 rfl ?_
    refine r_iadd C dX8_lost_24 ?_
    obtain ⟨h0, h⟩ := h
    refine r_iaload C dX8_lost_25 ak_61 (cn_61 (by decide)) al_61 h0 ?_
    refine r_goto (tgt := 34) C dX8_lost_26 rfl ?_
    exact r_ireturn C dX8_lost_34 ⟨_, rfl, h⟩
def J_X8_policed_38 (Q : Int32 → Hp → Prop) (σ : Hp) : Prop :=
  S_X8_no 1 σ (fun r5 σ4 => Q r5 σ4)
def S_X8_policed (x1 : Int32) (x2 : Int32) (σ : Hp) (Q : Int32 → Hp → Prop) : Prop :=
  S_X8_fresh σ (fun σ1 => S_X8_isLink x2 σ1 (fun r3 σ2 => ((r3 = 0 → J_X8_policed_38 Q σ2) ∧ (¬ r3 = 0 → S_X8_in x1 0 1 σ2 (fun r7 σ6 => ((r7 = 0 → J_X8_policed_38 Q σ6) ∧ (¬ r7 = 0 → vp_in ((57 + (8 * x1)) + x2) 1809 ∧ Q (gI σ6 61 0 (ix ((57 + (8 * x1)) + x2))) σ6)))))))
set_option maxHeartbeats 2000000 in
set_option maxRecDepth 20000 in
theorem ok_X8_policed (l : Launch) (g : Gm) (x1 : Int32) (x2 : Int32) (σ : Hp) (Q : Int32 → Hp → Prop) (h : S_X8_policed x1 x2 σ Q) : Ct l g yX8_policed cX8_policed 3 (some .int) 2 [.ref (gad g 8 0), .int x1, .int x2] σ (QI Q) := by
  refine Ct.of (by decide +kernel) (Nat.le_of_ble_eq_true rfl) ?_
  intro p e R s m args below meth c C
  have C : Cx g p R s m args meth c cX8_policed 3 RX8 (some .int) 2 := C
  have j38 : ∀ (σ : Hp), J_X8_policed_38 Q σ → G g p l e R s m args below meth c (QI Q) 3 38 [(0, .ref (gad g 8 0))] [] σ := by
    intro σ h
    unfold J_X8_policed_38 at h
    refine r_aload_n C dX8_policed_38 rfl 0 rfl ?_
    refine r_iconst C dX8_policed_39 ic_1 ?_
    refine r_callVi [] C dX8_policed_40 w_8_203 (ok_X8_no l g _ _ _ h) (Nat.le_of_ble_eq_true rfl) rfl rfl ak_8 (cn_8 (by decide)) rfl rfl (Nat.le_of_ble_eq_true rfl) (fun r5 σ4 h => ?_)
    exact r_ireturn C dX8_policed_43 ⟨_, rfl, h⟩
  unfold S_X8_policed at h
  show G g p l e R s m args below meth c (QI Q) 3 0 [(0, .ref (gad g 8 0)), (1, .int x1), (2, .int x2)] [] σ
  refine r_aload_n C dX8_policed_0 rfl 0 rfl ?_
  refine r_callVv [] C dX8_policed_1 w_8_200 (ok_X8_fresh l g _ _ h) (Nat.le_of_ble_eq_true rfl) rfl rfl ak_8 (cn_8 (by decide)) rfl rfl (Nat.le_of_ble_eq_true rfl) (fun σ1 h => ?_)
  refine r_aload_n C dX8_policed_4 rfl 0 rfl ?_
  refine r_iload_n C dX8_policed_5 rfl 2 rfl ?_
  refine r_callVi [] C dX8_policed_6 w_8_224 (ok_X8_isLink l g _ _ _ h) (Nat.le_of_ble_eq_true rfl) rfl rfl ak_8 (cn_8 (by decide)) rfl rfl (Nat.le_of_ble_eq_true rfl) (fun r3 σ2 h => ?_)
  refine r_if_eq (tgt := 38) C dX8_policed_9 rfl (fun q => ?_) (fun q => ?_)
  · have h := h.1 q
    refine r_sub [0] rfl ?_
    exact j38 _ h
  · have h := h.2 q
    refine r_iload_n C dX8_policed_12 rfl 1 rfl ?_
    refine r_iconst C dX8_policed_13 ic_0 ?_
    refine r_iconst C dX8_policed_14 ic_1 ?_
    refine r_callSi [] C dX8_policed_15 w_8_80 (ok_X8_in l g _ _ _ _ _ h) (Nat.le_of_ble_eq_true rfl) rfl rfl (Nat.le_of_ble_eq_true rfl) (fun r7 σ6 h => ?_)
    refine r_if_eq (tgt := 38) C dX8_policed_18 rfl (fun q => ?_) (fun q => ?_)
    · have h := h.1 q
      refine r_sub [0] rfl ?_
      exact j38 _ h
    · have h := h.2 q
      refine r_aload_n C dX8_policed_21 rfl 0 rfl ?_
      refine gf_8_42 C dX8_policed_22 (cn_8 (by decide)) ?_
      refine r_bipush C dX8_policed_25 bi_57 ?_
      refine r_bipush C dX8_policed_27 bi_8 ?_
      refine r_iload_n C dX8_policed_29 rfl 1 rfl ?_
      refine r_imul C dX8_policed_30 ?_
      refine r_iadd C dX8_policed_31 ?_
      refine r_iload_n C dX8_policed_32 rfl 2 rfl ?_
      refine r_iadd C dX8_policed_33 ?_
      obtain ⟨h0, h⟩ := h
      refine r_iaload C dX8_policed_34 ak_61 (cn_61 (by decide)) al_61 h0 ?_
      refine r_goto (tgt := 43) C dX8_policed_35 rfl ?_
      exact r_ireturn C dX8_policed_43 ⟨_, rfl, h⟩
def J_X8_heard_35 (Q : Int32 → Hp → Prop) (σ : Hp) : Prop :=
  S_X8_no 1 σ (fun r5 σ4 => Q r5 σ4)
def S_X8_heard (x1 : Int32) (x2 : Int32) (x3 : Int32) (σ : Hp) (Q : Int32 → Hp → Prop) : Prop :=
  S_X8_fresh σ (fun σ1 => S_X8_isReceiver x1 x2 x3 σ1 (fun r3 σ2 => ((r3 = 0 → J_X8_heard_35 Q σ2) ∧ (¬ r3 = 0 → (((7 : Int32) < x3 → J_X8_heard_35 Q σ2) ∧ (¬ (7 : Int32) < x3 → S_X8_hearAt x1 x2 σ2 (fun r7 σ6 => vp_in (r7 + x3) 1809 ∧ Q (gI σ6 61 0 (ix (r7 + x3))) σ6)))))))
set_option maxHeartbeats 2000000 in
set_option maxRecDepth 20000 in
theorem ok_X8_heard (l : Launch) (g : Gm) (x1 : Int32) (x2 : Int32) (x3 : Int32) (σ : Hp) (Q : Int32 → Hp → Prop) (h : S_X8_heard x1 x2 x3 σ Q) : Ct l g yX8_heard cX8_heard 4 (some .int) 3 [.ref (gad g 8 0), .int x1, .int x2, .int x3] σ (QI Q) := by
  refine Ct.of (by decide +kernel) (Nat.le_of_ble_eq_true rfl) ?_
  intro p e R s m args below meth c C
  have C : Cx g p R s m args meth c cX8_heard 4 RX8 (some .int) 3 := C
  have j35 : ∀ (σ : Hp), J_X8_heard_35 Q σ → G g p l e R s m args below meth c (QI Q) 4 35 [(0, .ref (gad g 8 0))] [] σ := by
    intro σ h
    unfold J_X8_heard_35 at h
    refine r_aload_n C dX8_heard_35 rfl 0 rfl ?_
    refine r_iconst C dX8_heard_36 ic_1 ?_
    refine r_callVi [] C dX8_heard_37 w_8_203 (ok_X8_no l g _ _ _ h) (Nat.le_of_ble_eq_true rfl) rfl rfl ak_8 (cn_8 (by decide)) rfl rfl (Nat.le_of_ble_eq_true rfl) (fun r5 σ4 h => ?_)
    exact r_ireturn C dX8_heard_40 ⟨_, rfl, h⟩
  unfold S_X8_heard at h
  show G g p l e R s m args below meth c (QI Q) 4 0 [(0, .ref (gad g 8 0)), (1, .int x1), (2, .int x2), (3, .int x3)] [] σ
  refine r_aload_n C dX8_heard_0 rfl 0 rfl ?_
  refine r_callVv [] C dX8_heard_1 w_8_200 (ok_X8_fresh l g _ _ h) (Nat.le_of_ble_eq_true rfl) rfl rfl ak_8 (cn_8 (by decide)) rfl rfl (Nat.le_of_ble_eq_true rfl) (fun σ1 h => ?_)
  refine r_aload_n C dX8_heard_4 rfl 0 rfl ?_
  refine r_iload_n C dX8_heard_5 rfl 1 rfl ?_
  refine r_iload_n C dX8_heard_6 rfl 2 rfl ?_
  refine r_iload_n C dX8_heard_7 rfl 3 rfl ?_
  refine r_callVi [] C dX8_heard_8 w_8_243 (ok_X8_isReceiver l g _ _ _ _ _ h) (Nat.le_of_ble_eq_true rfl) rfl rfl ak_8 (cn_8 (by decide)) rfl rfl (Nat.le_of_ble_eq_true rfl) (fun r3 σ2 h => ?_)
  refine r_if_eq (tgt := 35) C dX8_heard_11 rfl (fun q => ?_) (fun q => ?_)
  · have h := h.1 q
    refine r_sub [0] rfl ?_
    exact j35 _ h
  · have h := h.2 q
    refine r_iload_n C dX8_heard_14 rfl 3 rfl ?_
    refine r_bipush C dX8_heard_15 bi_7 ?_
    refine r_icmp_gt (tgt := 35) C dX8_heard_17 rfl (fun q => ?_) (fun q => ?_)
    · have h := h.1 q
      refine r_sub [0] rfl ?_
      exact j35 _ h
    · have h := h.2 q
      refine r_aload_n C dX8_heard_20 rfl 0 rfl ?_
      refine gf_8_42 C dX8_heard_21 (cn_8 (by decide)) ?_
      refine r_iload_n C dX8_heard_24 rfl 1 rfl ?_
      refine r_iload_n C dX8_heard_25 rfl 2 rfl ?_
      refine r_callSi [.ref (gad g 61 0)] C dX8_heard_26 w_8_252 (ok_X8_hearAt l g _ _ _ _ h) (Nat.le_of_ble_eq_true rfl) rfl rfl (Nat.le_of_ble_eq_true rfl) (fun r7 σ6 h => ?_)
      refine r_iload_n C dX8_heard_29 rfl 3 rfl ?_
      refine r_iadd C dX8_heard_30 ?_
      obtain ⟨h0, h⟩ := h
      refine r_iaload C dX8_heard_31 ak_61 (cn_61 (by decide)) al_61 h0 ?_
      refine r_goto (tgt := 40) C dX8_heard_32 rfl ?_
      exact r_ireturn C dX8_heard_40 ⟨_, rfl, h⟩
def J_X8_seen_37 (Q : Int32 → Hp → Prop) (σ : Hp) : Prop :=
  S_X8_no 1 σ (fun r5 σ4 => Q r5 σ4)
def S_X8_seen (x1 : Int32) (x2 : Int32) (x3 : Int32) (σ : Hp) (Q : Int32 → Hp → Prop) : Prop :=
  S_X8_fresh σ (fun σ1 => S_X8_isReceiver x1 x2 x3 σ1 (fun r3 σ2 => ((r3 = 0 → J_X8_seen_37 Q σ2) ∧ (¬ r3 = 0 → (((1 : Int32) < x3 → J_X8_seen_37 Q σ2) ∧ (¬ (1 : Int32) < x3 → S_X8_hearAt x1 x2 σ2 (fun r7 σ6 => vp_in ((r7 + 8) + x3) 1809 ∧ Q (gI σ6 61 0 (ix ((r7 + 8) + x3))) σ6)))))))
set_option maxHeartbeats 2000000 in
set_option maxRecDepth 20000 in
theorem ok_X8_seen (l : Launch) (g : Gm) (x1 : Int32) (x2 : Int32) (x3 : Int32) (σ : Hp) (Q : Int32 → Hp → Prop) (h : S_X8_seen x1 x2 x3 σ Q) : Ct l g yX8_seen cX8_seen 4 (some .int) 3 [.ref (gad g 8 0), .int x1, .int x2, .int x3] σ (QI Q) := by
  refine Ct.of (by decide +kernel) (Nat.le_of_ble_eq_true rfl) ?_
  intro p e R s m args below meth c C
  have C : Cx g p R s m args meth c cX8_seen 4 RX8 (some .int) 3 := C
  have j37 : ∀ (σ : Hp), J_X8_seen_37 Q σ → G g p l e R s m args below meth c (QI Q) 4 37 [(0, .ref (gad g 8 0))] [] σ := by
    intro σ h
    unfold J_X8_seen_37 at h
    refine r_aload_n C dX8_seen_37 rfl 0 rfl ?_
    refine r_iconst C dX8_seen_38 ic_1 ?_
    refine r_callVi [] C dX8_seen_39 w_8_203 (ok_X8_no l g _ _ _ h) (Nat.le_of_ble_eq_true rfl) rfl rfl ak_8 (cn_8 (by decide)) rfl rfl (Nat.le_of_ble_eq_true rfl) (fun r5 σ4 h => ?_)
    exact r_ireturn C dX8_seen_42 ⟨_, rfl, h⟩
  unfold S_X8_seen at h
  show G g p l e R s m args below meth c (QI Q) 4 0 [(0, .ref (gad g 8 0)), (1, .int x1), (2, .int x2), (3, .int x3)] [] σ
  refine r_aload_n C dX8_seen_0 rfl 0 rfl ?_
  refine r_callVv [] C dX8_seen_1 w_8_200 (ok_X8_fresh l g _ _ h) (Nat.le_of_ble_eq_true rfl) rfl rfl ak_8 (cn_8 (by decide)) rfl rfl (Nat.le_of_ble_eq_true rfl) (fun σ1 h => ?_)
  refine r_aload_n C dX8_seen_4 rfl 0 rfl ?_
  refine r_iload_n C dX8_seen_5 rfl 1 rfl ?_
  refine r_iload_n C dX8_seen_6 rfl 2 rfl ?_
  refine r_iload_n C dX8_seen_7 rfl 3 rfl ?_
  refine r_callVi [] C dX8_seen_8 w_8_243 (ok_X8_isReceiver l g _ _ _ _ _ h) (Nat.le_of_ble_eq_true rfl) rfl rfl ak_8 (cn_8 (by decide)) rfl rfl (Nat.le_of_ble_eq_true rfl) (fun r3 σ2 h => ?_)
  refine r_if_eq (tgt := 37) C dX8_seen_11 rfl (fun q => ?_) (fun q => ?_)
  · have h := h.1 q
    refine r_sub [0] rfl ?_
    exact j37 _ h
  · have h := h.2 q
    refine r_iload_n C dX8_seen_14 rfl 3 rfl ?_
    refine r_iconst C dX8_seen_15 ic_1 ?_
    refine r_icmp_gt (tgt := 37) C dX8_seen_16 rfl (fun q => ?_) (fun q => ?_)
    · have h := h.1 q
      refine r_sub [0] rfl ?_
      exact j37 _ h
    · have h := h.2 q
      refine r_aload_n C dX8_seen_19 rfl 0 rfl ?_
      refine gf_8_42 C dX8_seen_20 (cn_8 (by decide)) ?_
      refine r_iload_n C dX8_seen_23 rfl 1 rfl ?_
      refine r_iload_n C dX8_seen_24 rfl 2 rfl ?_
      refine r_callSi [.ref (gad g 61 0)] C dX8_seen_25 w_8_252 (ok_X8_hearAt l g _ _ _ _ h) (Nat.le_of_ble_eq_true rfl) rfl rfl (Nat.le_of_ble_eq_true rfl) (fun r7 σ6 h => ?_)
      refine r_bipush C dX8_seen_28 bi_8 ?_
      refine r_iadd C dX8_seen_30 ?_
      refine r_iload_n C dX8_seen_31 rfl 3 rfl ?_
      refine r_iadd C dX8_seen_32 ?_
      obtain ⟨h0, h⟩ := h
      refine r_iaload C dX8_seen_33 ak_61 (cn_61 (by decide)) al_61 h0 ?_
      refine r_goto (tgt := 42) C dX8_seen_34 rfl ?_
      exact r_ireturn C dX8_seen_42 ⟨_, rfl, h⟩
def J_X8_taken_54 (Q : Int32 → Hp → Prop) (σ : Hp) : Prop :=
  S_X8_no 1 σ (fun r5 σ4 => Q r5 σ4)
def S_X8_taken (x1 : Int32) (x2 : Int32) (x3 : Int32) (σ : Hp) (Q : Int32 → Hp → Prop) : Prop :=
  S_X8_fresh σ (fun σ1 => S_X8_isReceiver x1 x2 x3 σ1 (fun r3 σ2 => ((r3 = 0 → J_X8_taken_54 Q σ2) ∧ (¬ r3 = 0 → (((10 : Int32) ≤ x3 → J_X8_taken_54 Q σ2) ∧ (¬ (10 : Int32) ≤ x3 → S_X8_hearAt x1 x2 σ2 (fun r7 σ6 => vp_in (r7 + 0) 1809 ∧ (((gI σ6 61 0 (ix (r7 + 0))) ≤ x3 → J_X8_taken_54 Q σ6) ∧ (¬ (gI σ6 61 0 (ix (r7 + 0))) ≤ x3 → S_X8_hearAt x1 x2 σ6 (fun r9 σ8 => vp_in ((r9 + 10) + x3) 1809 ∧ Q (gI σ8 61 0 (ix ((r9 + 10) + x3))) σ8))))))))))
set_option maxHeartbeats 2000000 in
set_option maxRecDepth 20000 in
theorem ok_X8_taken (l : Launch) (g : Gm) (x1 : Int32) (x2 : Int32) (x3 : Int32) (σ : Hp) (Q : Int32 → Hp → Prop) (h : S_X8_taken x1 x2 x3 σ Q) : Ct l g yX8_taken cX8_taken 4 (some .int) 3 [.ref (gad g 8 0), .int x1, .int x2, .int x3] σ (QI Q) := by
  refine Ct.of (by decide +kernel) (Nat.le_of_ble_eq_true rfl) ?_
  intro p e R s m args below meth c C
  have C : Cx g p R s m args meth c cX8_taken 4 RX8 (some .int) 3 := C
  have j54 : ∀ (σ : Hp), J_X8_taken_54 Q σ → G g p l e R s m args below meth c (QI Q) 4 54 [(0, .ref (gad g 8 0))] [] σ := by
    intro σ h
    unfold J_X8_taken_54 at h
    refine r_aload_n C dX8_taken_54 rfl 0 rfl ?_
    refine r_iconst C dX8_taken_55 ic_1 ?_
    refine r_callVi [] C dX8_taken_56 w_8_203 (ok_X8_no l g _ _ _ h) (Nat.le_of_ble_eq_true rfl) rfl rfl ak_8 (cn_8 (by decide)) rfl rfl (Nat.le_of_ble_eq_true rfl) (fun r5 σ4 h => ?_)
    exact r_ireturn C dX8_taken_59 ⟨_, rfl, h⟩
  unfold S_X8_taken at h
  show G g p l e R s m args below meth c (QI Q) 4 0 [(0, .ref (gad g 8 0)), (1, .int x1), (2, .int x2), (3, .int x3)] [] σ
  refine r_aload_n C dX8_taken_0 rfl 0 rfl ?_
  refine r_callVv [] C dX8_taken_1 w_8_200 (ok_X8_fresh l g _ _ h) (Nat.le_of_ble_eq_true rfl) rfl rfl ak_8 (cn_8 (by decide)) rfl rfl (Nat.le_of_ble_eq_true rfl) (fun σ1 h => ?_)
  refine r_aload_n C dX8_taken_4 rfl 0 rfl ?_
  refine r_iload_n C dX8_taken_5 rfl 1 rfl ?_
  refine r_iload_n C dX8_taken_6 rfl 2 rfl ?_
  refine r_iload_n C dX8_taken_7 rfl 3 rfl ?_
  refine r_callVi [] C dX8_taken_8 w_8_243 (ok_X8_isReceiver l g _ _ _ _ _ h) (Nat.le_of_ble_eq_true rfl) rfl rfl ak_8 (cn_8 (by decide)) rfl rfl (Nat.le_of_ble_eq_true rfl) (fun r3 σ2 h => ?_)
  refine r_if_eq (tgt := 54) C dX8_taken_11 rfl (fun q => ?_) (fun q => ?_)
  · have h := h.1 q
    refine r_sub [0] rfl ?_
    exact j54 _ h
  · have h := h.2 q
    refine r_iload_n C dX8_taken_14 rfl 3 rfl ?_
    refine r_bipush C dX8_taken_15 bi_10 ?_
    refine r_icmp_ge (tgt := 54) C dX8_taken_17 rfl (fun q => ?_) (fun q => ?_)
    · have h := h.1 q
      refine r_sub [0] rfl ?_
      exact j54 _ h
    · have h := h.2 q
      refine r_iload_n C dX8_taken_20 rfl 3 rfl ?_
      refine r_aload_n C dX8_taken_21 rfl 0 rfl ?_
      refine gf_8_42 C dX8_taken_22 (cn_8 (by decide)) ?_
      refine r_iload_n C dX8_taken_25 rfl 1 rfl ?_
      refine r_iload_n C dX8_taken_26 rfl 2 rfl ?_
      refine r_callSi [.ref (gad g 61 0), .int _] C dX8_taken_27 w_8_252 (ok_X8_hearAt l g _ _ _ _ h) (Nat.le_of_ble_eq_true rfl) rfl rfl (Nat.le_of_ble_eq_true rfl) (fun r7 σ6 h => ?_)
      refine r_iconst C dX8_taken_30 ic_0 ?_
      refine r_iadd C dX8_taken_31 ?_
      obtain ⟨h0, h⟩ := h
      refine r_iaload C dX8_taken_32 ak_61 (cn_61 (by decide)) al_61 h0 ?_
      refine r_icmp_ge (tgt := 54) C dX8_taken_33 rfl (fun q => ?_) (fun q => ?_)
      · have h := h.1 q
        refine r_sub [0] rfl ?_
        exact j54 _ h
      · have h := h.2 q
        refine r_aload_n C dX8_taken_36 rfl 0 rfl ?_
        refine gf_8_42 C dX8_taken_37 (cn_8 (by decide)) ?_
        refine r_iload_n C dX8_taken_40 rfl 1 rfl ?_
        refine r_iload_n C dX8_taken_41 rfl 2 rfl ?_
        refine r_callSi [.ref (gad g 61 0)] C dX8_taken_42 w_8_252 (ok_X8_hearAt l g _ _ _ _ h) (Nat.le_of_ble_eq_true rfl) rfl rfl (Nat.le_of_ble_eq_true rfl) (fun r9 σ8 h => ?_)
        refine r_bipush C dX8_taken_45 bi_10 ?_
        refine r_iadd C dX8_taken_47 ?_
        refine r_iload_n C dX8_taken_48 rfl 3 rfl ?_
        refine r_iadd C dX8_taken_49 ?_
        obtain ⟨h0, h⟩ := h
        refine r_iaload C dX8_taken_50 ak_61 (cn_61 (by decide)) al_61 h0 ?_
        refine r_goto (tgt := 59) C dX8_taken_51 rfl ?_
        exact r_ireturn C dX8_taken_59 ⟨_, rfl, h⟩
def L_X8_part_6 (Q : Int64 → Hp → Prop) (K31 : Int64 → Hp → Prop) (y0 : Int64) (y2 : Int64) (y4 : Int32) : Nat → Int64 → Int64 → Hp → Prop
  | 0, _, _, _ => False
  | n + 1, y5, y7, σ =>
  (((lg_cmp y7 0) = 0 → K31 y5 σ) ∧ (¬ (lg_cmp y7 0) = 0 → ¬ y7 = 0 ∧ L_X8_part_6 Q K31 y0 y2 y4 n y7 (jlrem y5 y7) σ))
def S_X8_part (x0 : Int64) (x2 : Int64) (x4 : Int32) (σ : Hp) (Q : Int64 → Hp → Prop) : Prop :=
  (∃ n1, L_X8_part_6 Q (fun w3 σ2 => ((x4 = 0 → ¬ w3 = 0 ∧ Q (x0 / w3) σ2) ∧ (¬ x4 = 0 → ¬ w3 = 0 ∧ Q (x2 / w3) σ2))) x0 x2 x4 n1 x0 x2 σ)
set_option maxHeartbeats 2000000 in
set_option maxRecDepth 20000 in
theorem ok_X8_part (l : Launch) (g : Gm) (x0 : Int64) (x2 : Int64) (x4 : Int32) (σ : Hp) (Q : Int64 → Hp → Prop) (h : S_X8_part x0 x2 x4 σ Q) : Ct l g yX8_part cX8_part 11 (some .long) 0 [.long x0, .long x2, .int x4] σ (QL Q) := by
  refine Ct.of (by decide +kernel) (Nat.le_of_ble_eq_true rfl) ?_
  intro p e R s m args below meth c C
  have C : Cx g p R s m args meth c cX8_part 11 RX8 (some .long) 0 := C
  have l6 : ∀ (K31 : Int64 → Hp → Prop) (y0 : Int64) (y2 : Int64) (y4 : Int32) (hK31 : ∀ (v5 : Int64) (σ : Hp), K31 v5 σ → G g p l e R s m args below meth c (QL Q) 11 31 [(0, .long y0), (2, .long y2), (4, .int y4), (5, .long v5)] [] σ) (n : Nat) (y5 : Int64) (y7 : Int64) (σ : Hp), L_X8_part_6 Q K31 y0 y2 y4 n y5 y7 σ → G g p l e R s m args below meth c (QL Q) 11 6 [(0, .long y0), (2, .long y2), (4, .int y4), (5, .long y5), (7, .long y7)] [] σ := by
    intro K31 y0 y2 y4 hK31 n
    induction n with
    | zero => intro y5 y7 σ h; exact False.elim h
    | succ n ih =>
      intro y5 y7 σ h
      unfold L_X8_part_6 at h
      refine r_lload C dX8_part_6 4 rfl ?_
      refine r_lconst (v := 0) C dX8_part_8 rfl ?_
      refine r_lcmp C dX8_part_9 ?_
      refine r_if_eq (tgt := 31) C dX8_part_10 rfl (fun q => ?_) (fun q => ?_)
      · have h := h.1 q
        refine r_sub [0, 1, 2, 3] rfl ?_
        exact hK31 _ _ h
      · have h := h.2 q
        refine r_lload C dX8_part_13 3 rfl ?_
        refine r_lload C dX8_part_15 4 rfl ?_
        obtain ⟨h0, h⟩ := h
        refine r_lrem C dX8_part_17 h0 ?_
        refine r_lstore C dX8_part_18 (Nat.le_of_ble_eq_true rfl) rfl ?_
        refine r_lload C dX8_part_20 5 rfl ?_
        refine r_lstore C dX8_part_22 (Nat.le_of_ble_eq_true rfl) rfl ?_
        refine r_lload C dX8_part_24 1 rfl ?_
        refine r_lstore C dX8_part_26 (Nat.le_of_ble_eq_true rfl) rfl ?_
        refine r_goto (tgt := 6) C dX8_part_28 rfl ?_
        refine r_sub [3, 4, 5, 1, 0] rfl ?_
        exact ih _ _ _ h
  unfold S_X8_part at h
  show G g p l e R s m args below meth c (QL Q) 11 0 [(0, .long x0), (2, .long x2), (4, .int x4)] [] σ
  refine r_lload_n C dX8_part_0 rfl 0 rfl ?_
  refine r_lstore C dX8_part_1 (Nat.le_of_ble_eq_true rfl) rfl ?_
  refine r_lload_n C dX8_part_3 rfl 2 rfl ?_
  refine r_lstore C dX8_part_4 (Nat.le_of_ble_eq_true rfl) rfl ?_
  refine r_sub [2, 3, 4, 1, 0] rfl ?_
  obtain ⟨n1, h⟩ := h
  refine l6 _ _ _ _ (fun w3 σ2 h => ?_) n1 _ _ _ h
  refine r_iload C dX8_part_31 2 rfl ?_
  refine r_if_eq (tgt := 40) C dX8_part_33 rfl (fun q => ?_) (fun q => ?_)
  · have h := h.1 q
    refine r_lload_n C dX8_part_40 rfl 0 rfl ?_
    refine r_lload C dX8_part_41 3 rfl ?_
    obtain ⟨h0, h⟩ := h
    refine r_ldiv C dX8_part_43 h0 ?_
    exact r_lreturn C dX8_part_44 ⟨_, rfl, h⟩
  · have h := h.2 q
    refine r_lload_n C dX8_part_36 rfl 1 rfl ?_
    refine r_goto (tgt := 41) C dX8_part_37 rfl ?_
    refine r_lload C dX8_part_41 3 rfl ?_
    obtain ⟨h0, h⟩ := h
    refine r_ldiv C dX8_part_43 h0 ?_
    exact r_lreturn C dX8_part_44 ⟨_, rfl, h⟩
def J_X8_loadOf_38 (Q : Int64 → Hp → Prop) (kb : Int64 → Int32 → Hp → Prop) (K46 : Int64 → Hp → Prop) (y1 : Int32) (y4 : Int32) (z0 : Int64) (z1 : Int64) (σ : Hp) : Prop :=
  kb (z1 + z0) (y4 + 1) σ
def L_X8_loadOf_5 (Q : Int64 → Hp → Prop) (K46 : Int64 → Hp → Prop) (y1 : Int32) : Nat → Int64 → Int32 → Hp → Prop
  | 0, _, _, _ => False
  | n + 1, y2, y4, σ =>
  vp_in 6 7 ∧ (((gI σ 53 0 (ix 6)) ≤ y4 → K46 y2 σ) ∧ (¬ (gI σ 53 0 (ix 6)) ≤ y4 → S_X8_goesThrough y4 y1 σ (fun r2 σ1 => ((r2 = 0 → J_X8_loadOf_38 Q (L_X8_loadOf_5 Q K46 y1 n) K46 y1 y4 0 y2 σ1) ∧ (¬ r2 = 0 → S_X8_rateOf y4 σ1 (fun r4 σ3 => J_X8_loadOf_38 Q (L_X8_loadOf_5 Q K46 y1 n) K46 y1 y4 r4 y2 σ3))))))
def S_X8_loadOf (x1 : Int32) (σ : Hp) (Q : Int64 → Hp → Prop) : Prop :=
  (∃ n5, L_X8_loadOf_5 Q (fun w7 σ6 => Q w7 σ6) x1 n5 0 0 σ)
set_option maxHeartbeats 2000000 in
set_option maxRecDepth 20000 in
theorem ok_X8_loadOf (l : Launch) (g : Gm) (x1 : Int32) (σ : Hp) (Q : Int64 → Hp → Prop) (h : S_X8_loadOf x1 σ Q) : Ct l g yX8_loadOf cX8_loadOf 5 (some .long) 5 [.ref (gad g 8 0), .int x1] σ (QL Q) := by
  refine Ct.of (by decide +kernel) (Nat.le_of_ble_eq_true rfl) ?_
  intro p e R s m args below meth c C
  have C : Cx g p R s m args meth c cX8_loadOf 5 RX8 (some .long) 5 := C
  have j38 : ∀ (kb : Int64 → Int32 → Hp → Prop) (K46 : Int64 → Hp → Prop) (y1 : Int32) (y4 : Int32) (z0 : Int64) (z1 : Int64) (hkb : ∀ (v2 : Int64) (v4 : Int32) (σ : Hp), kb v2 v4 σ → G g p l e R s m args below meth c (QL Q) 5 5 [(0, .ref (gad g 8 0)), (1, .int y1), (2, .long v2), (4, .int v4)] [] σ) (hK46 : ∀ (v2 : Int64) (σ : Hp), K46 v2 σ → G g p l e R s m args below meth c (QL Q) 5 46 [(2, .long v2)] [] σ) (σ : Hp), J_X8_loadOf_38 Q kb K46 y1 y4 z0 z1 σ → G g p l e R s m args below meth c (QL Q) 5 38 [(0, .ref (gad g 8 0)), (1, .int y1), (4, .int y4)] [.long z0, .long z1] σ := by
    intro kb K46 y1 y4 z0 z1 hkb hK46 σ h
    unfold J_X8_loadOf_38 at h
    refine r_ladd C dX8_loadOf_38 ?_
    refine r_lstore_n C dX8_loadOf_39 rfl (Nat.le_of_ble_eq_true rfl) rfl ?_
    refine r_iinc (v := y4 + 1) C dX8_loadOf_40 3 rfl rfl (Nat.le_of_ble_eq_true rfl) rfl ?_
    refine r_goto (tgt := 5) C dX8_loadOf_43 rfl ?_
    refine r_sub [2, 3, 1, 0] rfl ?_
    exact hkb _ _ _ h
  have l5 : ∀ (K46 : Int64 → Hp → Prop) (y1 : Int32) (hK46 : ∀ (v2 : Int64) (σ : Hp), K46 v2 σ → G g p l e R s m args below meth c (QL Q) 5 46 [(2, .long v2)] [] σ) (n : Nat) (y2 : Int64) (y4 : Int32) (σ : Hp), L_X8_loadOf_5 Q K46 y1 n y2 y4 σ → G g p l e R s m args below meth c (QL Q) 5 5 [(0, .ref (gad g 8 0)), (1, .int y1), (2, .long y2), (4, .int y4)] [] σ := by
    intro K46 y1 hK46 n
    induction n with
    | zero => intro y2 y4 σ h; exact False.elim h
    | succ n ih =>
      intro y2 y4 σ h
      unfold L_X8_loadOf_5 at h
      refine r_iload C dX8_loadOf_5 3 rfl ?_
      refine r_aload_n C dX8_loadOf_7 rfl 0 rfl ?_
      refine gf_8_17 C dX8_loadOf_8 (cn_8 (by decide)) ?_
      refine r_bipush C dX8_loadOf_11 bi_6 ?_
      obtain ⟨h0, h⟩ := h
      refine r_iaload C dX8_loadOf_13 ak_53 (cn_53 (by decide)) al_53 h0 ?_
      refine r_icmp_ge (tgt := 46) C dX8_loadOf_14 rfl (fun q => ?_) (fun q => ?_)
      · have h := h.1 q
        refine r_sub [2] rfl ?_
        exact hK46 _ _ h
      · have h := h.2 q
        refine r_lload_n C dX8_loadOf_17 rfl 2 rfl ?_
        refine r_aload_n C dX8_loadOf_18 rfl 0 rfl ?_
        refine r_iload C dX8_loadOf_19 3 rfl ?_
        refine r_iload_n C dX8_loadOf_21 rfl 1 rfl ?_
        refine r_callVi [.long _] C dX8_loadOf_22 w_8_315 (ok_X8_goesThrough l g _ _ _ _ h) (Nat.le_of_ble_eq_true rfl) rfl rfl ak_8 (cn_8 (by decide)) rfl rfl (Nat.le_of_ble_eq_true rfl) (fun r2 σ1 h => ?_)
        refine r_if_eq (tgt := 37) C dX8_loadOf_25 rfl (fun q => ?_) (fun q => ?_)
        · have h := h.1 q
          refine r_lconst (v := 0) C dX8_loadOf_37 rfl ?_
          refine r_sub [0, 1, 3] rfl ?_
          exact j38 _ _ _ _ _ _ ih hK46 _ h
        · have h := h.2 q
          refine r_aload_n C dX8_loadOf_28 rfl 0 rfl ?_
          refine r_iload C dX8_loadOf_29 3 rfl ?_
          refine r_callVl [.long _] C dX8_loadOf_31 w_8_318 (ok_X8_rateOf l g _ _ _ h) (Nat.le_of_ble_eq_true rfl) rfl rfl ak_8 (cn_8 (by decide)) rfl rfl (Nat.le_of_ble_eq_true rfl) (fun r4 σ3 h => ?_)
          refine r_goto (tgt := 38) C dX8_loadOf_34 rfl ?_
          refine r_sub [0, 1, 3] rfl ?_
          exact j38 _ _ _ _ _ _ ih hK46 _ h
  unfold S_X8_loadOf at h
  show G g p l e R s m args below meth c (QL Q) 5 0 [(0, .ref (gad g 8 0)), (1, .int x1)] [] σ
  refine r_lconst (v := 0) C dX8_loadOf_0 rfl ?_
  refine r_lstore_n C dX8_loadOf_1 rfl (Nat.le_of_ble_eq_true rfl) rfl ?_
  refine r_iconst C dX8_loadOf_2 ic_0 ?_
  refine r_istore C dX8_loadOf_3 (Nat.le_of_ble_eq_true rfl) rfl ?_
  refine r_sub [2, 3, 1, 0] rfl ?_
  obtain ⟨n5, h⟩ := h
  refine l5 _ _ (fun w7 σ6 h => ?_) n5 _ _ _ h
  refine r_lload_n C dX8_loadOf_46 rfl 0 rfl ?_
  exact r_lreturn C dX8_loadOf_47 ⟨_, rfl, h⟩
def J_X8_isBorne_30 (Q : Int32 → Hp → Prop) (kb : Int32 → Hp → Prop) (K36 : Hp → Prop) (K28 : Hp → Prop) (y1 : Int32) (σ : Hp) : Prop :=
  kb (y1 + 1) σ
def L_X8_isBorne_2 (Q : Int32 → Hp → Prop) (K36 : Hp → Prop) (K28 : Hp → Prop) : Nat → Int32 → Hp → Prop
  | 0, _, _ => False
  | n + 1, y1, σ =>
  (((16 : Int32) ≤ y1 → K36 σ) ∧ (¬ (16 : Int32) ≤ y1 → S_X8_isPort y1 σ (fun r2 σ1 => ((r2 = 0 → J_X8_isBorne_30 Q (L_X8_isBorne_2 Q K36 K28 n) K36 K28 y1 σ1) ∧ (¬ r2 = 0 → S_X8_loadOf y1 σ1 (fun r4 σ3 => (((lg_cmp r4 16777216) ≤ 0 → J_X8_isBorne_30 Q (L_X8_isBorne_2 Q K36 K28 n) K36 K28 y1 σ3) ∧ (¬ (lg_cmp r4 16777216) ≤ 0 → K28 σ3))))))))
def S_X8_isBorne (σ : Hp) (Q : Int32 → Hp → Prop) : Prop :=
  (∃ n5, L_X8_isBorne_2 Q (fun σ6 => Q 1 σ6) (fun σ7 => Q 0 σ7) n5 0 σ)
set_option maxHeartbeats 2000000 in
set_option maxRecDepth 20000 in
theorem ok_X8_isBorne (l : Launch) (g : Gm) (σ : Hp) (Q : Int32 → Hp → Prop) (h : S_X8_isBorne σ Q) : Ct l g yX8_isBorne cX8_isBorne 2 (some .boolean) 6 [.ref (gad g 8 0)] σ (QI Q) := by
  refine Ct.of (by decide +kernel) (Nat.le_of_ble_eq_true rfl) ?_
  intro p e R s m args below meth c C
  have C : Cx g p R s m args meth c cX8_isBorne 2 RX8 (some .boolean) 6 := C
  have j30 : ∀ (kb : Int32 → Hp → Prop) (K36 : Hp → Prop) (K28 : Hp → Prop) (y1 : Int32) (hkb : ∀ (v1 : Int32) (σ : Hp), kb v1 σ → G g p l e R s m args below meth c (QI Q) 2 2 [(0, .ref (gad g 8 0)), (1, .int v1)] [] σ) (hK36 : ∀ (σ : Hp), K36 σ → G g p l e R s m args below meth c (QI Q) 2 36 [] [] σ) (hK28 : ∀ (σ : Hp), K28 σ → G g p l e R s m args below meth c (QI Q) 2 28 [] [] σ) (σ : Hp), J_X8_isBorne_30 Q kb K36 K28 y1 σ → G g p l e R s m args below meth c (QI Q) 2 30 [(0, .ref (gad g 8 0)), (1, .int y1)] [] σ := by
    intro kb K36 K28 y1 hkb hK36 hK28 σ h
    unfold J_X8_isBorne_30 at h
    refine r_iinc (v := y1 + 1) C dX8_isBorne_30 1 rfl rfl (Nat.le_of_ble_eq_true rfl) rfl ?_
    refine r_goto (tgt := 2) C dX8_isBorne_33 rfl ?_
    refine r_sub [1, 0] rfl ?_
    exact hkb _ _ h
  have l2 : ∀ (K36 : Hp → Prop) (K28 : Hp → Prop) (hK36 : ∀ (σ : Hp), K36 σ → G g p l e R s m args below meth c (QI Q) 2 36 [] [] σ) (hK28 : ∀ (σ : Hp), K28 σ → G g p l e R s m args below meth c (QI Q) 2 28 [] [] σ) (n : Nat) (y1 : Int32) (σ : Hp), L_X8_isBorne_2 Q K36 K28 n y1 σ → G g p l e R s m args below meth c (QI Q) 2 2 [(0, .ref (gad g 8 0)), (1, .int y1)] [] σ := by
    intro K36 K28 hK36 hK28 n
    induction n with
    | zero => intro y1 σ h; exact False.elim h
    | succ n ih =>
      intro y1 σ h
      unfold L_X8_isBorne_2 at h
      refine r_iload_n C dX8_isBorne_2 rfl 1 rfl ?_
      refine r_bipush C dX8_isBorne_3 bi_16 ?_
      refine r_icmp_ge (tgt := 36) C dX8_isBorne_5 rfl (fun q => ?_) (fun q => ?_)
      · have h := h.1 q
        refine r_sub [] rfl ?_
        exact hK36 _ h
      · have h := h.2 q
        refine r_aload_n C dX8_isBorne_8 rfl 0 rfl ?_
        refine r_iload_n C dX8_isBorne_9 rfl 1 rfl ?_
        refine r_callVi [] C dX8_isBorne_10 w_8_307 (ok_X8_isPort l g _ _ _ h) (Nat.le_of_ble_eq_true rfl) rfl rfl ak_8 (cn_8 (by decide)) rfl rfl (Nat.le_of_ble_eq_true rfl) (fun r2 σ1 h => ?_)
        refine r_if_eq (tgt := 30) C dX8_isBorne_13 rfl (fun q => ?_) (fun q => ?_)
        · have h := h.1 q
          exact j30 _ _ _ _ ih hK36 hK28 _ h
        · have h := h.2 q
          refine r_aload_n C dX8_isBorne_16 rfl 0 rfl ?_
          refine r_iload_n C dX8_isBorne_17 rfl 1 rfl ?_
          refine r_callVl [] C dX8_isBorne_18 w_8_322 (ok_X8_loadOf l g _ _ _ h) (Nat.le_of_ble_eq_true rfl) rfl rfl ak_8 (cn_8 (by decide)) rfl rfl (Nat.le_of_ble_eq_true rfl) (fun r4 σ3 h => ?_)
          refine r_ldc2 (v := 16777216) C dX8_isBorne_21 u7_44 ?_
          refine r_lcmp C dX8_isBorne_24 ?_
          refine r_if_le (tgt := 30) C dX8_isBorne_25 rfl (fun q => ?_) (fun q => ?_)
          · have h := h.1 q
            exact j30 _ _ _ _ ih hK36 hK28 _ h
          · have h := h.2 q
            refine r_sub [] rfl ?_
            exact hK28 _ h
  unfold S_X8_isBorne at h
  show G g p l e R s m args below meth c (QI Q) 2 0 [(0, .ref (gad g 8 0))] [] σ
  refine r_iconst C dX8_isBorne_0 ic_0 ?_
  refine r_istore_n C dX8_isBorne_1 rfl (Nat.le_of_ble_eq_true rfl) rfl ?_
  refine r_sub [1, 0] rfl ?_
  obtain ⟨n5, h⟩ := h
  refine l2 _ _ (fun σ6 h => ?_) (fun σ7 h => ?_) n5 _ _ h
  · refine r_iconst C dX8_isBorne_36 ic_1 ?_
    exact r_zreturn C dX8_isBorne_37 zb1.1 ⟨_, rfl, h⟩
  · refine r_iconst C dX8_isBorne_28 ic_0 ?_
    exact r_zreturn C dX8_isBorne_29 zb0.1 ⟨_, rfl, h⟩
def L_X8_boundOf_5 (Q : Int64 → Hp → Prop) (K37 : Int64 → Hp → Prop) (y1 : Int32) (y2 : Int32) : Nat → Int64 → Int32 → Hp → Prop
  | 0, _, _, _ => False
  | n + 1, y3, y5, σ =>
  S_X8_wayLong y1 y2 σ (fun r2 σ1 => ((r2 ≤ y5 → K37 y3 σ1) ∧ (¬ r2 ≤ y5 → S_X8_wayOf y1 y2 y5 σ1 (fun r4 σ3 => S_X8_delayOf8 r4 σ3 (fun r6 σ5 => L_X8_boundOf_5 Q K37 y1 y2 n (y3 + r6) (y5 + 1) σ5)))))
def S_X8_boundOf (x1 : Int32) (x2 : Int32) (σ : Hp) (Q : Int64 → Hp → Prop) : Prop :=
  (∃ n7, L_X8_boundOf_5 Q (fun w9 σ8 => Q w9 σ8) x1 x2 n7 0 0 σ)
set_option maxHeartbeats 2000000 in
set_option maxRecDepth 20000 in
theorem ok_X8_boundOf (l : Launch) (g : Gm) (x1 : Int32) (x2 : Int32) (σ : Hp) (Q : Int64 → Hp → Prop) (h : S_X8_boundOf x1 x2 σ Q) : Ct l g yX8_boundOf cX8_boundOf 6 (some .long) 65 [.ref (gad g 8 0), .int x1, .int x2] σ (QL Q) := by
  refine Ct.of (by decide +kernel) (Nat.le_of_ble_eq_true rfl) ?_
  intro p e R s m args below meth c C
  have C : Cx g p R s m args meth c cX8_boundOf 6 RX8 (some .long) 65 := C
  have l5 : ∀ (K37 : Int64 → Hp → Prop) (y1 : Int32) (y2 : Int32) (hK37 : ∀ (v3 : Int64) (σ : Hp), K37 v3 σ → G g p l e R s m args below meth c (QL Q) 6 37 [(3, .long v3)] [] σ) (n : Nat) (y3 : Int64) (y5 : Int32) (σ : Hp), L_X8_boundOf_5 Q K37 y1 y2 n y3 y5 σ → G g p l e R s m args below meth c (QL Q) 6 5 [(0, .ref (gad g 8 0)), (1, .int y1), (2, .int y2), (3, .long y3), (5, .int y5)] [] σ := by
    intro K37 y1 y2 hK37 n
    induction n with
    | zero => intro y3 y5 σ h; exact False.elim h
    | succ n ih =>
      intro y3 y5 σ h
      unfold L_X8_boundOf_5 at h
      refine r_iload C dX8_boundOf_5 4 rfl ?_
      refine r_aload_n C dX8_boundOf_7 rfl 0 rfl ?_
      refine r_iload_n C dX8_boundOf_8 rfl 1 rfl ?_
      refine r_iload_n C dX8_boundOf_9 rfl 2 rfl ?_
      refine r_callVi [.int _] C dX8_boundOf_10 w_8_236 (ok_X8_wayLong l g _ _ _ _ h) (Nat.le_of_ble_eq_true rfl) rfl rfl ak_8 (cn_8 (by decide)) rfl rfl (Nat.le_of_ble_eq_true rfl) (fun r2 σ1 h => ?_)
      refine r_icmp_ge (tgt := 37) C dX8_boundOf_13 rfl (fun q => ?_) (fun q => ?_)
      · have h := h.1 q
        refine r_sub [3] rfl ?_
        exact hK37 _ _ h
      · have h := h.2 q
        refine r_lload_n C dX8_boundOf_16 rfl 3 rfl ?_
        refine r_aload_n C dX8_boundOf_17 rfl 0 rfl ?_
        refine r_aload_n C dX8_boundOf_18 rfl 0 rfl ?_
        refine r_iload_n C dX8_boundOf_19 rfl 1 rfl ?_
        refine r_iload_n C dX8_boundOf_20 rfl 2 rfl ?_
        refine r_iload C dX8_boundOf_21 4 rfl ?_
        refine r_callVi [.ref (gad g 8 0), .long _] C dX8_boundOf_23 w_8_239 (ok_X8_wayOf l g _ _ _ _ _ h) (Nat.le_of_ble_eq_true rfl) rfl rfl ak_8 (cn_8 (by decide)) rfl rfl (Nat.le_of_ble_eq_true rfl) (fun r4 σ3 h => ?_)
        refine r_callVl [.long _] C dX8_boundOf_26 w_8_332 (ok_X8_delayOf8 l g _ _ _ h) (Nat.le_of_ble_eq_true rfl) rfl rfl ak_8 (cn_8 (by decide)) rfl rfl (Nat.le_of_ble_eq_true rfl) (fun r6 σ5 h => ?_)
        refine r_ladd C dX8_boundOf_29 ?_
        refine r_lstore_n C dX8_boundOf_30 rfl (Nat.le_of_ble_eq_true rfl) rfl ?_
        refine r_iinc (v := y5 + 1) C dX8_boundOf_31 4 rfl rfl (Nat.le_of_ble_eq_true rfl) rfl ?_
        refine r_goto (tgt := 5) C dX8_boundOf_34 rfl ?_
        refine r_sub [2, 3, 4, 1, 0] rfl ?_
        exact ih _ _ _ h
  unfold S_X8_boundOf at h
  show G g p l e R s m args below meth c (QL Q) 6 0 [(0, .ref (gad g 8 0)), (1, .int x1), (2, .int x2)] [] σ
  refine r_lconst (v := 0) C dX8_boundOf_0 rfl ?_
  refine r_lstore_n C dX8_boundOf_1 rfl (Nat.le_of_ble_eq_true rfl) rfl ?_
  refine r_iconst C dX8_boundOf_2 ic_0 ?_
  refine r_istore C dX8_boundOf_3 (Nat.le_of_ble_eq_true rfl) rfl ?_
  refine r_sub [2, 3, 4, 1, 0] rfl ?_
  obtain ⟨n7, h⟩ := h
  refine l5 _ _ _ (fun w9 σ8 h => ?_) n7 _ _ _ h
  refine r_lload_n C dX8_boundOf_37 rfl 0 rfl ?_
  exact r_lreturn C dX8_boundOf_38 ⟨_, rfl, h⟩
def S_X8_load (x1 : Int32) (x2 : Int32) (σ : Hp) (Q : Int64 → Hp → Prop) : Prop :=
  S_X8_fresh σ (fun σ1 => S_X8_isPort x1 σ1 (fun r3 σ2 => ((r3 = 0 → S_X8_no 1 σ2 (fun r5 σ4 => Q r5.toInt64 σ4)) ∧ (¬ r3 = 0 → S_X8_loadOf x1 σ2 (fun r7 σ6 => S_X8_part r7 16777216 x2 σ6 (fun r9 σ8 => Q r9 σ8))))))
set_option maxHeartbeats 2000000 in
set_option maxRecDepth 20000 in
theorem ok_X8_load (l : Launch) (g : Gm) (x1 : Int32) (x2 : Int32) (σ : Hp) (Q : Int64 → Hp → Prop) (h : S_X8_load x1 x2 σ Q) : Ct l g yX8_load cX8_load 3 (some .long) 6 [.ref (gad g 8 0), .int x1, .int x2] σ (QL Q) := by
  refine Ct.of (by decide +kernel) (Nat.le_of_ble_eq_true rfl) ?_
  intro p e R s m args below meth c C
  have C : Cx g p R s m args meth c cX8_load 3 RX8 (some .long) 6 := C
  unfold S_X8_load at h
  show G g p l e R s m args below meth c (QL Q) 3 0 [(0, .ref (gad g 8 0)), (1, .int x1), (2, .int x2)] [] σ
  refine r_aload_n C dX8_load_0 rfl 0 rfl ?_
  refine r_callVv [] C dX8_load_1 w_8_200 (ok_X8_fresh l g _ _ h) (Nat.le_of_ble_eq_true rfl) rfl rfl ak_8 (cn_8 (by decide)) rfl rfl (Nat.le_of_ble_eq_true rfl) (fun σ1 h => ?_)
  refine r_aload_n C dX8_load_4 rfl 0 rfl ?_
  refine r_iload_n C dX8_load_5 rfl 1 rfl ?_
  refine r_callVi [] C dX8_load_6 w_8_307 (ok_X8_isPort l g _ _ _ h) (Nat.le_of_ble_eq_true rfl) rfl rfl ak_8 (cn_8 (by decide)) rfl rfl (Nat.le_of_ble_eq_true rfl) (fun r3 σ2 h => ?_)
  refine r_if_eq (tgt := 27) C dX8_load_9 rfl (fun q => ?_) (fun q => ?_)
  · have h := h.1 q
    refine r_aload_n C dX8_load_27 rfl 0 rfl ?_
    refine r_iconst C dX8_load_28 ic_1 ?_
    refine r_callVi [] C dX8_load_29 w_8_203 (ok_X8_no l g _ _ _ h) (Nat.le_of_ble_eq_true rfl) rfl rfl ak_8 (cn_8 (by decide)) rfl rfl (Nat.le_of_ble_eq_true rfl) (fun r5 σ4 h => ?_)
    refine r_i2l C dX8_load_32 ?_
    exact r_lreturn C dX8_load_33 ⟨_, rfl, h⟩
  · have h := h.2 q
    refine r_aload_n C dX8_load_12 rfl 0 rfl ?_
    refine r_iload_n C dX8_load_13 rfl 1 rfl ?_
    refine r_callVl [] C dX8_load_14 w_8_322 (ok_X8_loadOf l g _ _ _ h) (Nat.le_of_ble_eq_true rfl) rfl rfl ak_8 (cn_8 (by decide)) rfl rfl (Nat.le_of_ble_eq_true rfl) (fun r7 σ6 h => ?_)
    refine r_ldc2 (v := 16777216) C dX8_load_17 u7_44 ?_
    refine r_iload_n C dX8_load_20 rfl 2 rfl ?_
    refine r_callSl [] C dX8_load_21 w_8_335 (ok_X8_part l g _ _ _ _ _ h) (Nat.le_of_ble_eq_true rfl) rfl rfl (Nat.le_of_ble_eq_true rfl) (fun r9 σ8 h => ?_)
    refine r_goto (tgt := 33) C dX8_load_24 rfl ?_
    exact r_lreturn C dX8_load_33 ⟨_, rfl, h⟩
def S_X8_delay (x1 : Int32) (x2 : Int32) (σ : Hp) (Q : Int64 → Hp → Prop) : Prop :=
  S_X8_fresh σ (fun σ1 => S_X8_isPort x1 σ1 (fun r3 σ2 => ((¬ r3 = 0 → S_X8_isBorne σ2 (fun r5 σ4 => ((r5 = 0 → S_X8_no 5 σ4 (fun r7 σ6 => Q r7.toInt64 σ6)) ∧ (¬ r5 = 0 → S_X8_delayOf8 x1 σ4 (fun r9 σ8 => S_X8_part r9 16777216 x2 σ8 (fun r11 σ10 => Q r11 σ10)))))) ∧ (r3 = 0 → S_X8_no 1 σ2 (fun r13 σ12 => Q r13.toInt64 σ12)))))
set_option maxHeartbeats 2000000 in
set_option maxRecDepth 20000 in
theorem ok_X8_delay (l : Launch) (g : Gm) (x1 : Int32) (x2 : Int32) (σ : Hp) (Q : Int64 → Hp → Prop) (h : S_X8_delay x1 x2 σ Q) : Ct l g yX8_delay cX8_delay 3 (some .long) 65 [.ref (gad g 8 0), .int x1, .int x2] σ (QL Q) := by
  refine Ct.of (by decide +kernel) (Nat.le_of_ble_eq_true rfl) ?_
  intro p e R s m args below meth c C
  have C : Cx g p R s m args meth c cX8_delay 3 RX8 (some .long) 65 := C
  unfold S_X8_delay at h
  show G g p l e R s m args below meth c (QL Q) 3 0 [(0, .ref (gad g 8 0)), (1, .int x1), (2, .int x2)] [] σ
  refine r_aload_n C dX8_delay_0 rfl 0 rfl ?_
  refine r_callVv [] C dX8_delay_1 w_8_200 (ok_X8_fresh l g _ _ h) (Nat.le_of_ble_eq_true rfl) rfl rfl ak_8 (cn_8 (by decide)) rfl rfl (Nat.le_of_ble_eq_true rfl) (fun σ1 h => ?_)
  refine r_aload_n C dX8_delay_4 rfl 0 rfl ?_
  refine r_iload_n C dX8_delay_5 rfl 1 rfl ?_
  refine r_callVi [] C dX8_delay_6 w_8_307 (ok_X8_isPort l g _ _ _ h) (Nat.le_of_ble_eq_true rfl) rfl rfl ak_8 (cn_8 (by decide)) rfl rfl (Nat.le_of_ble_eq_true rfl) (fun r3 σ2 h => ?_)
  refine r_if_ne (tgt := 19) C dX8_delay_9 rfl (fun q => ?_) (fun q => ?_)
  · have h := h.1 q
    refine r_aload_n C dX8_delay_19 rfl 0 rfl ?_
    refine r_callVi [] C dX8_delay_20 w_8_339 (ok_X8_isBorne l g _ _ h) (Nat.le_of_ble_eq_true rfl) rfl rfl ak_8 (cn_8 (by decide)) rfl rfl (Nat.le_of_ble_eq_true rfl) (fun r5 σ4 h => ?_)
    refine r_if_eq (tgt := 41) C dX8_delay_23 rfl (fun q => ?_) (fun q => ?_)
    · have h := h.1 q
      refine r_aload_n C dX8_delay_41 rfl 0 rfl ?_
      refine r_iconst C dX8_delay_42 ic_5 ?_
      refine r_callVi [] C dX8_delay_43 w_8_203 (ok_X8_no l g _ _ _ h) (Nat.le_of_ble_eq_true rfl) rfl rfl ak_8 (cn_8 (by decide)) rfl rfl (Nat.le_of_ble_eq_true rfl) (fun r7 σ6 h => ?_)
      refine r_i2l C dX8_delay_46 ?_
      exact r_lreturn C dX8_delay_47 ⟨_, rfl, h⟩
    · have h := h.2 q
      refine r_aload_n C dX8_delay_26 rfl 0 rfl ?_
      refine r_iload_n C dX8_delay_27 rfl 1 rfl ?_
      refine r_callVl [] C dX8_delay_28 w_8_332 (ok_X8_delayOf8 l g _ _ _ h) (Nat.le_of_ble_eq_true rfl) rfl rfl ak_8 (cn_8 (by decide)) rfl rfl (Nat.le_of_ble_eq_true rfl) (fun r9 σ8 h => ?_)
      refine r_ldc2 (v := 16777216) C dX8_delay_31 u7_44 ?_
      refine r_iload_n C dX8_delay_34 rfl 2 rfl ?_
      refine r_callSl [] C dX8_delay_35 w_8_335 (ok_X8_part l g _ _ _ _ _ h) (Nat.le_of_ble_eq_true rfl) rfl rfl (Nat.le_of_ble_eq_true rfl) (fun r11 σ10 h => ?_)
      refine r_goto (tgt := 47) C dX8_delay_38 rfl ?_
      exact r_lreturn C dX8_delay_47 ⟨_, rfl, h⟩
  · have h := h.2 q
    refine r_aload_n C dX8_delay_12 rfl 0 rfl ?_
    refine r_iconst C dX8_delay_13 ic_1 ?_
    refine r_callVi [] C dX8_delay_14 w_8_203 (ok_X8_no l g _ _ _ h) (Nat.le_of_ble_eq_true rfl) rfl rfl ak_8 (cn_8 (by decide)) rfl rfl (Nat.le_of_ble_eq_true rfl) (fun r13 σ12 h => ?_)
    refine r_i2l C dX8_delay_17 ?_
    exact r_lreturn C dX8_delay_18 ⟨_, rfl, h⟩
def J_X8_burst_30 (Q : Int64 → Hp → Prop) (σ : Hp) : Prop :=
  S_X8_no 1 σ (fun r5 σ4 => Q r5.toInt64 σ4)
def S_X8_burst (x1 : Int32) (x2 : Int32) (x3 : Int32) (x4 : Int32) (σ : Hp) (Q : Int64 → Hp → Prop) : Prop :=
  S_X8_fresh σ (fun σ1 => S_X8_isReceiver x1 x2 0 σ1 (fun r3 σ2 => ((r3 = 0 → J_X8_burst_30 Q σ2) ∧ (¬ r3 = 0 → S_X8_wayLong x1 x2 σ2 (fun r7 σ6 => S_X8_in x3 1 (r7 - 1) σ6 (fun r9 σ8 => ((¬ r9 = 0 → S_X8_isBorne σ8 (fun r11 σ10 => ((r11 = 0 → S_X8_no 5 σ10 (fun r13 σ12 => Q r13.toInt64 σ12)) ∧ (¬ r11 = 0 → S_X8_wayOf x1 x2 x3 σ10 (fun r15 σ14 => S_X8_burstOf8 x1 r15 σ14 (fun r17 σ16 => S_X8_part r17 16777216 x4 σ16 (fun r19 σ18 => Q r19 σ18))))))) ∧ (r9 = 0 → J_X8_burst_30 Q σ8))))))))
set_option maxHeartbeats 2000000 in
set_option maxRecDepth 20000 in
theorem ok_X8_burst (l : Launch) (g : Gm) (x1 : Int32) (x2 : Int32) (x3 : Int32) (x4 : Int32) (σ : Hp) (Q : Int64 → Hp → Prop) (h : S_X8_burst x1 x2 x3 x4 σ Q) : Ct l g yX8_burst cX8_burst 5 (some .long) 65 [.ref (gad g 8 0), .int x1, .int x2, .int x3, .int x4] σ (QL Q) := by
  refine Ct.of (by decide +kernel) (Nat.le_of_ble_eq_true rfl) ?_
  intro p e R s m args below meth c C
  have C : Cx g p R s m args meth c cX8_burst 5 RX8 (some .long) 65 := C
  have j30 : ∀ (σ : Hp), J_X8_burst_30 Q σ → G g p l e R s m args below meth c (QL Q) 5 30 [(0, .ref (gad g 8 0))] [] σ := by
    intro σ h
    unfold J_X8_burst_30 at h
    refine r_aload_n C dX8_burst_30 rfl 0 rfl ?_
    refine r_iconst C dX8_burst_31 ic_1 ?_
    refine r_callVi [] C dX8_burst_32 w_8_203 (ok_X8_no l g _ _ _ h) (Nat.le_of_ble_eq_true rfl) rfl rfl ak_8 (cn_8 (by decide)) rfl rfl (Nat.le_of_ble_eq_true rfl) (fun r5 σ4 h => ?_)
    refine r_i2l C dX8_burst_35 ?_
    exact r_lreturn C dX8_burst_36 ⟨_, rfl, h⟩
  unfold S_X8_burst at h
  show G g p l e R s m args below meth c (QL Q) 5 0 [(0, .ref (gad g 8 0)), (1, .int x1), (2, .int x2), (3, .int x3), (4, .int x4)] [] σ
  refine r_aload_n C dX8_burst_0 rfl 0 rfl ?_
  refine r_callVv [] C dX8_burst_1 w_8_200 (ok_X8_fresh l g _ _ h) (Nat.le_of_ble_eq_true rfl) rfl rfl ak_8 (cn_8 (by decide)) rfl rfl (Nat.le_of_ble_eq_true rfl) (fun σ1 h => ?_)
  refine r_aload_n C dX8_burst_4 rfl 0 rfl ?_
  refine r_iload_n C dX8_burst_5 rfl 1 rfl ?_
  refine r_iload_n C dX8_burst_6 rfl 2 rfl ?_
  refine r_iconst C dX8_burst_7 ic_0 ?_
  refine r_callVi [] C dX8_burst_8 w_8_243 (ok_X8_isReceiver l g _ _ _ _ _ h) (Nat.le_of_ble_eq_true rfl) rfl rfl ak_8 (cn_8 (by decide)) rfl rfl (Nat.le_of_ble_eq_true rfl) (fun r3 σ2 h => ?_)
  refine r_if_eq (tgt := 30) C dX8_burst_11 rfl (fun q => ?_) (fun q => ?_)
  · have h := h.1 q
    refine r_sub [0] rfl ?_
    exact j30 _ h
  · have h := h.2 q
    refine r_iload_n C dX8_burst_14 rfl 3 rfl ?_
    refine r_iconst C dX8_burst_15 ic_1 ?_
    refine r_aload_n C dX8_burst_16 rfl 0 rfl ?_
    refine r_iload_n C dX8_burst_17 rfl 1 rfl ?_
    refine r_iload_n C dX8_burst_18 rfl 2 rfl ?_
    refine r_callVi [.int _, .int _] C dX8_burst_19 w_8_236 (ok_X8_wayLong l g _ _ _ _ h) (Nat.le_of_ble_eq_true rfl) rfl rfl ak_8 (cn_8 (by decide)) rfl rfl (Nat.le_of_ble_eq_true rfl) (fun r7 σ6 h => ?_)
    refine r_iconst C dX8_burst_22 ic_1 ?_
    refine r_isub C dX8_burst_23 ?_
    refine r_callSi [] C dX8_burst_24 w_8_80 (ok_X8_in l g _ _ _ _ _ h) (Nat.le_of_ble_eq_true rfl) rfl rfl (Nat.le_of_ble_eq_true rfl) (fun r9 σ8 h => ?_)
    refine r_if_ne (tgt := 37) C dX8_burst_27 rfl (fun q => ?_) (fun q => ?_)
    · have h := h.1 q
      refine r_aload_n C dX8_burst_37 rfl 0 rfl ?_
      refine r_callVi [] C dX8_burst_38 w_8_339 (ok_X8_isBorne l g _ _ h) (Nat.le_of_ble_eq_true rfl) rfl rfl ak_8 (cn_8 (by decide)) rfl rfl (Nat.le_of_ble_eq_true rfl) (fun r11 σ10 h => ?_)
      refine r_if_eq (tgt := 67) C dX8_burst_41 rfl (fun q => ?_) (fun q => ?_)
      · have h := h.1 q
        refine r_aload_n C dX8_burst_67 rfl 0 rfl ?_
        refine r_iconst C dX8_burst_68 ic_5 ?_
        refine r_callVi [] C dX8_burst_69 w_8_203 (ok_X8_no l g _ _ _ h) (Nat.le_of_ble_eq_true rfl) rfl rfl ak_8 (cn_8 (by decide)) rfl rfl (Nat.le_of_ble_eq_true rfl) (fun r13 σ12 h => ?_)
        refine r_i2l C dX8_burst_72 ?_
        exact r_lreturn C dX8_burst_73 ⟨_, rfl, h⟩
      · have h := h.2 q
        refine r_aload_n C dX8_burst_44 rfl 0 rfl ?_
        refine r_iload_n C dX8_burst_45 rfl 1 rfl ?_
        refine r_aload_n C dX8_burst_46 rfl 0 rfl ?_
        refine r_iload_n C dX8_burst_47 rfl 1 rfl ?_
        refine r_iload_n C dX8_burst_48 rfl 2 rfl ?_
        refine r_iload_n C dX8_burst_49 rfl 3 rfl ?_
        refine r_callVi [.int _, .ref (gad g 8 0)] C dX8_burst_50 w_8_239 (ok_X8_wayOf l g _ _ _ _ _ h) (Nat.le_of_ble_eq_true rfl) rfl rfl ak_8 (cn_8 (by decide)) rfl rfl (Nat.le_of_ble_eq_true rfl) (fun r15 σ14 h => ?_)
        refine r_callVl [] C dX8_burst_53 w_8_328 (ok_X8_burstOf8 l g _ _ _ _ h) (Nat.le_of_ble_eq_true rfl) rfl rfl ak_8 (cn_8 (by decide)) rfl rfl (Nat.le_of_ble_eq_true rfl) (fun r17 σ16 h => ?_)
        refine r_ldc2 (v := 16777216) C dX8_burst_56 u7_44 ?_
        refine r_iload C dX8_burst_59 4 rfl ?_
        refine r_callSl [] C dX8_burst_61 w_8_335 (ok_X8_part l g _ _ _ _ _ h) (Nat.le_of_ble_eq_true rfl) rfl rfl (Nat.le_of_ble_eq_true rfl) (fun r19 σ18 h => ?_)
        refine r_goto (tgt := 73) C dX8_burst_64 rfl ?_
        exact r_lreturn C dX8_burst_73 ⟨_, rfl, h⟩
    · have h := h.2 q
      refine r_sub [0] rfl ?_
      exact j30 _ h
def S_X8_bound (x1 : Int32) (x2 : Int32) (x3 : Int32) (σ : Hp) (Q : Int64 → Hp → Prop) : Prop :=
  S_X8_fresh σ (fun σ1 => S_X8_isReceiver x1 x2 0 σ1 (fun r3 σ2 => ((¬ r3 = 0 → S_X8_isBorne σ2 (fun r5 σ4 => ((r5 = 0 → S_X8_no 5 σ4 (fun r7 σ6 => Q r7.toInt64 σ6)) ∧ (¬ r5 = 0 → S_X8_boundOf x1 x2 σ4 (fun r9 σ8 => S_X8_part r9 16777216 x3 σ8 (fun r11 σ10 => Q r11 σ10)))))) ∧ (r3 = 0 → S_X8_no 1 σ2 (fun r13 σ12 => Q r13.toInt64 σ12)))))
set_option maxHeartbeats 2000000 in
set_option maxRecDepth 20000 in
theorem ok_X8_bound (l : Launch) (g : Gm) (x1 : Int32) (x2 : Int32) (x3 : Int32) (σ : Hp) (Q : Int64 → Hp → Prop) (h : S_X8_bound x1 x2 x3 σ Q) : Ct l g yX8_bound cX8_bound 4 (some .long) 66 [.ref (gad g 8 0), .int x1, .int x2, .int x3] σ (QL Q) := by
  refine Ct.of (by decide +kernel) (Nat.le_of_ble_eq_true rfl) ?_
  intro p e R s m args below meth c C
  have C : Cx g p R s m args meth c cX8_bound 4 RX8 (some .long) 66 := C
  unfold S_X8_bound at h
  show G g p l e R s m args below meth c (QL Q) 4 0 [(0, .ref (gad g 8 0)), (1, .int x1), (2, .int x2), (3, .int x3)] [] σ
  refine r_aload_n C dX8_bound_0 rfl 0 rfl ?_
  refine r_callVv [] C dX8_bound_1 w_8_200 (ok_X8_fresh l g _ _ h) (Nat.le_of_ble_eq_true rfl) rfl rfl ak_8 (cn_8 (by decide)) rfl rfl (Nat.le_of_ble_eq_true rfl) (fun σ1 h => ?_)
  refine r_aload_n C dX8_bound_4 rfl 0 rfl ?_
  refine r_iload_n C dX8_bound_5 rfl 1 rfl ?_
  refine r_iload_n C dX8_bound_6 rfl 2 rfl ?_
  refine r_iconst C dX8_bound_7 ic_0 ?_
  refine r_callVi [] C dX8_bound_8 w_8_243 (ok_X8_isReceiver l g _ _ _ _ _ h) (Nat.le_of_ble_eq_true rfl) rfl rfl ak_8 (cn_8 (by decide)) rfl rfl (Nat.le_of_ble_eq_true rfl) (fun r3 σ2 h => ?_)
  refine r_if_ne (tgt := 21) C dX8_bound_11 rfl (fun q => ?_) (fun q => ?_)
  · have h := h.1 q
    refine r_aload_n C dX8_bound_21 rfl 0 rfl ?_
    refine r_callVi [] C dX8_bound_22 w_8_339 (ok_X8_isBorne l g _ _ h) (Nat.le_of_ble_eq_true rfl) rfl rfl ak_8 (cn_8 (by decide)) rfl rfl (Nat.le_of_ble_eq_true rfl) (fun r5 σ4 h => ?_)
    refine r_if_eq (tgt := 44) C dX8_bound_25 rfl (fun q => ?_) (fun q => ?_)
    · have h := h.1 q
      refine r_aload_n C dX8_bound_44 rfl 0 rfl ?_
      refine r_iconst C dX8_bound_45 ic_5 ?_
      refine r_callVi [] C dX8_bound_46 w_8_203 (ok_X8_no l g _ _ _ h) (Nat.le_of_ble_eq_true rfl) rfl rfl ak_8 (cn_8 (by decide)) rfl rfl (Nat.le_of_ble_eq_true rfl) (fun r7 σ6 h => ?_)
      refine r_i2l C dX8_bound_49 ?_
      exact r_lreturn C dX8_bound_50 ⟨_, rfl, h⟩
    · have h := h.2 q
      refine r_aload_n C dX8_bound_28 rfl 0 rfl ?_
      refine r_iload_n C dX8_bound_29 rfl 1 rfl ?_
      refine r_iload_n C dX8_bound_30 rfl 2 rfl ?_
      refine r_callVl [] C dX8_bound_31 w_8_342 (ok_X8_boundOf l g _ _ _ _ h) (Nat.le_of_ble_eq_true rfl) rfl rfl ak_8 (cn_8 (by decide)) rfl rfl (Nat.le_of_ble_eq_true rfl) (fun r9 σ8 h => ?_)
      refine r_ldc2 (v := 16777216) C dX8_bound_34 u7_44 ?_
      refine r_iload_n C dX8_bound_37 rfl 3 rfl ?_
      refine r_callSl [] C dX8_bound_38 w_8_335 (ok_X8_part l g _ _ _ _ _ h) (Nat.le_of_ble_eq_true rfl) rfl rfl (Nat.le_of_ble_eq_true rfl) (fun r11 σ10 h => ?_)
      refine r_goto (tgt := 50) C dX8_bound_41 rfl ?_
      exact r_lreturn C dX8_bound_50 ⟨_, rfl, h⟩
  · have h := h.2 q
    refine r_aload_n C dX8_bound_14 rfl 0 rfl ?_
    refine r_iconst C dX8_bound_15 ic_1 ?_
    refine r_callVi [] C dX8_bound_16 w_8_203 (ok_X8_no l g _ _ _ h) (Nat.le_of_ble_eq_true rfl) rfl rfl ak_8 (cn_8 (by decide)) rfl rfl (Nat.le_of_ble_eq_true rfl) (fun r13 σ12 h => ?_)
    refine r_i2l C dX8_bound_19 ?_
    exact r_lreturn C dX8_bound_20 ⟨_, rfl, h⟩
def S_X8_keeps (x1 : Int32) (x2 : Int32) (σ : Hp) (Q : Int32 → Hp → Prop) : Prop :=
  S_X8_fresh σ (fun σ1 => S_X8_isReceiver x1 x2 0 σ1 (fun r3 σ2 => ((¬ r3 = 0 → S_X8_isBorne σ2 (fun r5 σ4 => ((¬ r5 = 0 → S_X8_hearAt x1 x2 σ4 (fun r7 σ6 => vp_in (r7 + 6) 1809 ∧ S_X8_boundOf x1 x2 σ6 (fun r9 σ8 => (((0 : Int32) < (lg_cmp (((gI σ6 61 0 (ix (r7 + 6))).toInt64) * 16777216) r9) → Q 0 σ8) ∧ (¬ (0 : Int32) < (lg_cmp (((gI σ6 61 0 (ix (r7 + 6))).toInt64) * 16777216) r9) → Q 1 σ8))))) ∧ (r5 = 0 → S_X8_no 5 σ4 (fun r11 σ10 => Q r11 σ10))))) ∧ (r3 = 0 → S_X8_no 1 σ2 (fun r13 σ12 => Q r13 σ12)))))
set_option maxHeartbeats 2000000 in
set_option maxRecDepth 20000 in
theorem ok_X8_keeps (l : Launch) (g : Gm) (x1 : Int32) (x2 : Int32) (σ : Hp) (Q : Int32 → Hp → Prop) (h : S_X8_keeps x1 x2 σ Q) : Ct l g yX8_keeps cX8_keeps 3 (some .int) 66 [.ref (gad g 8 0), .int x1, .int x2] σ (QI Q) := by
  refine Ct.of (by decide +kernel) (Nat.le_of_ble_eq_true rfl) ?_
  intro p e R s m args below meth c C
  have C : Cx g p R s m args meth c cX8_keeps 3 RX8 (some .int) 66 := C
  unfold S_X8_keeps at h
  show G g p l e R s m args below meth c (QI Q) 3 0 [(0, .ref (gad g 8 0)), (1, .int x1), (2, .int x2)] [] σ
  refine r_aload_n C dX8_keeps_0 rfl 0 rfl ?_
  refine r_callVv [] C dX8_keeps_1 w_8_200 (ok_X8_fresh l g _ _ h) (Nat.le_of_ble_eq_true rfl) rfl rfl ak_8 (cn_8 (by decide)) rfl rfl (Nat.le_of_ble_eq_true rfl) (fun σ1 h => ?_)
  refine r_aload_n C dX8_keeps_4 rfl 0 rfl ?_
  refine r_iload_n C dX8_keeps_5 rfl 1 rfl ?_
  refine r_iload_n C dX8_keeps_6 rfl 2 rfl ?_
  refine r_iconst C dX8_keeps_7 ic_0 ?_
  refine r_callVi [] C dX8_keeps_8 w_8_243 (ok_X8_isReceiver l g _ _ _ _ _ h) (Nat.le_of_ble_eq_true rfl) rfl rfl ak_8 (cn_8 (by decide)) rfl rfl (Nat.le_of_ble_eq_true rfl) (fun r3 σ2 h => ?_)
  refine r_if_ne (tgt := 20) C dX8_keeps_11 rfl (fun q => ?_) (fun q => ?_)
  · have h := h.1 q
    refine r_aload_n C dX8_keeps_20 rfl 0 rfl ?_
    refine r_callVi [] C dX8_keeps_21 w_8_339 (ok_X8_isBorne l g _ _ h) (Nat.le_of_ble_eq_true rfl) rfl rfl ak_8 (cn_8 (by decide)) rfl rfl (Nat.le_of_ble_eq_true rfl) (fun r5 σ4 h => ?_)
    refine r_if_ne (tgt := 33) C dX8_keeps_24 rfl (fun q => ?_) (fun q => ?_)
    · have h := h.1 q
      refine r_aload_n C dX8_keeps_33 rfl 0 rfl ?_
      refine gf_8_42 C dX8_keeps_34 (cn_8 (by decide)) ?_
      refine r_iload_n C dX8_keeps_37 rfl 1 rfl ?_
      refine r_iload_n C dX8_keeps_38 rfl 2 rfl ?_
      refine r_callSi [.ref (gad g 61 0)] C dX8_keeps_39 w_8_252 (ok_X8_hearAt l g _ _ _ _ h) (Nat.le_of_ble_eq_true rfl) rfl rfl (Nat.le_of_ble_eq_true rfl) (fun r7 σ6 h => ?_)
      refine r_bipush C dX8_keeps_42 bi_6 ?_
      refine r_iadd C dX8_keeps_44 ?_
      obtain ⟨h0, h⟩ := h
      refine r_iaload C dX8_keeps_45 ak_61 (cn_61 (by decide)) al_61 h0 ?_
      refine r_i2l C dX8_keeps_46 ?_
      refine r_ldc2 (v := 16777216) C dX8_keeps_47 u7_44 ?_
      refine r_lmul C dX8_keeps_50 ?_
      refine r_aload_n C dX8_keeps_51 rfl 0 rfl ?_
      refine r_iload_n C dX8_keeps_52 rfl 1 rfl ?_
      refine r_iload_n C dX8_keeps_53 rfl 2 rfl ?_
      refine r_callVl [.long _] C dX8_keeps_54 w_8_342 (ok_X8_boundOf l g _ _ _ _ h) (Nat.le_of_ble_eq_true rfl) rfl rfl ak_8 (cn_8 (by decide)) rfl rfl (Nat.le_of_ble_eq_true rfl) (fun r9 σ8 h => ?_)
      refine r_lcmp C dX8_keeps_57 ?_
      refine r_if_gt (tgt := 65) C dX8_keeps_58 rfl (fun q => ?_) (fun q => ?_)
      · have h := h.1 q
        refine r_iconst C dX8_keeps_65 ic_0 ?_
        exact r_ireturn C dX8_keeps_66 ⟨_, rfl, h⟩
      · have h := h.2 q
        refine r_iconst C dX8_keeps_61 ic_1 ?_
        refine r_goto (tgt := 66) C dX8_keeps_62 rfl ?_
        exact r_ireturn C dX8_keeps_66 ⟨_, rfl, h⟩
    · have h := h.2 q
      refine r_aload_n C dX8_keeps_27 rfl 0 rfl ?_
      refine r_iconst C dX8_keeps_28 ic_5 ?_
      refine r_callVi [] C dX8_keeps_29 w_8_203 (ok_X8_no l g _ _ _ h) (Nat.le_of_ble_eq_true rfl) rfl rfl ak_8 (cn_8 (by decide)) rfl rfl (Nat.le_of_ble_eq_true rfl) (fun r11 σ10 h => ?_)
      exact r_ireturn C dX8_keeps_32 ⟨_, rfl, h⟩
  · have h := h.2 q
    refine r_aload_n C dX8_keeps_14 rfl 0 rfl ?_
    refine r_iconst C dX8_keeps_15 ic_1 ?_
    refine r_callVi [] C dX8_keeps_16 w_8_203 (ok_X8_no l g _ _ _ h) (Nat.le_of_ble_eq_true rfl) rfl rfl ak_8 (cn_8 (by decide)) rfl rfl (Nat.le_of_ble_eq_true rfl) (fun r13 σ12 h => ?_)
    exact r_ireturn C dX8_keeps_19 ⟨_, rfl, h⟩
def J_X8_fullest_56 (Q : Int32 → Hp → Prop) (kb : Int32 → Int32 → Hp → Prop) (K62 : Int32 → Hp → Prop) (y1 : Int32) (y2 : Int32) (σ : Hp) : Prop :=
  kb y1 (y2 + 1) σ
def J_X8_fullest_54 (Q : Int32 → Hp → Prop) (kb : Int32 → Int32 → Hp → Prop) (K62 : Int32 → Hp → Prop) (y2 : Int32) (σ : Hp) : Prop :=
  J_X8_fullest_56 Q kb K62 y2 y2 σ
def L_X8_fullest_21 (Q : Int32 → Hp → Prop) (K62 : Int32 → Hp → Prop) : Nat → Int32 → Int32 → Hp → Prop
  | 0, _, _, _ => False
  | n + 1, y1, y2, σ =>
  (((16 : Int32) ≤ y2 → K62 y1 σ) ∧ (¬ (16 : Int32) ≤ y2 → S_X8_isPort y2 σ (fun r3 σ2 => ((r3 = 0 → J_X8_fullest_56 Q (L_X8_fullest_21 Q K62 n) K62 y1 y2 σ2) ∧ (¬ r3 = 0 → ((y1 = (-1) → J_X8_fullest_54 Q (L_X8_fullest_21 Q K62 n) K62 y2 σ2) ∧ (¬ y1 = (-1) → S_X8_loadOf y2 σ2 (fun r5 σ4 => S_X8_loadOf y1 σ4 (fun r7 σ6 => (((lg_cmp r5 r7) ≤ 0 → J_X8_fullest_56 Q (L_X8_fullest_21 Q K62 n) K62 y1 y2 σ6) ∧ (¬ (lg_cmp r5 r7) ≤ 0 → J_X8_fullest_54 Q (L_X8_fullest_21 Q K62 n) K62 y2 σ6)))))))))))
def S_X8_fullest (σ : Hp) (Q : Int32 → Hp → Prop) : Prop :=
  S_X8_fresh σ (fun σ1 => ((¬ (gI σ1 8 0 14) = 0 → (∃ n8, L_X8_fullest_21 Q (fun w10 σ9 => Q w10 σ9) n8 (-1) 0 σ1)) ∧ ((gI σ1 8 0 14) = 0 → S_X8_no 1 σ1 (fun r12 σ11 => Q r12 σ11))))
set_option maxHeartbeats 2000000 in
set_option maxRecDepth 20000 in
theorem ok_X8_fullest (l : Launch) (g : Gm) (σ : Hp) (Q : Int32 → Hp → Prop) (h : S_X8_fullest σ Q) : Ct l g yX8_fullest cX8_fullest 3 (some .int) 6 [.ref (gad g 8 0)] σ (QI Q) := by
  refine Ct.of (by decide +kernel) (Nat.le_of_ble_eq_true rfl) ?_
  intro p e R s m args below meth c C
  have C : Cx g p R s m args meth c cX8_fullest 3 RX8 (some .int) 6 := C
  have j56 : ∀ (kb : Int32 → Int32 → Hp → Prop) (K62 : Int32 → Hp → Prop) (y1 : Int32) (y2 : Int32) (hkb : ∀ (v1 : Int32) (v2 : Int32) (σ : Hp), kb v1 v2 σ → G g p l e R s m args below meth c (QI Q) 3 21 [(0, .ref (gad g 8 0)), (1, .int v1), (2, .int v2)] [] σ) (hK62 : ∀ (v1 : Int32) (σ : Hp), K62 v1 σ → G g p l e R s m args below meth c (QI Q) 3 62 [(1, .int v1)] [] σ) (σ : Hp), J_X8_fullest_56 Q kb K62 y1 y2 σ → G g p l e R s m args below meth c (QI Q) 3 56 [(0, .ref (gad g 8 0)), (1, .int y1), (2, .int y2)] [] σ := by
    intro kb K62 y1 y2 hkb hK62 σ h
    unfold J_X8_fullest_56 at h
    refine r_iinc (v := y2 + 1) C dX8_fullest_56 2 rfl rfl (Nat.le_of_ble_eq_true rfl) rfl ?_
    refine r_goto (tgt := 21) C dX8_fullest_59 rfl ?_
    refine r_sub [1, 2, 0] rfl ?_
    exact hkb _ _ _ h
  have j54 : ∀ (kb : Int32 → Int32 → Hp → Prop) (K62 : Int32 → Hp → Prop) (y2 : Int32) (hkb : ∀ (v1 : Int32) (v2 : Int32) (σ : Hp), kb v1 v2 σ → G g p l e R s m args below meth c (QI Q) 3 21 [(0, .ref (gad g 8 0)), (1, .int v1), (2, .int v2)] [] σ) (hK62 : ∀ (v1 : Int32) (σ : Hp), K62 v1 σ → G g p l e R s m args below meth c (QI Q) 3 62 [(1, .int v1)] [] σ) (σ : Hp), J_X8_fullest_54 Q kb K62 y2 σ → G g p l e R s m args below meth c (QI Q) 3 54 [(0, .ref (gad g 8 0)), (2, .int y2)] [] σ := by
    intro kb K62 y2 hkb hK62 σ h
    unfold J_X8_fullest_54 at h
    refine r_iload_n C dX8_fullest_54 rfl 1 rfl ?_
    refine r_istore_n C dX8_fullest_55 rfl (Nat.le_of_ble_eq_true rfl) rfl ?_
    refine r_sub [1, 0, 2] rfl ?_
    exact j56 _ _ _ _ hkb hK62 _ h
  have l21 : ∀ (K62 : Int32 → Hp → Prop) (hK62 : ∀ (v1 : Int32) (σ : Hp), K62 v1 σ → G g p l e R s m args below meth c (QI Q) 3 62 [(1, .int v1)] [] σ) (n : Nat) (y1 : Int32) (y2 : Int32) (σ : Hp), L_X8_fullest_21 Q K62 n y1 y2 σ → G g p l e R s m args below meth c (QI Q) 3 21 [(0, .ref (gad g 8 0)), (1, .int y1), (2, .int y2)] [] σ := by
    intro K62 hK62 n
    induction n with
    | zero => intro y1 y2 σ h; exact False.elim h
    | succ n ih =>
      intro y1 y2 σ h
      unfold L_X8_fullest_21 at h
      refine r_iload_n C dX8_fullest_21 rfl 2 rfl ?_
      refine r_bipush C dX8_fullest_22 bi_16 ?_
      refine r_icmp_ge (tgt := 62) C dX8_fullest_24 rfl (fun q => ?_) (fun q => ?_)
      · have h := h.1 q
        refine r_sub [1] rfl ?_
        exact hK62 _ _ h
      · have h := h.2 q
        refine r_aload_n C dX8_fullest_27 rfl 0 rfl ?_
        refine r_iload_n C dX8_fullest_28 rfl 2 rfl ?_
        refine r_callVi [] C dX8_fullest_29 w_8_307 (ok_X8_isPort l g _ _ _ h) (Nat.le_of_ble_eq_true rfl) rfl rfl ak_8 (cn_8 (by decide)) rfl rfl (Nat.le_of_ble_eq_true rfl) (fun r3 σ2 h => ?_)
        refine r_if_eq (tgt := 56) C dX8_fullest_32 rfl (fun q => ?_) (fun q => ?_)
        · have h := h.1 q
          exact j56 _ _ _ _ ih hK62 _ h
        · have h := h.2 q
          refine r_iload_n C dX8_fullest_35 rfl 1 rfl ?_
          refine r_iconst C dX8_fullest_36 ic_m1 ?_
          refine r_icmp_eq (tgt := 54) C dX8_fullest_37 rfl (fun q => ?_) (fun q => ?_)
          · have h := h.1 q
            refine r_sub [0, 2] rfl ?_
            exact j54 _ _ _ ih hK62 _ h
          · have h := h.2 q
            refine r_aload_n C dX8_fullest_40 rfl 0 rfl ?_
            refine r_iload_n C dX8_fullest_41 rfl 2 rfl ?_
            refine r_callVl [] C dX8_fullest_42 w_8_322 (ok_X8_loadOf l g _ _ _ h) (Nat.le_of_ble_eq_true rfl) rfl rfl ak_8 (cn_8 (by decide)) rfl rfl (Nat.le_of_ble_eq_true rfl) (fun r5 σ4 h => ?_)
            refine r_aload_n C dX8_fullest_45 rfl 0 rfl ?_
            refine r_iload_n C dX8_fullest_46 rfl 1 rfl ?_
            refine r_callVl [.long _] C dX8_fullest_47 w_8_322 (ok_X8_loadOf l g _ _ _ h) (Nat.le_of_ble_eq_true rfl) rfl rfl ak_8 (cn_8 (by decide)) rfl rfl (Nat.le_of_ble_eq_true rfl) (fun r7 σ6 h => ?_)
            refine r_lcmp C dX8_fullest_50 ?_
            refine r_if_le (tgt := 56) C dX8_fullest_51 rfl (fun q => ?_) (fun q => ?_)
            · have h := h.1 q
              exact j56 _ _ _ _ ih hK62 _ h
            · have h := h.2 q
              refine r_sub [0, 2] rfl ?_
              exact j54 _ _ _ ih hK62 _ h
  unfold S_X8_fullest at h
  show G g p l e R s m args below meth c (QI Q) 3 0 [(0, .ref (gad g 8 0))] [] σ
  refine r_aload_n C dX8_fullest_0 rfl 0 rfl ?_
  refine r_callVv [] C dX8_fullest_1 w_8_200 (ok_X8_fresh l g _ _ h) (Nat.le_of_ble_eq_true rfl) rfl rfl ak_8 (cn_8 (by decide)) rfl rfl (Nat.le_of_ble_eq_true rfl) (fun σ1 h => ?_)
  refine r_aload_n C dX8_fullest_4 rfl 0 rfl ?_
  refine gf_8_212 C dX8_fullest_5 (cn_8 (by decide)) ?_
  refine r_if_ne (tgt := 17) C dX8_fullest_8 rfl (fun q => ?_) (fun q => ?_)
  · have h := h.1 q
    refine r_iconst C dX8_fullest_17 ic_m1 ?_
    refine r_istore_n C dX8_fullest_18 rfl (Nat.le_of_ble_eq_true rfl) rfl ?_
    refine r_iconst C dX8_fullest_19 ic_0 ?_
    refine r_istore_n C dX8_fullest_20 rfl (Nat.le_of_ble_eq_true rfl) rfl ?_
    refine r_sub [2, 1, 0] rfl ?_
    obtain ⟨n8, h⟩ := h
    refine l21 _ (fun w10 σ9 h => ?_) n8 _ _ _ h
    refine r_iload_n C dX8_fullest_62 rfl 0 rfl ?_
    exact r_ireturn C dX8_fullest_63 ⟨_, rfl, h⟩
  · have h := h.2 q
    refine r_aload_n C dX8_fullest_11 rfl 0 rfl ?_
    refine r_iconst C dX8_fullest_12 ic_1 ?_
    refine r_callVi [] C dX8_fullest_13 w_8_203 (ok_X8_no l g _ _ _ h) (Nat.le_of_ble_eq_true rfl) rfl rfl ak_8 (cn_8 (by decide)) rfl rfl (Nat.le_of_ble_eq_true rfl) (fun r12 σ11 h => ?_)
    exact r_ireturn C dX8_fullest_16 ⟨_, rfl, h⟩
def J_X8_leastGap_77 (Q : Int32 → Hp → Prop) (kb : Int32 → Int32 → Hp → Prop) (K87 : Int32 → Hp → Prop) (y1 : Int32) (y2 : Int32) (y4 : Int32) (z0 : Int32) (σ : Hp) : Prop :=
  kb z0 (y4 / 2) σ
def J_X8_leastGap_76 (Q : Int32 → Hp → Prop) (kb : Int32 → Int32 → Hp → Prop) (K87 : Int32 → Hp → Prop) (y1 : Int32) (y2 : Int32) (y3 : Int32) (y4 : Int32) (σ : Hp) : Prop :=
  J_X8_leastGap_77 Q kb K87 y1 y2 y4 y3 σ
def L_X8_leastGap_33 (Q : Int32 → Hp → Prop) (K87 : Int32 → Hp → Prop) (y1 : Int32) (y2 : Int32) : Nat → Int32 → Int32 → Hp → Prop
  | 0, _, _, _ => False
  | n + 1, y3, y4, σ =>
  ((y4 < 8 → K87 y3 σ) ∧ (¬ y4 < 8 → vp_in ((7 * y1) + 1) 56 ∧ ∀ σ6, σ6 = sI σ 57 0 (ix ((7 * y1) + 1)) y4 → S_X8_linkOf y1 2 σ6 (fun r8 σ7 => ((y4 < r8 → J_X8_leastGap_76 Q (L_X8_leastGap_33 Q K87 y1 y2 n) K87 y1 y2 y3 y4 σ7) ∧ (¬ y4 < r8 → S_X8_isBorne σ7 (fun r10 σ9 => ((r10 = 0 → J_X8_leastGap_76 Q (L_X8_leastGap_33 Q K87 y1 y2 n) K87 y1 y2 y3 y4 σ9) ∧ (¬ r10 = 0 → J_X8_leastGap_77 Q (L_X8_leastGap_33 Q K87 y1 y2 n) K87 y1 y2 y4 y4 σ9))))))))
def S_X8_leastGap (x1 : Int32) (σ : Hp) (Q : Int32 → Hp → Prop) : Prop :=
  S_X8_fresh σ (fun σ1 => S_X8_isLink x1 σ1 (fun r3 σ2 => ((¬ r3 = 0 → S_X8_linkOf x1 1 σ2 (fun r5 σ4 => (∃ n11, L_X8_leastGap_33 Q (fun w13 σ12 => vp_in ((7 * x1) + 1) 56 ∧ ∀ σ14, σ14 = sI σ12 57 0 (ix ((7 * x1) + 1)) r5 → Q w13 σ14) x1 r5 n11 (-2) 256 σ4))) ∧ (r3 = 0 → S_X8_no 1 σ2 (fun r16 σ15 => Q r16 σ15)))))
set_option maxHeartbeats 2000000 in
set_option maxRecDepth 20000 in
theorem ok_X8_leastGap (l : Launch) (g : Gm) (x1 : Int32) (σ : Hp) (Q : Int32 → Hp → Prop) (h : S_X8_leastGap x1 σ Q) : Ct l g yX8_leastGap cX8_leastGap 5 (some .int) 7 [.ref (gad g 8 0), .int x1] σ (QI Q) := by
  refine Ct.of (by decide +kernel) (Nat.le_of_ble_eq_true rfl) ?_
  intro p e R s m args below meth c C
  have C : Cx g p R s m args meth c cX8_leastGap 5 RX8 (some .int) 7 := C
  have j77 : ∀ (kb : Int32 → Int32 → Hp → Prop) (K87 : Int32 → Hp → Prop) (y1 : Int32) (y2 : Int32) (y4 : Int32) (z0 : Int32) (hkb : ∀ (v3 : Int32) (v4 : Int32) (σ : Hp), kb v3 v4 σ → G g p l e R s m args below meth c (QI Q) 5 33 [(0, .ref (gad g 8 0)), (1, .int y1), (2, .int y2), (3, .int v3), (4, .int v4)] [] σ) (hK87 : ∀ (v3 : Int32) (σ : Hp), K87 v3 σ → G g p l e R s m args below meth c (QI Q) 5 87 [(0, .ref (gad g 8 0)), (1, .int y1), (2, .int y2), (3, .int v3)] [] σ) (σ : Hp), J_X8_leastGap_77 Q kb K87 y1 y2 y4 z0 σ → G g p l e R s m args below meth c (QI Q) 5 77 [(0, .ref (gad g 8 0)), (1, .int y1), (2, .int y2), (4, .int y4)] [.int z0] σ := by
    intro kb K87 y1 y2 y4 z0 hkb hK87 σ h
    unfold J_X8_leastGap_77 at h
    refine r_istore_n C dX8_leastGap_77 rfl (Nat.le_of_ble_eq_true rfl) rfl ?_
    refine r_iload C dX8_leastGap_78 4 rfl ?_
    refine r_iconst C dX8_leastGap_80 ic_2 ?_
    refine r_idiv C dX8_leastGap_81 (by decide) ?_
    refine r_istore C dX8_leastGap_82 (Nat.le_of_ble_eq_true rfl) rfl ?_
    refine r_goto (tgt := 33) C dX8_leastGap_84 rfl ?_
    refine r_sub [2, 3, 4, 1, 0] rfl ?_
    exact hkb _ _ _ h
  have j76 : ∀ (kb : Int32 → Int32 → Hp → Prop) (K87 : Int32 → Hp → Prop) (y1 : Int32) (y2 : Int32) (y3 : Int32) (y4 : Int32) (hkb : ∀ (v3 : Int32) (v4 : Int32) (σ : Hp), kb v3 v4 σ → G g p l e R s m args below meth c (QI Q) 5 33 [(0, .ref (gad g 8 0)), (1, .int y1), (2, .int y2), (3, .int v3), (4, .int v4)] [] σ) (hK87 : ∀ (v3 : Int32) (σ : Hp), K87 v3 σ → G g p l e R s m args below meth c (QI Q) 5 87 [(0, .ref (gad g 8 0)), (1, .int y1), (2, .int y2), (3, .int v3)] [] σ) (σ : Hp), J_X8_leastGap_76 Q kb K87 y1 y2 y3 y4 σ → G g p l e R s m args below meth c (QI Q) 5 76 [(0, .ref (gad g 8 0)), (1, .int y1), (2, .int y2), (3, .int y3), (4, .int y4)] [] σ := by
    intro kb K87 y1 y2 y3 y4 hkb hK87 σ h
    unfold J_X8_leastGap_76 at h
    refine r_iload_n C dX8_leastGap_76 rfl 3 rfl ?_
    refine r_sub [0, 1, 2, 4] rfl ?_
    exact j77 _ _ _ _ _ _ hkb hK87 _ h
  have l33 : ∀ (K87 : Int32 → Hp → Prop) (y1 : Int32) (y2 : Int32) (hK87 : ∀ (v3 : Int32) (σ : Hp), K87 v3 σ → G g p l e R s m args below meth c (QI Q) 5 87 [(0, .ref (gad g 8 0)), (1, .int y1), (2, .int y2), (3, .int v3)] [] σ) (n : Nat) (y3 : Int32) (y4 : Int32) (σ : Hp), L_X8_leastGap_33 Q K87 y1 y2 n y3 y4 σ → G g p l e R s m args below meth c (QI Q) 5 33 [(0, .ref (gad g 8 0)), (1, .int y1), (2, .int y2), (3, .int y3), (4, .int y4)] [] σ := by
    intro K87 y1 y2 hK87 n
    induction n with
    | zero => intro y3 y4 σ h; exact False.elim h
    | succ n ih =>
      intro y3 y4 σ h
      unfold L_X8_leastGap_33 at h
      refine r_iload C dX8_leastGap_33 4 rfl ?_
      refine r_bipush C dX8_leastGap_35 bi_8 ?_
      refine r_icmp_lt (tgt := 87) C dX8_leastGap_37 rfl (fun q => ?_) (fun q => ?_)
      · have h := h.1 q
        refine r_sub [0, 1, 2, 3] rfl ?_
        exact hK87 _ _ h
      · have h := h.2 q
        refine r_aload_n C dX8_leastGap_40 rfl 0 rfl ?_
        refine gf_8_29 C dX8_leastGap_41 (cn_8 (by decide)) ?_
        refine r_bipush C dX8_leastGap_44 bi_7 ?_
        refine r_iload_n C dX8_leastGap_46 rfl 1 rfl ?_
        refine r_imul C dX8_leastGap_47 ?_
        refine r_iconst C dX8_leastGap_48 ic_1 ?_
        refine r_iadd C dX8_leastGap_49 ?_
        refine r_iload C dX8_leastGap_50 4 rfl ?_
        obtain ⟨h0, h⟩ := h
        refine r_iastore C dX8_leastGap_52 ak_57 (cn_57 (by decide)) al_57 h0 ?_
        have h := h _ rfl
        refine r_iload C dX8_leastGap_53 4 rfl ?_
        refine r_aload_n C dX8_leastGap_55 rfl 0 rfl ?_
        refine r_iload_n C dX8_leastGap_56 rfl 1 rfl ?_
        refine r_iconst C dX8_leastGap_57 ic_2 ?_
        refine r_callVi [.int _] C dX8_leastGap_58 w_8_221 (ok_X8_linkOf l g _ _ _ _ h) (Nat.le_of_ble_eq_true rfl) rfl rfl ak_8 (cn_8 (by decide)) rfl rfl (Nat.le_of_ble_eq_true rfl) (fun r8 σ7 h => ?_)
        refine r_icmp_lt (tgt := 76) C dX8_leastGap_61 rfl (fun q => ?_) (fun q => ?_)
        · have h := h.1 q
          exact j76 _ _ _ _ _ _ ih hK87 _ h
        · have h := h.2 q
          refine r_aload_n C dX8_leastGap_64 rfl 0 rfl ?_
          refine r_callVi [] C dX8_leastGap_65 w_8_339 (ok_X8_isBorne l g _ _ h) (Nat.le_of_ble_eq_true rfl) rfl rfl ak_8 (cn_8 (by decide)) rfl rfl (Nat.le_of_ble_eq_true rfl) (fun r10 σ9 h => ?_)
          refine r_if_eq (tgt := 76) C dX8_leastGap_68 rfl (fun q => ?_) (fun q => ?_)
          · have h := h.1 q
            exact j76 _ _ _ _ _ _ ih hK87 _ h
          · have h := h.2 q
            refine r_iload C dX8_leastGap_71 4 rfl ?_
            refine r_goto (tgt := 77) C dX8_leastGap_73 rfl ?_
            refine r_sub [0, 1, 2, 4] rfl ?_
            exact j77 _ _ _ _ _ _ ih hK87 _ h
  unfold S_X8_leastGap at h
  show G g p l e R s m args below meth c (QI Q) 5 0 [(0, .ref (gad g 8 0)), (1, .int x1)] [] σ
  refine r_aload_n C dX8_leastGap_0 rfl 0 rfl ?_
  refine r_callVv [] C dX8_leastGap_1 w_8_200 (ok_X8_fresh l g _ _ h) (Nat.le_of_ble_eq_true rfl) rfl rfl ak_8 (cn_8 (by decide)) rfl rfl (Nat.le_of_ble_eq_true rfl) (fun σ1 h => ?_)
  refine r_aload_n C dX8_leastGap_4 rfl 0 rfl ?_
  refine r_iload_n C dX8_leastGap_5 rfl 1 rfl ?_
  refine r_callVi [] C dX8_leastGap_6 w_8_224 (ok_X8_isLink l g _ _ _ h) (Nat.le_of_ble_eq_true rfl) rfl rfl ak_8 (cn_8 (by decide)) rfl rfl (Nat.le_of_ble_eq_true rfl) (fun r3 σ2 h => ?_)
  refine r_if_ne (tgt := 18) C dX8_leastGap_9 rfl (fun q => ?_) (fun q => ?_)
  · have h := h.1 q
    refine r_aload_n C dX8_leastGap_18 rfl 0 rfl ?_
    refine r_iload_n C dX8_leastGap_19 rfl 1 rfl ?_
    refine r_iconst C dX8_leastGap_20 ic_1 ?_
    refine r_callVi [] C dX8_leastGap_21 w_8_221 (ok_X8_linkOf l g _ _ _ _ h) (Nat.le_of_ble_eq_true rfl) rfl rfl ak_8 (cn_8 (by decide)) rfl rfl (Nat.le_of_ble_eq_true rfl) (fun r5 σ4 h => ?_)
    refine r_istore_n C dX8_leastGap_24 rfl (Nat.le_of_ble_eq_true rfl) rfl ?_
    refine r_bipush C dX8_leastGap_25 bi_m2 ?_
    refine r_istore_n C dX8_leastGap_27 rfl (Nat.le_of_ble_eq_true rfl) rfl ?_
    refine r_sipush C dX8_leastGap_28 si_256 ?_
    refine r_istore C dX8_leastGap_31 (Nat.le_of_ble_eq_true rfl) rfl ?_
    refine r_sub [3, 4, 2, 1, 0] rfl ?_
    obtain ⟨n11, h⟩ := h
    refine l33 _ _ _ (fun w13 σ12 h => ?_) n11 _ _ _ h
    refine r_aload_n C dX8_leastGap_87 rfl 0 rfl ?_
    refine gf_8_29 C dX8_leastGap_88 (cn_8 (by decide)) ?_
    refine r_bipush C dX8_leastGap_91 bi_7 ?_
    refine r_iload_n C dX8_leastGap_93 rfl 1 rfl ?_
    refine r_imul C dX8_leastGap_94 ?_
    refine r_iconst C dX8_leastGap_95 ic_1 ?_
    refine r_iadd C dX8_leastGap_96 ?_
    refine r_iload_n C dX8_leastGap_97 rfl 2 rfl ?_
    obtain ⟨h0, h⟩ := h
    refine r_iastore C dX8_leastGap_98 ak_57 (cn_57 (by decide)) al_57 h0 ?_
    have h := h _ rfl
    refine r_iload_n C dX8_leastGap_99 rfl 3 rfl ?_
    exact r_ireturn C dX8_leastGap_100 ⟨_, rfl, h⟩
  · have h := h.2 q
    refine r_aload_n C dX8_leastGap_12 rfl 0 rfl ?_
    refine r_iconst C dX8_leastGap_13 ic_1 ?_
    refine r_callVi [] C dX8_leastGap_14 w_8_203 (ok_X8_no l g _ _ _ h) (Nat.le_of_ble_eq_true rfl) rfl rfl ak_8 (cn_8 (by decide)) rfl rfl (Nat.le_of_ble_eq_true rfl) (fun r16 σ15 h => ?_)
    exact r_ireturn C dX8_leastGap_17 ⟨_, rfl, h⟩
def J_X8_through_50 (Q : Int32 → Hp → Prop) (kb : Int32 → Int32 → Hp → Prop) (K58 : Int32 → Hp → Prop) (y1 : Int32) (y3 : Int32) (z0 : Int32) (z1 : Int32) (σ : Hp) : Prop :=
  kb (z1 ||| z0) (y3 + 1) σ
def L_X8_through_22 (Q : Int32 → Hp → Prop) (K58 : Int32 → Hp → Prop) (y1 : Int32) : Nat → Int32 → Int32 → Hp → Prop
  | 0, _, _, _ => False
  | n + 1, y2, y3, σ =>
  vp_in 6 7 ∧ (((gI σ 53 0 (ix 6)) ≤ y3 → K58 y2 σ) ∧ (¬ (gI σ 53 0 (ix 6)) ≤ y3 → S_X8_goesThrough y3 y1 σ (fun r5 σ4 => ((r5 = 0 → J_X8_through_50 Q (L_X8_through_22 Q K58 y1 n) K58 y1 y3 0 y2 σ4) ∧ (¬ r5 = 0 → J_X8_through_50 Q (L_X8_through_22 Q K58 y1 n) K58 y1 y3 (1 <<< (y3 &&& 31)) y2 σ4)))))
def S_X8_through (x1 : Int32) (σ : Hp) (Q : Int32 → Hp → Prop) : Prop :=
  S_X8_fresh σ (fun σ1 => S_X8_isPort x1 σ1 (fun r3 σ2 => ((¬ r3 = 0 → (∃ n6, L_X8_through_22 Q (fun w8 σ7 => Q w8 σ7) x1 n6 0 0 σ2)) ∧ (r3 = 0 → S_X8_no 1 σ2 (fun r10 σ9 => Q r10 σ9)))))
set_option maxHeartbeats 2000000 in
set_option maxRecDepth 20000 in
theorem ok_X8_through (l : Launch) (g : Gm) (x1 : Int32) (σ : Hp) (Q : Int32 → Hp → Prop) (h : S_X8_through x1 σ Q) : Ct l g yX8_through cX8_through 4 (some .int) 5 [.ref (gad g 8 0), .int x1] σ (QI Q) := by
  refine Ct.of (by decide +kernel) (Nat.le_of_ble_eq_true rfl) ?_
  intro p e R s m args below meth c C
  have C : Cx g p R s m args meth c cX8_through 4 RX8 (some .int) 5 := C
  have j50 : ∀ (kb : Int32 → Int32 → Hp → Prop) (K58 : Int32 → Hp → Prop) (y1 : Int32) (y3 : Int32) (z0 : Int32) (z1 : Int32) (hkb : ∀ (v2 : Int32) (v3 : Int32) (σ : Hp), kb v2 v3 σ → G g p l e R s m args below meth c (QI Q) 4 22 [(0, .ref (gad g 8 0)), (1, .int y1), (2, .int v2), (3, .int v3)] [] σ) (hK58 : ∀ (v2 : Int32) (σ : Hp), K58 v2 σ → G g p l e R s m args below meth c (QI Q) 4 58 [(2, .int v2)] [] σ) (σ : Hp), J_X8_through_50 Q kb K58 y1 y3 z0 z1 σ → G g p l e R s m args below meth c (QI Q) 4 50 [(0, .ref (gad g 8 0)), (1, .int y1), (3, .int y3)] [.int z0, .int z1] σ := by
    intro kb K58 y1 y3 z0 z1 hkb hK58 σ h
    unfold J_X8_through_50 at h
    refine r_ior C dX8_through_50 ?_
    refine r_istore_n C dX8_through_51 rfl (Nat.le_of_ble_eq_true rfl) rfl ?_
    refine r_iinc (v := y3 + 1) C dX8_through_52 3 rfl rfl (Nat.le_of_ble_eq_true rfl) rfl ?_
    refine r_goto (tgt := 22) C dX8_through_55 rfl ?_
    refine r_sub [2, 3, 1, 0] rfl ?_
    exact hkb _ _ _ h
  have l22 : ∀ (K58 : Int32 → Hp → Prop) (y1 : Int32) (hK58 : ∀ (v2 : Int32) (σ : Hp), K58 v2 σ → G g p l e R s m args below meth c (QI Q) 4 58 [(2, .int v2)] [] σ) (n : Nat) (y2 : Int32) (y3 : Int32) (σ : Hp), L_X8_through_22 Q K58 y1 n y2 y3 σ → G g p l e R s m args below meth c (QI Q) 4 22 [(0, .ref (gad g 8 0)), (1, .int y1), (2, .int y2), (3, .int y3)] [] σ := by
    intro K58 y1 hK58 n
    induction n with
    | zero => intro y2 y3 σ h; exact False.elim h
    | succ n ih =>
      intro y2 y3 σ h
      unfold L_X8_through_22 at h
      refine r_iload_n C dX8_through_22 rfl 3 rfl ?_
      refine r_aload_n C dX8_through_23 rfl 0 rfl ?_
      refine gf_8_17 C dX8_through_24 (cn_8 (by decide)) ?_
      refine r_bipush C dX8_through_27 bi_6 ?_
      obtain ⟨h0, h⟩ := h
      refine r_iaload C dX8_through_29 ak_53 (cn_53 (by decide)) al_53 h0 ?_
      refine r_icmp_ge (tgt := 58) C dX8_through_30 rfl (fun q => ?_) (fun q => ?_)
      · have h := h.1 q
        refine r_sub [2] rfl ?_
        exact hK58 _ _ h
      · have h := h.2 q
        refine r_iload_n C dX8_through_33 rfl 2 rfl ?_
        refine r_aload_n C dX8_through_34 rfl 0 rfl ?_
        refine r_iload_n C dX8_through_35 rfl 3 rfl ?_
        refine r_iload_n C dX8_through_36 rfl 1 rfl ?_
        refine r_callVi [.int _] C dX8_through_37 w_8_315 (ok_X8_goesThrough l g _ _ _ _ h) (Nat.le_of_ble_eq_true rfl) rfl rfl ak_8 (cn_8 (by decide)) rfl rfl (Nat.le_of_ble_eq_true rfl) (fun r5 σ4 h => ?_)
        refine r_if_eq (tgt := 49) C dX8_through_40 rfl (fun q => ?_) (fun q => ?_)
        · have h := h.1 q
          refine r_iconst C dX8_through_49 ic_0 ?_
          refine r_sub [0, 1, 3] rfl ?_
          exact j50 _ _ _ _ _ _ ih hK58 _ h
        · have h := h.2 q
          refine r_iconst C dX8_through_43 ic_1 ?_
          refine r_iload_n C dX8_through_44 rfl 3 rfl ?_
          refine r_ishl C dX8_through_45 ?_
          refine r_goto (tgt := 50) C dX8_through_46 rfl ?_
          refine r_sub [0, 1, 3] rfl ?_
          exact j50 _ _ _ _ _ _ ih hK58 _ h
  unfold S_X8_through at h
  show G g p l e R s m args below meth c (QI Q) 4 0 [(0, .ref (gad g 8 0)), (1, .int x1)] [] σ
  refine r_aload_n C dX8_through_0 rfl 0 rfl ?_
  refine r_callVv [] C dX8_through_1 w_8_200 (ok_X8_fresh l g _ _ h) (Nat.le_of_ble_eq_true rfl) rfl rfl ak_8 (cn_8 (by decide)) rfl rfl (Nat.le_of_ble_eq_true rfl) (fun σ1 h => ?_)
  refine r_aload_n C dX8_through_4 rfl 0 rfl ?_
  refine r_iload_n C dX8_through_5 rfl 1 rfl ?_
  refine r_callVi [] C dX8_through_6 w_8_307 (ok_X8_isPort l g _ _ _ h) (Nat.le_of_ble_eq_true rfl) rfl rfl ak_8 (cn_8 (by decide)) rfl rfl (Nat.le_of_ble_eq_true rfl) (fun r3 σ2 h => ?_)
  refine r_if_ne (tgt := 18) C dX8_through_9 rfl (fun q => ?_) (fun q => ?_)
  · have h := h.1 q
    refine r_iconst C dX8_through_18 ic_0 ?_
    refine r_istore_n C dX8_through_19 rfl (Nat.le_of_ble_eq_true rfl) rfl ?_
    refine r_iconst C dX8_through_20 ic_0 ?_
    refine r_istore_n C dX8_through_21 rfl (Nat.le_of_ble_eq_true rfl) rfl ?_
    refine r_sub [2, 3, 1, 0] rfl ?_
    obtain ⟨n6, h⟩ := h
    refine l22 _ _ (fun w8 σ7 h => ?_) n6 _ _ _ h
    refine r_iload_n C dX8_through_58 rfl 0 rfl ?_
    exact r_ireturn C dX8_through_59 ⟨_, rfl, h⟩
  · have h := h.2 q
    refine r_aload_n C dX8_through_12 rfl 0 rfl ?_
    refine r_iconst C dX8_through_13 ic_1 ?_
    refine r_callVi [] C dX8_through_14 w_8_203 (ok_X8_no l g _ _ _ h) (Nat.le_of_ble_eq_true rfl) rfl rfl ak_8 (cn_8 (by decide)) rfl rfl (Nat.le_of_ble_eq_true rfl) (fun r10 σ9 h => ?_)
    exact r_ireturn C dX8_through_17 ⟨_, rfl, h⟩
def S_X8_send (x1 : Int32) (x2 : Int32) (σ : Hp) (Q : Int32 → Hp → Prop) : Prop :=
  S_X8_fresh σ (fun σ1 => S_X8_isLink x1 σ1 (fun r3 σ2 => ((¬ r3 = 0 → S_X8_in x2 1 16 σ2 (fun r5 σ4 => ((¬ r5 = 0 → S_X8_linkAt x1 0 σ4 (fun r7 σ6 => vp_in r7 1809 ∧ ((((gI σ6 61 0 (ix r7)) + x2) ≤ 16 → S_X8_linkAt x1 0 σ6 (fun r9 σ8 => vp_in r9 1809 ∧ vp_in r9 1809 ∧ ∀ σ10, σ10 = sI σ8 61 0 (ix r9) ((gI σ8 61 0 (ix r9)) + x2) → S_X8_linkAt x1 0 σ10 (fun r12 σ11 => vp_in r12 1809 ∧ Q (gI σ11 61 0 (ix r12)) σ11))) ∧ (¬ ((gI σ6 61 0 (ix r7)) + x2) ≤ 16 → S_X8_no 3 σ6 (fun r14 σ13 => Q r14 σ13))))) ∧ (r5 = 0 → S_X8_no 2 σ4 (fun r16 σ15 => Q r16 σ15))))) ∧ (r3 = 0 → S_X8_no 1 σ2 (fun r18 σ17 => Q r18 σ17)))))
set_option maxHeartbeats 2000000 in
set_option maxRecDepth 20000 in
theorem ok_X8_send (l : Launch) (g : Gm) (x1 : Int32) (x2 : Int32) (σ : Hp) (Q : Int32 → Hp → Prop) (h : S_X8_send x1 x2 σ Q) : Ct l g yX8_send cX8_send 3 (some .int) 2 [.ref (gad g 8 0), .int x1, .int x2] σ (QI Q) := by
  refine Ct.of (by decide +kernel) (Nat.le_of_ble_eq_true rfl) ?_
  intro p e R s m args below meth c C
  have C : Cx g p R s m args meth c cX8_send 3 RX8 (some .int) 2 := C
  unfold S_X8_send at h
  show G g p l e R s m args below meth c (QI Q) 3 0 [(0, .ref (gad g 8 0)), (1, .int x1), (2, .int x2)] [] σ
  refine r_aload_n C dX8_send_0 rfl 0 rfl ?_
  refine r_callVv [] C dX8_send_1 w_8_200 (ok_X8_fresh l g _ _ h) (Nat.le_of_ble_eq_true rfl) rfl rfl ak_8 (cn_8 (by decide)) rfl rfl (Nat.le_of_ble_eq_true rfl) (fun σ1 h => ?_)
  refine r_aload_n C dX8_send_4 rfl 0 rfl ?_
  refine r_iload_n C dX8_send_5 rfl 1 rfl ?_
  refine r_callVi [] C dX8_send_6 w_8_224 (ok_X8_isLink l g _ _ _ h) (Nat.le_of_ble_eq_true rfl) rfl rfl ak_8 (cn_8 (by decide)) rfl rfl (Nat.le_of_ble_eq_true rfl) (fun r3 σ2 h => ?_)
  refine r_if_ne (tgt := 18) C dX8_send_9 rfl (fun q => ?_) (fun q => ?_)
  · have h := h.1 q
    refine r_iload_n C dX8_send_18 rfl 2 rfl ?_
    refine r_iconst C dX8_send_19 ic_1 ?_
    refine r_bipush C dX8_send_20 bi_16 ?_
    refine r_callSi [] C dX8_send_22 w_8_80 (ok_X8_in l g _ _ _ _ _ h) (Nat.le_of_ble_eq_true rfl) rfl rfl (Nat.le_of_ble_eq_true rfl) (fun r5 σ4 h => ?_)
    refine r_if_ne (tgt := 34) C dX8_send_25 rfl (fun q => ?_) (fun q => ?_)
    · have h := h.1 q
      refine r_aload_n C dX8_send_34 rfl 0 rfl ?_
      refine gf_8_42 C dX8_send_35 (cn_8 (by decide)) ?_
      refine r_iload_n C dX8_send_38 rfl 1 rfl ?_
      refine r_iconst C dX8_send_39 ic_0 ?_
      refine r_callSi [.ref (gad g 61 0)] C dX8_send_40 w_8_246 (ok_X8_linkAt l g _ _ _ _ h) (Nat.le_of_ble_eq_true rfl) rfl rfl (Nat.le_of_ble_eq_true rfl) (fun r7 σ6 h => ?_)
      obtain ⟨h0, h⟩ := h
      refine r_iaload C dX8_send_43 ak_61 (cn_61 (by decide)) al_61 h0 ?_
      refine r_iload_n C dX8_send_44 rfl 2 rfl ?_
      refine r_iadd C dX8_send_45 ?_
      refine r_bipush C dX8_send_46 bi_16 ?_
      refine r_icmp_le (tgt := 57) C dX8_send_48 rfl (fun q => ?_) (fun q => ?_)
      · have h := h.1 q
        refine r_aload_n C dX8_send_57 rfl 0 rfl ?_
        refine gf_8_42 C dX8_send_58 (cn_8 (by decide)) ?_
        refine r_iload_n C dX8_send_61 rfl 1 rfl ?_
        refine r_iconst C dX8_send_62 ic_0 ?_
        refine r_callSi [.ref (gad g 61 0)] C dX8_send_63 w_8_246 (ok_X8_linkAt l g _ _ _ _ h) (Nat.le_of_ble_eq_true rfl) rfl rfl (Nat.le_of_ble_eq_true rfl) (fun r9 σ8 h => ?_)
        refine r_dup2 C dX8_send_66 rfl rfl ?_
        obtain ⟨h0, h⟩ := h
        refine r_iaload C dX8_send_67 ak_61 (cn_61 (by decide)) al_61 h0 ?_
        refine r_iload_n C dX8_send_68 rfl 2 rfl ?_
        refine r_iadd C dX8_send_69 ?_
        obtain ⟨h0, h⟩ := h
        refine r_iastore C dX8_send_70 ak_61 (cn_61 (by decide)) al_61 h0 ?_
        have h := h _ rfl
        refine r_aload_n C dX8_send_71 rfl 0 rfl ?_
        refine gf_8_42 C dX8_send_72 (cn_8 (by decide)) ?_
        refine r_iload_n C dX8_send_75 rfl 1 rfl ?_
        refine r_iconst C dX8_send_76 ic_0 ?_
        refine r_callSi [.ref (gad g 61 0)] C dX8_send_77 w_8_246 (ok_X8_linkAt l g _ _ _ _ h) (Nat.le_of_ble_eq_true rfl) rfl rfl (Nat.le_of_ble_eq_true rfl) (fun r12 σ11 h => ?_)
        obtain ⟨h0, h⟩ := h
        refine r_iaload C dX8_send_80 ak_61 (cn_61 (by decide)) al_61 h0 ?_
        exact r_ireturn C dX8_send_81 ⟨_, rfl, h⟩
      · have h := h.2 q
        refine r_aload_n C dX8_send_51 rfl 0 rfl ?_
        refine r_iconst C dX8_send_52 ic_3 ?_
        refine r_callVi [] C dX8_send_53 w_8_203 (ok_X8_no l g _ _ _ h) (Nat.le_of_ble_eq_true rfl) rfl rfl ak_8 (cn_8 (by decide)) rfl rfl (Nat.le_of_ble_eq_true rfl) (fun r14 σ13 h => ?_)
        exact r_ireturn C dX8_send_56 ⟨_, rfl, h⟩
    · have h := h.2 q
      refine r_aload_n C dX8_send_28 rfl 0 rfl ?_
      refine r_iconst C dX8_send_29 ic_2 ?_
      refine r_callVi [] C dX8_send_30 w_8_203 (ok_X8_no l g _ _ _ h) (Nat.le_of_ble_eq_true rfl) rfl rfl ak_8 (cn_8 (by decide)) rfl rfl (Nat.le_of_ble_eq_true rfl) (fun r16 σ15 h => ?_)
      exact r_ireturn C dX8_send_33 ⟨_, rfl, h⟩
  · have h := h.2 q
    refine r_aload_n C dX8_send_12 rfl 0 rfl ?_
    refine r_iconst C dX8_send_13 ic_1 ?_
    refine r_callVi [] C dX8_send_14 w_8_203 (ok_X8_no l g _ _ _ h) (Nat.le_of_ble_eq_true rfl) rfl rfl ak_8 (cn_8 (by decide)) rfl rfl (Nat.le_of_ble_eq_true rfl) (fun r18 σ17 h => ?_)
    exact r_ireturn C dX8_send_17 ⟨_, rfl, h⟩
def L_X8_babble_39 (Q : Int32 → Hp → Prop) (K59 : Int32 → Hp → Prop) (y1 : Int32) (y2 : Int32) : Nat → Int32 → Int32 → Hp → Prop
  | 0, _, _, _ => False
  | n + 1, y3, y4, σ =>
  ((y2 ≤ y4 → K59 y3 σ) ∧ (¬ y2 ≤ y4 → S_X8_isBorn y1 σ (fun r7 σ6 => L_X8_babble_39 Q K59 y1 y2 n (y3 + r7) (y4 + 1) σ6)))
def S_X8_babble (x1 : Int32) (x2 : Int32) (σ : Hp) (Q : Int32 → Hp → Prop) : Prop :=
  S_X8_fresh σ (fun σ1 => S_X8_isLink x1 σ1 (fun r3 σ2 => ((¬ r3 = 0 → S_X8_in x2 1 20 σ2 (fun r5 σ4 => ((¬ r5 = 0 → (∃ n8, L_X8_babble_39 Q (fun w10 σ9 => Q w10 σ9) x1 x2 n8 0 0 σ4)) ∧ (r5 = 0 → S_X8_no 2 σ4 (fun r12 σ11 => Q r12 σ11))))) ∧ (r3 = 0 → S_X8_no 1 σ2 (fun r14 σ13 => Q r14 σ13)))))
set_option maxHeartbeats 2000000 in
set_option maxRecDepth 20000 in
theorem ok_X8_babble (l : Launch) (g : Gm) (x1 : Int32) (x2 : Int32) (σ : Hp) (Q : Int32 → Hp → Prop) (h : S_X8_babble x1 x2 σ Q) : Ct l g yX8_babble cX8_babble 5 (some .int) 3 [.ref (gad g 8 0), .int x1, .int x2] σ (QI Q) := by
  refine Ct.of (by decide +kernel) (Nat.le_of_ble_eq_true rfl) ?_
  intro p e R s m args below meth c C
  have C : Cx g p R s m args meth c cX8_babble 5 RX8 (some .int) 3 := C
  have l39 : ∀ (K59 : Int32 → Hp → Prop) (y1 : Int32) (y2 : Int32) (hK59 : ∀ (v3 : Int32) (σ : Hp), K59 v3 σ → G g p l e R s m args below meth c (QI Q) 5 59 [(3, .int v3)] [] σ) (n : Nat) (y3 : Int32) (y4 : Int32) (σ : Hp), L_X8_babble_39 Q K59 y1 y2 n y3 y4 σ → G g p l e R s m args below meth c (QI Q) 5 39 [(0, .ref (gad g 8 0)), (1, .int y1), (2, .int y2), (3, .int y3), (4, .int y4)] [] σ := by
    intro K59 y1 y2 hK59 n
    induction n with
    | zero => intro y3 y4 σ h; exact False.elim h
    | succ n ih =>
      intro y3 y4 σ h
      unfold L_X8_babble_39 at h
      refine r_iload C dX8_babble_39 4 rfl ?_
      refine r_iload_n C dX8_babble_41 rfl 2 rfl ?_
      refine r_icmp_ge (tgt := 59) C dX8_babble_42 rfl (fun q => ?_) (fun q => ?_)
      · have h := h.1 q
        refine r_sub [3] rfl ?_
        exact hK59 _ _ h
      · have h := h.2 q
        refine r_iload_n C dX8_babble_45 rfl 3 rfl ?_
        refine r_aload_n C dX8_babble_46 rfl 0 rfl ?_
        refine r_iload_n C dX8_babble_47 rfl 1 rfl ?_
        refine r_callVi [.int _] C dX8_babble_48 w_8_298 (ok_X8_isBorn l g _ _ _ h) (Nat.le_of_ble_eq_true rfl) rfl rfl ak_8 (cn_8 (by decide)) rfl rfl (Nat.le_of_ble_eq_true rfl) (fun r7 σ6 h => ?_)
        refine r_iadd C dX8_babble_51 ?_
        refine r_istore_n C dX8_babble_52 rfl (Nat.le_of_ble_eq_true rfl) rfl ?_
        refine r_iinc (v := y4 + 1) C dX8_babble_53 4 rfl rfl (Nat.le_of_ble_eq_true rfl) rfl ?_
        refine r_goto (tgt := 39) C dX8_babble_56 rfl ?_
        refine r_sub [2, 3, 4, 1, 0] rfl ?_
        exact ih _ _ _ h
  unfold S_X8_babble at h
  show G g p l e R s m args below meth c (QI Q) 5 0 [(0, .ref (gad g 8 0)), (1, .int x1), (2, .int x2)] [] σ
  refine r_aload_n C dX8_babble_0 rfl 0 rfl ?_
  refine r_callVv [] C dX8_babble_1 w_8_200 (ok_X8_fresh l g _ _ h) (Nat.le_of_ble_eq_true rfl) rfl rfl ak_8 (cn_8 (by decide)) rfl rfl (Nat.le_of_ble_eq_true rfl) (fun σ1 h => ?_)
  refine r_aload_n C dX8_babble_4 rfl 0 rfl ?_
  refine r_iload_n C dX8_babble_5 rfl 1 rfl ?_
  refine r_callVi [] C dX8_babble_6 w_8_224 (ok_X8_isLink l g _ _ _ h) (Nat.le_of_ble_eq_true rfl) rfl rfl ak_8 (cn_8 (by decide)) rfl rfl (Nat.le_of_ble_eq_true rfl) (fun r3 σ2 h => ?_)
  refine r_if_ne (tgt := 18) C dX8_babble_9 rfl (fun q => ?_) (fun q => ?_)
  · have h := h.1 q
    refine r_iload_n C dX8_babble_18 rfl 2 rfl ?_
    refine r_iconst C dX8_babble_19 ic_1 ?_
    refine r_bipush C dX8_babble_20 bi_20 ?_
    refine r_callSi [] C dX8_babble_22 w_8_80 (ok_X8_in l g _ _ _ _ _ h) (Nat.le_of_ble_eq_true rfl) rfl rfl (Nat.le_of_ble_eq_true rfl) (fun r5 σ4 h => ?_)
    refine r_if_ne (tgt := 34) C dX8_babble_25 rfl (fun q => ?_) (fun q => ?_)
    · have h := h.1 q
      refine r_iconst C dX8_babble_34 ic_0 ?_
      refine r_istore_n C dX8_babble_35 rfl (Nat.le_of_ble_eq_true rfl) rfl ?_
      refine r_iconst C dX8_babble_36 ic_0 ?_
      refine r_istore C dX8_babble_37 (Nat.le_of_ble_eq_true rfl) rfl ?_
      refine r_sub [2, 3, 4, 1, 0] rfl ?_
      obtain ⟨n8, h⟩ := h
      refine l39 _ _ _ (fun w10 σ9 h => ?_) n8 _ _ _ h
      refine r_iload_n C dX8_babble_59 rfl 0 rfl ?_
      exact r_ireturn C dX8_babble_60 ⟨_, rfl, h⟩
    · have h := h.2 q
      refine r_aload_n C dX8_babble_28 rfl 0 rfl ?_
      refine r_iconst C dX8_babble_29 ic_2 ?_
      refine r_callVi [] C dX8_babble_30 w_8_203 (ok_X8_no l g _ _ _ h) (Nat.le_of_ble_eq_true rfl) rfl rfl ak_8 (cn_8 (by decide)) rfl rfl (Nat.le_of_ble_eq_true rfl) (fun r12 σ11 h => ?_)
      exact r_ireturn C dX8_babble_33 ⟨_, rfl, h⟩
  · have h := h.2 q
    refine r_aload_n C dX8_babble_12 rfl 0 rfl ?_
    refine r_iconst C dX8_babble_13 ic_1 ?_
    refine r_callVi [] C dX8_babble_14 w_8_203 (ok_X8_no l g _ _ _ h) (Nat.le_of_ble_eq_true rfl) rfl rfl ak_8 (cn_8 (by decide)) rfl rfl (Nat.le_of_ble_eq_true rfl) (fun r14 σ13 h => ?_)
    exact r_ireturn C dX8_babble_17 ⟨_, rfl, h⟩
def J_X8_down_20 (Q : Int32 → Hp → Prop) (σ : Hp) : Prop :=
  S_X8_no 1 σ (fun r3 σ2 => Q r3 σ2)
def S_X8_down (x1 : Int32) (x2 : Int32) (σ : Hp) (Q : Int32 → Hp → Prop) : Prop :=
  S_X8_fresh σ (fun σ1 => (((gI σ1 8 0 14) = 0 → J_X8_down_20 Q σ1) ∧ (¬ (gI σ1 8 0 14) = 0 → S_X8_in x1 0 1 σ1 (fun r5 σ4 => ((¬ r5 = 0 → S_X8_in x2 0 1 σ4 (fun r7 σ6 => ((¬ r7 = 0 → vp_in (79 + x1) 1809 ∧ vp_in (79 + x1) 1809 ∧ ∀ σ8, σ8 = sI σ6 61 0 (ix (79 + x1)) x2 → Q (gI σ6 61 0 (ix (79 + x1))) σ8) ∧ (r7 = 0 → S_X8_no 2 σ6 (fun r10 σ9 => Q r10 σ9))))) ∧ (r5 = 0 → J_X8_down_20 Q σ4))))))
set_option maxHeartbeats 2000000 in
set_option maxRecDepth 20000 in
theorem ok_X8_down (l : Launch) (g : Gm) (x1 : Int32) (x2 : Int32) (σ : Hp) (Q : Int32 → Hp → Prop) (h : S_X8_down x1 x2 σ Q) : Ct l g yX8_down cX8_down 4 (some .int) 1 [.ref (gad g 8 0), .int x1, .int x2] σ (QI Q) := by
  refine Ct.of (by decide +kernel) (Nat.le_of_ble_eq_true rfl) ?_
  intro p e R s m args below meth c C
  have C : Cx g p R s m args meth c cX8_down 4 RX8 (some .int) 1 := C
  have j20 : ∀ (σ : Hp), J_X8_down_20 Q σ → G g p l e R s m args below meth c (QI Q) 4 20 [(0, .ref (gad g 8 0))] [] σ := by
    intro σ h
    unfold J_X8_down_20 at h
    refine r_aload_n C dX8_down_20 rfl 0 rfl ?_
    refine r_iconst C dX8_down_21 ic_1 ?_
    refine r_callVi [] C dX8_down_22 w_8_203 (ok_X8_no l g _ _ _ h) (Nat.le_of_ble_eq_true rfl) rfl rfl ak_8 (cn_8 (by decide)) rfl rfl (Nat.le_of_ble_eq_true rfl) (fun r3 σ2 h => ?_)
    exact r_ireturn C dX8_down_25 ⟨_, rfl, h⟩
  unfold S_X8_down at h
  show G g p l e R s m args below meth c (QI Q) 4 0 [(0, .ref (gad g 8 0)), (1, .int x1), (2, .int x2)] [] σ
  refine r_aload_n C dX8_down_0 rfl 0 rfl ?_
  refine r_callVv [] C dX8_down_1 w_8_200 (ok_X8_fresh l g _ _ h) (Nat.le_of_ble_eq_true rfl) rfl rfl ak_8 (cn_8 (by decide)) rfl rfl (Nat.le_of_ble_eq_true rfl) (fun σ1 h => ?_)
  refine r_aload_n C dX8_down_4 rfl 0 rfl ?_
  refine gf_8_212 C dX8_down_5 (cn_8 (by decide)) ?_
  refine r_if_eq (tgt := 20) C dX8_down_8 rfl (fun q => ?_) (fun q => ?_)
  · have h := h.1 q
    refine r_sub [0] rfl ?_
    exact j20 _ h
  · have h := h.2 q
    refine r_iload_n C dX8_down_11 rfl 1 rfl ?_
    refine r_iconst C dX8_down_12 ic_0 ?_
    refine r_iconst C dX8_down_13 ic_1 ?_
    refine r_callSi [] C dX8_down_14 w_8_80 (ok_X8_in l g _ _ _ _ _ h) (Nat.le_of_ble_eq_true rfl) rfl rfl (Nat.le_of_ble_eq_true rfl) (fun r5 σ4 h => ?_)
    refine r_if_ne (tgt := 26) C dX8_down_17 rfl (fun q => ?_) (fun q => ?_)
    · have h := h.1 q
      refine r_iload_n C dX8_down_26 rfl 2 rfl ?_
      refine r_iconst C dX8_down_27 ic_0 ?_
      refine r_iconst C dX8_down_28 ic_1 ?_
      refine r_callSi [] C dX8_down_29 w_8_80 (ok_X8_in l g _ _ _ _ _ h) (Nat.le_of_ble_eq_true rfl) rfl rfl (Nat.le_of_ble_eq_true rfl) (fun r7 σ6 h => ?_)
      refine r_if_ne (tgt := 41) C dX8_down_32 rfl (fun q => ?_) (fun q => ?_)
      · have h := h.1 q
        refine r_aload_n C dX8_down_41 rfl 0 rfl ?_
        refine gf_8_42 C dX8_down_42 (cn_8 (by decide)) ?_
        refine r_bipush C dX8_down_45 bi_79 ?_
        refine r_iload_n C dX8_down_47 rfl 1 rfl ?_
        refine r_iadd C dX8_down_48 ?_
        obtain ⟨h0, h⟩ := h
        refine r_iaload C dX8_down_49 ak_61 (cn_61 (by decide)) al_61 h0 ?_
        refine r_istore_n C dX8_down_50 rfl (Nat.le_of_ble_eq_true rfl) rfl ?_
        refine r_aload_n C dX8_down_51 rfl 1 rfl ?_
        refine gf_8_42 C dX8_down_52 (cn_8 (by decide)) ?_
        refine r_bipush C dX8_down_55 bi_79 ?_
        refine r_iload_n C dX8_down_57 rfl 2 rfl ?_
        refine r_iadd C dX8_down_58 ?_
        refine r_iload_n C dX8_down_59 rfl 3 rfl ?_
        obtain ⟨h0, h⟩ := h
        refine r_iastore C dX8_down_60 ak_61 (cn_61 (by decide)) al_61 h0 ?_
        have h := h _ rfl
        refine r_iload_n C dX8_down_61 rfl 0 rfl ?_
        exact r_ireturn C dX8_down_62 ⟨_, rfl, h⟩
      · have h := h.2 q
        refine r_aload_n C dX8_down_35 rfl 0 rfl ?_
        refine r_iconst C dX8_down_36 ic_2 ?_
        refine r_callVi [] C dX8_down_37 w_8_203 (ok_X8_no l g _ _ _ h) (Nat.le_of_ble_eq_true rfl) rfl rfl ak_8 (cn_8 (by decide)) rfl rfl (Nat.le_of_ble_eq_true rfl) (fun r10 σ9 h => ?_)
        exact r_ireturn C dX8_down_40 ⟨_, rfl, h⟩
    · have h := h.2 q
      refine r_sub [0] rfl ?_
      exact j20 _ h
def J_X8_anew_78 (Q : Int32 → Hp → Prop) (kb : Int32 → Int32 → Hp → Prop) (K84 : Int32 → Hp → Prop) (y1 : Int32) (y2 : Int32) (y3 : Int32) (σ : Hp) : Prop :=
  kb y2 (y3 + 1) σ
def L_X8_anew_22 (Q : Int32 → Hp → Prop) (K84 : Int32 → Hp → Prop) (y1 : Int32) : Nat → Int32 → Int32 → Hp → Prop
  | 0, _, _, _ => False
  | n + 1, y2, y3, σ =>
  vp_in 6 7 ∧ (((gI σ 53 0 (ix 6)) ≤ y3 → K84 y2 σ) ∧ (¬ (gI σ 53 0 (ix 6)) ≤ y3 → S_X8_linkOf y3 0 σ (fun r5 σ4 => ((¬ r5 = y1 → J_X8_anew_78 Q (L_X8_anew_22 Q K84 y1 n) K84 y1 y2 y3 σ4) ∧ (r5 = y1 → S_X8_linkAt y3 0 σ4 (fun r7 σ6 => vp_in r7 1809 ∧ S_X8_linkAt y3 0 σ6 (fun r9 σ8 => vp_in r9 1809 ∧ ∀ σ10, σ10 = sI σ8 61 0 (ix r9) 0 → S_X8_linkAt y3 2 σ10 (fun r12 σ11 => vp_in r12 1809 ∧ ∀ σ13, σ13 = sI σ11 61 0 (ix r12) 0 → J_X8_anew_78 Q (L_X8_anew_22 Q K84 y1 n) K84 y1 (y2 + (gI σ6 61 0 (ix r7))) y3 σ13))))))))
def S_X8_anew (x1 : Int32) (σ : Hp) (Q : Int32 → Hp → Prop) : Prop :=
  S_X8_fresh σ (fun σ1 => S_X8_isEnd x1 σ1 (fun r3 σ2 => ((¬ r3 = 0 → (∃ n14, L_X8_anew_22 Q (fun w16 σ15 => Q w16 σ15) x1 n14 0 0 σ2)) ∧ (r3 = 0 → S_X8_no 1 σ2 (fun r18 σ17 => Q r18 σ17)))))
set_option maxHeartbeats 2000000 in
set_option maxRecDepth 20000 in
theorem ok_X8_anew (l : Launch) (g : Gm) (x1 : Int32) (σ : Hp) (Q : Int32 → Hp → Prop) (h : S_X8_anew x1 σ Q) : Ct l g yX8_anew cX8_anew 4 (some .int) 2 [.ref (gad g 8 0), .int x1] σ (QI Q) := by
  refine Ct.of (by decide +kernel) (Nat.le_of_ble_eq_true rfl) ?_
  intro p e R s m args below meth c C
  have C : Cx g p R s m args meth c cX8_anew 4 RX8 (some .int) 2 := C
  have j78 : ∀ (kb : Int32 → Int32 → Hp → Prop) (K84 : Int32 → Hp → Prop) (y1 : Int32) (y2 : Int32) (y3 : Int32) (hkb : ∀ (v2 : Int32) (v3 : Int32) (σ : Hp), kb v2 v3 σ → G g p l e R s m args below meth c (QI Q) 4 22 [(0, .ref (gad g 8 0)), (1, .int y1), (2, .int v2), (3, .int v3)] [] σ) (hK84 : ∀ (v2 : Int32) (σ : Hp), K84 v2 σ → G g p l e R s m args below meth c (QI Q) 4 84 [(2, .int v2)] [] σ) (σ : Hp), J_X8_anew_78 Q kb K84 y1 y2 y3 σ → G g p l e R s m args below meth c (QI Q) 4 78 [(0, .ref (gad g 8 0)), (1, .int y1), (2, .int y2), (3, .int y3)] [] σ := by
    intro kb K84 y1 y2 y3 hkb hK84 σ h
    unfold J_X8_anew_78 at h
    refine r_iinc (v := y3 + 1) C dX8_anew_78 3 rfl rfl (Nat.le_of_ble_eq_true rfl) rfl ?_
    refine r_goto (tgt := 22) C dX8_anew_81 rfl ?_
    refine r_sub [1, 2, 3, 0] rfl ?_
    exact hkb _ _ _ h
  have l22 : ∀ (K84 : Int32 → Hp → Prop) (y1 : Int32) (hK84 : ∀ (v2 : Int32) (σ : Hp), K84 v2 σ → G g p l e R s m args below meth c (QI Q) 4 84 [(2, .int v2)] [] σ) (n : Nat) (y2 : Int32) (y3 : Int32) (σ : Hp), L_X8_anew_22 Q K84 y1 n y2 y3 σ → G g p l e R s m args below meth c (QI Q) 4 22 [(0, .ref (gad g 8 0)), (1, .int y1), (2, .int y2), (3, .int y3)] [] σ := by
    intro K84 y1 hK84 n
    induction n with
    | zero => intro y2 y3 σ h; exact False.elim h
    | succ n ih =>
      intro y2 y3 σ h
      unfold L_X8_anew_22 at h
      refine r_iload_n C dX8_anew_22 rfl 3 rfl ?_
      refine r_aload_n C dX8_anew_23 rfl 0 rfl ?_
      refine gf_8_17 C dX8_anew_24 (cn_8 (by decide)) ?_
      refine r_bipush C dX8_anew_27 bi_6 ?_
      obtain ⟨h0, h⟩ := h
      refine r_iaload C dX8_anew_29 ak_53 (cn_53 (by decide)) al_53 h0 ?_
      refine r_icmp_ge (tgt := 84) C dX8_anew_30 rfl (fun q => ?_) (fun q => ?_)
      · have h := h.1 q
        refine r_sub [2] rfl ?_
        exact hK84 _ _ h
      · have h := h.2 q
        refine r_aload_n C dX8_anew_33 rfl 0 rfl ?_
        refine r_iload_n C dX8_anew_34 rfl 3 rfl ?_
        refine r_iconst C dX8_anew_35 ic_0 ?_
        refine r_callVi [] C dX8_anew_36 w_8_221 (ok_X8_linkOf l g _ _ _ _ h) (Nat.le_of_ble_eq_true rfl) rfl rfl ak_8 (cn_8 (by decide)) rfl rfl (Nat.le_of_ble_eq_true rfl) (fun r5 σ4 h => ?_)
        refine r_iload_n C dX8_anew_39 rfl 1 rfl ?_
        refine r_icmp_ne (tgt := 78) C dX8_anew_40 rfl (fun q => ?_) (fun q => ?_)
        · have h := h.1 q
          exact j78 _ _ _ _ _ ih hK84 _ h
        · have h := h.2 q
          refine r_iload_n C dX8_anew_43 rfl 2 rfl ?_
          refine r_aload_n C dX8_anew_44 rfl 0 rfl ?_
          refine gf_8_42 C dX8_anew_45 (cn_8 (by decide)) ?_
          refine r_iload_n C dX8_anew_48 rfl 3 rfl ?_
          refine r_iconst C dX8_anew_49 ic_0 ?_
          refine r_callSi [.ref (gad g 61 0), .int _] C dX8_anew_50 w_8_246 (ok_X8_linkAt l g _ _ _ _ h) (Nat.le_of_ble_eq_true rfl) rfl rfl (Nat.le_of_ble_eq_true rfl) (fun r7 σ6 h => ?_)
          obtain ⟨h0, h⟩ := h
          refine r_iaload C dX8_anew_53 ak_61 (cn_61 (by decide)) al_61 h0 ?_
          refine r_iadd C dX8_anew_54 ?_
          refine r_istore_n C dX8_anew_55 rfl (Nat.le_of_ble_eq_true rfl) rfl ?_
          refine r_aload_n C dX8_anew_56 rfl 1 rfl ?_
          refine gf_8_42 C dX8_anew_57 (cn_8 (by decide)) ?_
          refine r_iload_n C dX8_anew_60 rfl 3 rfl ?_
          refine r_iconst C dX8_anew_61 ic_0 ?_
          refine r_callSi [.ref (gad g 61 0)] C dX8_anew_62 w_8_246 (ok_X8_linkAt l g _ _ _ _ h) (Nat.le_of_ble_eq_true rfl) rfl rfl (Nat.le_of_ble_eq_true rfl) (fun r9 σ8 h => ?_)
          refine r_iconst C dX8_anew_65 ic_0 ?_
          obtain ⟨h0, h⟩ := h
          refine r_iastore C dX8_anew_66 ak_61 (cn_61 (by decide)) al_61 h0 ?_
          have h := h _ rfl
          refine r_aload_n C dX8_anew_67 rfl 1 rfl ?_
          refine gf_8_42 C dX8_anew_68 (cn_8 (by decide)) ?_
          refine r_iload_n C dX8_anew_71 rfl 3 rfl ?_
          refine r_iconst C dX8_anew_72 ic_2 ?_
          refine r_callSi [.ref (gad g 61 0)] C dX8_anew_73 w_8_246 (ok_X8_linkAt l g _ _ _ _ h) (Nat.le_of_ble_eq_true rfl) rfl rfl (Nat.le_of_ble_eq_true rfl) (fun r12 σ11 h => ?_)
          refine r_iconst C dX8_anew_76 ic_0 ?_
          obtain ⟨h0, h⟩ := h
          refine r_iastore C dX8_anew_77 ak_61 (cn_61 (by decide)) al_61 h0 ?_
          have h := h _ rfl
          refine r_sub [1, 2, 0, 3] rfl ?_
          exact j78 _ _ _ _ _ ih hK84 _ h
  unfold S_X8_anew at h
  show G g p l e R s m args below meth c (QI Q) 4 0 [(0, .ref (gad g 8 0)), (1, .int x1)] [] σ
  refine r_aload_n C dX8_anew_0 rfl 0 rfl ?_
  refine r_callVv [] C dX8_anew_1 w_8_200 (ok_X8_fresh l g _ _ h) (Nat.le_of_ble_eq_true rfl) rfl rfl ak_8 (cn_8 (by decide)) rfl rfl (Nat.le_of_ble_eq_true rfl) (fun σ1 h => ?_)
  refine r_aload_n C dX8_anew_4 rfl 0 rfl ?_
  refine r_iload_n C dX8_anew_5 rfl 1 rfl ?_
  refine r_callVi [] C dX8_anew_6 w_8_227 (ok_X8_isEnd l g _ _ _ h) (Nat.le_of_ble_eq_true rfl) rfl rfl ak_8 (cn_8 (by decide)) rfl rfl (Nat.le_of_ble_eq_true rfl) (fun r3 σ2 h => ?_)
  refine r_if_ne (tgt := 18) C dX8_anew_9 rfl (fun q => ?_) (fun q => ?_)
  · have h := h.1 q
    refine r_iconst C dX8_anew_18 ic_0 ?_
    refine r_istore_n C dX8_anew_19 rfl (Nat.le_of_ble_eq_true rfl) rfl ?_
    refine r_iconst C dX8_anew_20 ic_0 ?_
    refine r_istore_n C dX8_anew_21 rfl (Nat.le_of_ble_eq_true rfl) rfl ?_
    refine r_sub [2, 3, 1, 0] rfl ?_
    obtain ⟨n14, h⟩ := h
    refine l22 _ _ (fun w16 σ15 h => ?_) n14 _ _ _ h
    refine r_iload_n C dX8_anew_84 rfl 0 rfl ?_
    exact r_ireturn C dX8_anew_85 ⟨_, rfl, h⟩
  · have h := h.2 q
    refine r_aload_n C dX8_anew_12 rfl 0 rfl ?_
    refine r_iconst C dX8_anew_13 ic_1 ?_
    refine r_callVi [] C dX8_anew_14 w_8_203 (ok_X8_no l g _ _ _ h) (Nat.le_of_ble_eq_true rfl) rfl rfl ak_8 (cn_8 (by decide)) rfl rfl (Nat.le_of_ble_eq_true rfl) (fun r18 σ17 h => ?_)
    exact r_ireturn C dX8_anew_17 ⟨_, rfl, h⟩
def S_X8_ticks (x1 : Int32) (σ : Hp) (Q : Int32 → Hp → Prop) : Prop :=
  S_X8_fresh σ (fun σ1 => ((¬ (gI σ1 8 0 14) = 0 → S_X8_in x1 1 600 σ1 (fun r3 σ2 => ((¬ r3 = 0 → S_X8_goes x1 σ2 (fun σ4 => Q (gI σ4 8 0 28) σ4)) ∧ (r3 = 0 → S_X8_no 2 σ2 (fun r6 σ5 => Q r6 σ5))))) ∧ ((gI σ1 8 0 14) = 0 → S_X8_no 1 σ1 (fun r8 σ7 => Q r8 σ7))))
set_option maxHeartbeats 2000000 in
set_option maxRecDepth 20000 in
theorem ok_X8_ticks (l : Launch) (g : Gm) (x1 : Int32) (σ : Hp) (Q : Int32 → Hp → Prop) (h : S_X8_ticks x1 σ Q) : Ct l g yX8_ticks cX8_ticks 2 (some .int) 7 [.ref (gad g 8 0), .int x1] σ (QI Q) := by
  refine Ct.of (by decide +kernel) (Nat.le_of_ble_eq_true rfl) ?_
  intro p e R s m args below meth c C
  have C : Cx g p R s m args meth c cX8_ticks 2 RX8 (some .int) 7 := C
  unfold S_X8_ticks at h
  show G g p l e R s m args below meth c (QI Q) 2 0 [(0, .ref (gad g 8 0)), (1, .int x1)] [] σ
  refine r_aload_n C dX8_ticks_0 rfl 0 rfl ?_
  refine r_callVv [] C dX8_ticks_1 w_8_200 (ok_X8_fresh l g _ _ h) (Nat.le_of_ble_eq_true rfl) rfl rfl ak_8 (cn_8 (by decide)) rfl rfl (Nat.le_of_ble_eq_true rfl) (fun σ1 h => ?_)
  refine r_aload_n C dX8_ticks_4 rfl 0 rfl ?_
  refine gf_8_212 C dX8_ticks_5 (cn_8 (by decide)) ?_
  refine r_if_ne (tgt := 17) C dX8_ticks_8 rfl (fun q => ?_) (fun q => ?_)
  · have h := h.1 q
    refine r_iload_n C dX8_ticks_17 rfl 1 rfl ?_
    refine r_iconst C dX8_ticks_18 ic_1 ?_
    refine r_sipush C dX8_ticks_19 si_600 ?_
    refine r_callSi [] C dX8_ticks_22 w_8_80 (ok_X8_in l g _ _ _ _ _ h) (Nat.le_of_ble_eq_true rfl) rfl rfl (Nat.le_of_ble_eq_true rfl) (fun r3 σ2 h => ?_)
    refine r_if_ne (tgt := 34) C dX8_ticks_25 rfl (fun q => ?_) (fun q => ?_)
    · have h := h.1 q
      refine r_aload_n C dX8_ticks_34 rfl 0 rfl ?_
      refine r_iload_n C dX8_ticks_35 rfl 1 rfl ?_
      refine r_callVv [] C dX8_ticks_36 w_8_345 (ok_X8_goes l g _ _ _ h) (Nat.le_of_ble_eq_true rfl) rfl rfl ak_8 (cn_8 (by decide)) rfl rfl (Nat.le_of_ble_eq_true rfl) (fun σ4 h => ?_)
      refine r_aload_n C dX8_ticks_39 rfl 0 rfl ?_
      refine gf_8_274 C dX8_ticks_40 (cn_8 (by decide)) ?_
      exact r_ireturn C dX8_ticks_43 ⟨_, rfl, h⟩
    · have h := h.2 q
      refine r_aload_n C dX8_ticks_28 rfl 0 rfl ?_
      refine r_iconst C dX8_ticks_29 ic_2 ?_
      refine r_callVi [] C dX8_ticks_30 w_8_203 (ok_X8_no l g _ _ _ h) (Nat.le_of_ble_eq_true rfl) rfl rfl ak_8 (cn_8 (by decide)) rfl rfl (Nat.le_of_ble_eq_true rfl) (fun r6 σ5 h => ?_)
      exact r_ireturn C dX8_ticks_33 ⟨_, rfl, h⟩
  · have h := h.2 q
    refine r_aload_n C dX8_ticks_11 rfl 0 rfl ?_
    refine r_iconst C dX8_ticks_12 ic_1 ?_
    refine r_callVi [] C dX8_ticks_13 w_8_203 (ok_X8_no l g _ _ _ h) (Nat.le_of_ble_eq_true rfl) rfl rfl ak_8 (cn_8 (by decide)) rfl rfl (Nat.le_of_ble_eq_true rfl) (fun r8 σ7 h => ?_)
    exact r_ireturn C dX8_ticks_16 ⟨_, rfl, h⟩
def J_X8_willHear_22 (Q : Int32 → Hp → Prop) (σ : Hp) : Prop :=
  S_X8_no 1 σ (fun r5 σ4 => Q r5 σ4)
def S_X8_willHear (x1 : Int32) (x2 : Int32) (x3 : Int32) (x4 : Int32) (σ : Hp) (Q : Int32 → Hp → Prop) : Prop :=
  S_X8_fresh σ (fun σ1 => S_X8_isReceiver x2 x3 x4 σ1 (fun r3 σ2 => ((r3 = 0 → J_X8_willHear_22 Q σ2) ∧ (¬ r3 = 0 → ((x4 ≤ 7 → S_X8_in x1 1 600 σ2 (fun r7 σ6 => ((¬ r7 = 0 → S_X8_laysAside σ6 (fun σ8 => S_X8_goes x1 σ8 (fun σ9 => S_X8_hearAt x2 x3 σ9 (fun r11 σ10 => vp_in (r11 + x4) 1809 ∧ S_X8_takesBack σ10 (fun σ12 => Q (gI σ10 61 0 (ix (r11 + x4))) σ12))))) ∧ (r7 = 0 → S_X8_no 2 σ6 (fun r14 σ13 => Q r14 σ13))))) ∧ (¬ x4 ≤ 7 → J_X8_willHear_22 Q σ2))))))
set_option maxHeartbeats 2000000 in
set_option maxRecDepth 20000 in
theorem ok_X8_willHear (l : Launch) (g : Gm) (x1 : Int32) (x2 : Int32) (x3 : Int32) (x4 : Int32) (σ : Hp) (Q : Int32 → Hp → Prop) (h : S_X8_willHear x1 x2 x3 x4 σ Q) : Ct l g yX8_willHear cX8_willHear 6 (some .int) 7 [.ref (gad g 8 0), .int x1, .int x2, .int x3, .int x4] σ (QI Q) := by
  refine Ct.of (by decide +kernel) (Nat.le_of_ble_eq_true rfl) ?_
  intro p e R s m args below meth c C
  have C : Cx g p R s m args meth c cX8_willHear 6 RX8 (some .int) 7 := C
  have j22 : ∀ (σ : Hp), J_X8_willHear_22 Q σ → G g p l e R s m args below meth c (QI Q) 6 22 [(0, .ref (gad g 8 0))] [] σ := by
    intro σ h
    unfold J_X8_willHear_22 at h
    refine r_aload_n C dX8_willHear_22 rfl 0 rfl ?_
    refine r_iconst C dX8_willHear_23 ic_1 ?_
    refine r_callVi [] C dX8_willHear_24 w_8_203 (ok_X8_no l g _ _ _ h) (Nat.le_of_ble_eq_true rfl) rfl rfl ak_8 (cn_8 (by decide)) rfl rfl (Nat.le_of_ble_eq_true rfl) (fun r5 σ4 h => ?_)
    exact r_ireturn C dX8_willHear_27 ⟨_, rfl, h⟩
  unfold S_X8_willHear at h
  show G g p l e R s m args below meth c (QI Q) 6 0 [(0, .ref (gad g 8 0)), (1, .int x1), (2, .int x2), (3, .int x3), (4, .int x4)] [] σ
  refine r_aload_n C dX8_willHear_0 rfl 0 rfl ?_
  refine r_callVv [] C dX8_willHear_1 w_8_200 (ok_X8_fresh l g _ _ h) (Nat.le_of_ble_eq_true rfl) rfl rfl ak_8 (cn_8 (by decide)) rfl rfl (Nat.le_of_ble_eq_true rfl) (fun σ1 h => ?_)
  refine r_aload_n C dX8_willHear_4 rfl 0 rfl ?_
  refine r_iload_n C dX8_willHear_5 rfl 2 rfl ?_
  refine r_iload_n C dX8_willHear_6 rfl 3 rfl ?_
  refine r_iload C dX8_willHear_7 4 rfl ?_
  refine r_callVi [] C dX8_willHear_9 w_8_243 (ok_X8_isReceiver l g _ _ _ _ _ h) (Nat.le_of_ble_eq_true rfl) rfl rfl ak_8 (cn_8 (by decide)) rfl rfl (Nat.le_of_ble_eq_true rfl) (fun r3 σ2 h => ?_)
  refine r_if_eq (tgt := 22) C dX8_willHear_12 rfl (fun q => ?_) (fun q => ?_)
  · have h := h.1 q
    refine r_sub [0] rfl ?_
    exact j22 _ h
  · have h := h.2 q
    refine r_iload C dX8_willHear_15 4 rfl ?_
    refine r_bipush C dX8_willHear_17 bi_7 ?_
    refine r_icmp_le (tgt := 28) C dX8_willHear_19 rfl (fun q => ?_) (fun q => ?_)
    · have h := h.1 q
      refine r_iload_n C dX8_willHear_28 rfl 1 rfl ?_
      refine r_iconst C dX8_willHear_29 ic_1 ?_
      refine r_sipush C dX8_willHear_30 si_600 ?_
      refine r_callSi [] C dX8_willHear_33 w_8_80 (ok_X8_in l g _ _ _ _ _ h) (Nat.le_of_ble_eq_true rfl) rfl rfl (Nat.le_of_ble_eq_true rfl) (fun r7 σ6 h => ?_)
      refine r_if_ne (tgt := 45) C dX8_willHear_36 rfl (fun q => ?_) (fun q => ?_)
      · have h := h.1 q
        refine r_aload_n C dX8_willHear_45 rfl 0 rfl ?_
        refine r_callVv [] C dX8_willHear_46 w_8_348 (ok_X8_laysAside l g _ _ h) (Nat.le_of_ble_eq_true rfl) rfl rfl ak_8 (cn_8 (by decide)) rfl rfl (Nat.le_of_ble_eq_true rfl) (fun σ8 h => ?_)
        refine r_aload_n C dX8_willHear_49 rfl 0 rfl ?_
        refine r_iload_n C dX8_willHear_50 rfl 1 rfl ?_
        refine r_callVv [] C dX8_willHear_51 w_8_345 (ok_X8_goes l g _ _ _ h) (Nat.le_of_ble_eq_true rfl) rfl rfl ak_8 (cn_8 (by decide)) rfl rfl (Nat.le_of_ble_eq_true rfl) (fun σ9 h => ?_)
        refine r_aload_n C dX8_willHear_54 rfl 0 rfl ?_
        refine gf_8_42 C dX8_willHear_55 (cn_8 (by decide)) ?_
        refine r_iload_n C dX8_willHear_58 rfl 2 rfl ?_
        refine r_iload_n C dX8_willHear_59 rfl 3 rfl ?_
        refine r_callSi [.ref (gad g 61 0)] C dX8_willHear_60 w_8_252 (ok_X8_hearAt l g _ _ _ _ h) (Nat.le_of_ble_eq_true rfl) rfl rfl (Nat.le_of_ble_eq_true rfl) (fun r11 σ10 h => ?_)
        refine r_iload C dX8_willHear_63 4 rfl ?_
        refine r_iadd C dX8_willHear_65 ?_
        obtain ⟨h0, h⟩ := h
        refine r_iaload C dX8_willHear_66 ak_61 (cn_61 (by decide)) al_61 h0 ?_
        refine r_istore C dX8_willHear_67 (Nat.le_of_ble_eq_true rfl) rfl ?_
        refine r_aload_n C dX8_willHear_69 rfl 1 rfl ?_
        refine r_callVv [] C dX8_willHear_70 w_8_351 (ok_X8_takesBack l g _ _ h) (Nat.le_of_ble_eq_true rfl) rfl rfl ak_8 (cn_8 (by decide)) rfl rfl (Nat.le_of_ble_eq_true rfl) (fun σ12 h => ?_)
        refine r_iload C dX8_willHear_73 0 rfl ?_
        exact r_ireturn C dX8_willHear_75 ⟨_, rfl, h⟩
      · have h := h.2 q
        refine r_aload_n C dX8_willHear_39 rfl 0 rfl ?_
        refine r_iconst C dX8_willHear_40 ic_2 ?_
        refine r_callVi [] C dX8_willHear_41 w_8_203 (ok_X8_no l g _ _ _ h) (Nat.le_of_ble_eq_true rfl) rfl rfl ak_8 (cn_8 (by decide)) rfl rfl (Nat.le_of_ble_eq_true rfl) (fun r14 σ13 h => ?_)
        exact r_ireturn C dX8_willHear_44 ⟨_, rfl, h⟩
    · have h := h.2 q
      refine r_sub [0] rfl ?_
      exact j22 _ h
def S_X8_willLose (x1 : Int32) (x2 : Int32) (x3 : Int32) (σ : Hp) (Q : Int32 → Hp → Prop) : Prop :=
  S_X8_fresh σ (fun σ1 => S_X8_isLoss x2 x3 σ1 (fun r3 σ2 => ((¬ r3 = 0 → S_X8_in x1 1 600 σ2 (fun r5 σ4 => ((¬ r5 = 0 → S_X8_laysAside σ4 (fun σ6 => S_X8_goes x1 σ6 (fun σ7 => vp_in ((73 + (3 * x2)) + x3) 1809 ∧ S_X8_takesBack σ7 (fun σ8 => Q (gI σ7 61 0 (ix ((73 + (3 * x2)) + x3))) σ8)))) ∧ (r5 = 0 → S_X8_no 2 σ4 (fun r10 σ9 => Q r10 σ9))))) ∧ (r3 = 0 → S_X8_no 1 σ2 (fun r12 σ11 => Q r12 σ11)))))
set_option maxHeartbeats 2000000 in
set_option maxRecDepth 20000 in
theorem ok_X8_willLose (l : Launch) (g : Gm) (x1 : Int32) (x2 : Int32) (x3 : Int32) (σ : Hp) (Q : Int32 → Hp → Prop) (h : S_X8_willLose x1 x2 x3 σ Q) : Ct l g yX8_willLose cX8_willLose 5 (some .int) 7 [.ref (gad g 8 0), .int x1, .int x2, .int x3] σ (QI Q) := by
  refine Ct.of (by decide +kernel) (Nat.le_of_ble_eq_true rfl) ?_
  intro p e R s m args below meth c C
  have C : Cx g p R s m args meth c cX8_willLose 5 RX8 (some .int) 7 := C
  unfold S_X8_willLose at h
  show G g p l e R s m args below meth c (QI Q) 5 0 [(0, .ref (gad g 8 0)), (1, .int x1), (2, .int x2), (3, .int x3)] [] σ
  refine r_aload_n C dX8_willLose_0 rfl 0 rfl ?_
  refine r_callVv [] C dX8_willLose_1 w_8_200 (ok_X8_fresh l g _ _ h) (Nat.le_of_ble_eq_true rfl) rfl rfl ak_8 (cn_8 (by decide)) rfl rfl (Nat.le_of_ble_eq_true rfl) (fun σ1 h => ?_)
  refine r_aload_n C dX8_willLose_4 rfl 0 rfl ?_
  refine r_iload_n C dX8_willLose_5 rfl 2 rfl ?_
  refine r_iload_n C dX8_willLose_6 rfl 3 rfl ?_
  refine r_callVi [] C dX8_willLose_7 w_8_310 (ok_X8_isLoss l g _ _ _ _ h) (Nat.le_of_ble_eq_true rfl) rfl rfl ak_8 (cn_8 (by decide)) rfl rfl (Nat.le_of_ble_eq_true rfl) (fun r3 σ2 h => ?_)
  refine r_if_ne (tgt := 19) C dX8_willLose_10 rfl (fun q => ?_) (fun q => ?_)
  · have h := h.1 q
    refine r_iload_n C dX8_willLose_19 rfl 1 rfl ?_
    refine r_iconst C dX8_willLose_20 ic_1 ?_
    refine r_sipush C dX8_willLose_21 si_600 ?_
    refine r_callSi [] C dX8_willLose_24 w_8_80 (ok_X8_in l g _ _ _ _ _ h) (Nat.le_of_ble_eq_true rfl) rfl rfl (Nat.le_of_ble_eq_true rfl) (fun r5 σ4 h => ?_)
    refine r_if_ne (tgt := 36) C dX8_willLose_27 rfl (fun q => ?_) (fun q => ?_)
    · have h := h.1 q
      refine r_aload_n C dX8_willLose_36 rfl 0 rfl ?_
      refine r_callVv [] C dX8_willLose_37 w_8_348 (ok_X8_laysAside l g _ _ h) (Nat.le_of_ble_eq_true rfl) rfl rfl ak_8 (cn_8 (by decide)) rfl rfl (Nat.le_of_ble_eq_true rfl) (fun σ6 h => ?_)
      refine r_aload_n C dX8_willLose_40 rfl 0 rfl ?_
      refine r_iload_n C dX8_willLose_41 rfl 1 rfl ?_
      refine r_callVv [] C dX8_willLose_42 w_8_345 (ok_X8_goes l g _ _ _ h) (Nat.le_of_ble_eq_true rfl) rfl rfl ak_8 (cn_8 (by decide)) rfl rfl (Nat.le_of_ble_eq_true rfl) (fun σ7 h => ?_)
      refine r_aload_n C dX8_willLose_45 rfl 0 rfl ?_
      refine gf_8_42 C dX8_willLose_46 (cn_8 (by decide)) ?_
      refine r_bipush C dX8_willLose_49 bi_73 ?_
      refine r_iconst C dX8_willLose_51 ic_3 ?_
      refine r_iload_n C dX8_willLose_52 rfl 2 rfl ?_
      refine r_imul C dX8_willLose_53 ?_
      refine r_iadd C dX8_willLose_54 ?_
      refine r_iload_n C dX8_willLose_55 rfl 3 rfl ?_
      refine r_iadd C dX8_willLose_56 ?_
      obtain ⟨h0, h⟩ := h
      refine r_iaload C dX8_willLose_57 ak_61 (cn_61 (by decide)) al_61 h0 ?_
      refine r_istore C dX8_willLose_58 (Nat.le_of_ble_eq_true rfl) rfl ?_
      refine r_aload_n C dX8_willLose_60 rfl 1 rfl ?_
      refine r_callVv [] C dX8_willLose_61 w_8_351 (ok_X8_takesBack l g _ _ h) (Nat.le_of_ble_eq_true rfl) rfl rfl ak_8 (cn_8 (by decide)) rfl rfl (Nat.le_of_ble_eq_true rfl) (fun σ8 h => ?_)
      refine r_iload C dX8_willLose_64 0 rfl ?_
      exact r_ireturn C dX8_willLose_66 ⟨_, rfl, h⟩
    · have h := h.2 q
      refine r_aload_n C dX8_willLose_30 rfl 0 rfl ?_
      refine r_iconst C dX8_willLose_31 ic_2 ?_
      refine r_callVi [] C dX8_willLose_32 w_8_203 (ok_X8_no l g _ _ _ h) (Nat.le_of_ble_eq_true rfl) rfl rfl ak_8 (cn_8 (by decide)) rfl rfl (Nat.le_of_ble_eq_true rfl) (fun r10 σ9 h => ?_)
      exact r_ireturn C dX8_willLose_35 ⟨_, rfl, h⟩
  · have h := h.2 q
    refine r_aload_n C dX8_willLose_13 rfl 0 rfl ?_
    refine r_iconst C dX8_willLose_14 ic_1 ?_
    refine r_callVi [] C dX8_willLose_15 w_8_203 (ok_X8_no l g _ _ _ h) (Nat.le_of_ble_eq_true rfl) rfl rfl ak_8 (cn_8 (by decide)) rfl rfl (Nat.le_of_ble_eq_true rfl) (fun r12 σ11 h => ?_)
    exact r_ireturn C dX8_willLose_18 ⟨_, rfl, h⟩
def L_X8_waitingMany_4 (Q : Int32 → Hp → Prop) (K34 : Int32 → Hp → Prop) : Nat → Int32 → Int32 → Hp → Prop
  | 0, _, _, _ => False
  | n + 1, y1, y2, σ =>
  vp_in 6 7 ∧ (((gI σ 53 0 (ix 6)) ≤ y2 → K34 y1 σ) ∧ (¬ (gI σ 53 0 (ix 6)) ≤ y2 → S_X8_linkAt y2 0 σ (fun r2 σ1 => vp_in r2 1809 ∧ L_X8_waitingMany_4 Q K34 n (y1 + (gI σ1 61 0 (ix r2))) (y2 + 1) σ1)))
def S_X8_waitingMany (σ : Hp) (Q : Int32 → Hp → Prop) : Prop :=
  (∃ n3, L_X8_waitingMany_4 Q (fun w5 σ4 => Q w5 σ4) n3 0 0 σ)
set_option maxHeartbeats 2000000 in
set_option maxRecDepth 20000 in
theorem ok_X8_waitingMany (l : Launch) (g : Gm) (σ : Hp) (Q : Int32 → Hp → Prop) (h : S_X8_waitingMany σ Q) : Ct l g yX8_waitingMany cX8_waitingMany 3 (some .int) 1 [.ref (gad g 8 0)] σ (QI Q) := by
  refine Ct.of (by decide +kernel) (Nat.le_of_ble_eq_true rfl) ?_
  intro p e R s m args below meth c C
  have C : Cx g p R s m args meth c cX8_waitingMany 3 RX8 (some .int) 1 := C
  have l4 : ∀ (K34 : Int32 → Hp → Prop) (hK34 : ∀ (v1 : Int32) (σ : Hp), K34 v1 σ → G g p l e R s m args below meth c (QI Q) 3 34 [(1, .int v1)] [] σ) (n : Nat) (y1 : Int32) (y2 : Int32) (σ : Hp), L_X8_waitingMany_4 Q K34 n y1 y2 σ → G g p l e R s m args below meth c (QI Q) 3 4 [(0, .ref (gad g 8 0)), (1, .int y1), (2, .int y2)] [] σ := by
    intro K34 hK34 n
    induction n with
    | zero => intro y1 y2 σ h; exact False.elim h
    | succ n ih =>
      intro y1 y2 σ h
      unfold L_X8_waitingMany_4 at h
      refine r_iload_n C dX8_waitingMany_4 rfl 2 rfl ?_
      refine r_aload_n C dX8_waitingMany_5 rfl 0 rfl ?_
      refine gf_8_17 C dX8_waitingMany_6 (cn_8 (by decide)) ?_
      refine r_bipush C dX8_waitingMany_9 bi_6 ?_
      obtain ⟨h0, h⟩ := h
      refine r_iaload C dX8_waitingMany_11 ak_53 (cn_53 (by decide)) al_53 h0 ?_
      refine r_icmp_ge (tgt := 34) C dX8_waitingMany_12 rfl (fun q => ?_) (fun q => ?_)
      · have h := h.1 q
        refine r_sub [1] rfl ?_
        exact hK34 _ _ h
      · have h := h.2 q
        refine r_iload_n C dX8_waitingMany_15 rfl 1 rfl ?_
        refine r_aload_n C dX8_waitingMany_16 rfl 0 rfl ?_
        refine gf_8_42 C dX8_waitingMany_17 (cn_8 (by decide)) ?_
        refine r_iload_n C dX8_waitingMany_20 rfl 2 rfl ?_
        refine r_iconst C dX8_waitingMany_21 ic_0 ?_
        refine r_callSi [.ref (gad g 61 0), .int _] C dX8_waitingMany_22 w_8_246 (ok_X8_linkAt l g _ _ _ _ h) (Nat.le_of_ble_eq_true rfl) rfl rfl (Nat.le_of_ble_eq_true rfl) (fun r2 σ1 h => ?_)
        obtain ⟨h0, h⟩ := h
        refine r_iaload C dX8_waitingMany_25 ak_61 (cn_61 (by decide)) al_61 h0 ?_
        refine r_iadd C dX8_waitingMany_26 ?_
        refine r_istore_n C dX8_waitingMany_27 rfl (Nat.le_of_ble_eq_true rfl) rfl ?_
        refine r_iinc (v := y2 + 1) C dX8_waitingMany_28 2 rfl rfl (Nat.le_of_ble_eq_true rfl) rfl ?_
        refine r_goto (tgt := 4) C dX8_waitingMany_31 rfl ?_
        refine r_sub [2, 1, 0] rfl ?_
        exact ih _ _ _ h
  unfold S_X8_waitingMany at h
  show G g p l e R s m args below meth c (QI Q) 3 0 [(0, .ref (gad g 8 0))] [] σ
  refine r_iconst C dX8_waitingMany_0 ic_0 ?_
  refine r_istore_n C dX8_waitingMany_1 rfl (Nat.le_of_ble_eq_true rfl) rfl ?_
  refine r_iconst C dX8_waitingMany_2 ic_0 ?_
  refine r_istore_n C dX8_waitingMany_3 rfl (Nat.le_of_ble_eq_true rfl) rfl ?_
  refine r_sub [2, 1, 0] rfl ?_
  obtain ⟨n3, h⟩ := h
  refine l4 _ (fun w5 σ4 h => ?_) n3 _ _ _ h
  refine r_iload_n C dX8_waitingMany_34 rfl 0 rfl ?_
  exact r_ireturn C dX8_waitingMany_35 ⟨_, rfl, h⟩
def L_X8_frameMany_4 (Q : Int32 → Hp → Prop) (K33 : Int32 → Hp → Prop) : Nat → Int32 → Int32 → Hp → Prop
  | 0, _, _, _ => False
  | n + 1, y1, y2, σ =>
  (((32 : Int32) ≤ y2 → K33 y1 σ) ∧ (¬ (32 : Int32) ≤ y2 → vp_in ((81 + (39 * y2)) + 0) 1809 ∧ L_X8_frameMany_4 Q K33 n (y1 + (gI σ 61 0 (ix ((81 + (39 * y2)) + 0)))) (y2 + 1) σ))
def S_X8_frameMany (σ : Hp) (Q : Int32 → Hp → Prop) : Prop :=
  (∃ n1, L_X8_frameMany_4 Q (fun w3 σ2 => Q w3 σ2) n1 0 0 σ)
set_option maxHeartbeats 2000000 in
set_option maxRecDepth 20000 in
theorem ok_X8_frameMany (l : Launch) (g : Gm) (σ : Hp) (Q : Int32 → Hp → Prop) (h : S_X8_frameMany σ Q) : Ct l g yX8_frameMany cX8_frameMany 3 (some .int) 0 [.ref (gad g 8 0)] σ (QI Q) := by
  refine Ct.of (by decide +kernel) (Nat.le_of_ble_eq_true rfl) ?_
  intro p e R s m args below meth c C
  have C : Cx g p R s m args meth c cX8_frameMany 3 RX8 (some .int) 0 := C
  have l4 : ∀ (K33 : Int32 → Hp → Prop) (hK33 : ∀ (v1 : Int32) (σ : Hp), K33 v1 σ → G g p l e R s m args below meth c (QI Q) 3 33 [(1, .int v1)] [] σ) (n : Nat) (y1 : Int32) (y2 : Int32) (σ : Hp), L_X8_frameMany_4 Q K33 n y1 y2 σ → G g p l e R s m args below meth c (QI Q) 3 4 [(0, .ref (gad g 8 0)), (1, .int y1), (2, .int y2)] [] σ := by
    intro K33 hK33 n
    induction n with
    | zero => intro y1 y2 σ h; exact False.elim h
    | succ n ih =>
      intro y1 y2 σ h
      unfold L_X8_frameMany_4 at h
      refine r_iload_n C dX8_frameMany_4 rfl 2 rfl ?_
      refine r_bipush C dX8_frameMany_5 bi_32 ?_
      refine r_icmp_ge (tgt := 33) C dX8_frameMany_7 rfl (fun q => ?_) (fun q => ?_)
      · have h := h.1 q
        refine r_sub [1] rfl ?_
        exact hK33 _ _ h
      · have h := h.2 q
        refine r_iload_n C dX8_frameMany_10 rfl 1 rfl ?_
        refine r_aload_n C dX8_frameMany_11 rfl 0 rfl ?_
        refine gf_8_42 C dX8_frameMany_12 (cn_8 (by decide)) ?_
        refine r_bipush C dX8_frameMany_15 bi_81 ?_
        refine r_bipush C dX8_frameMany_17 bi_39 ?_
        refine r_iload_n C dX8_frameMany_19 rfl 2 rfl ?_
        refine r_imul C dX8_frameMany_20 ?_
        refine r_iadd C dX8_frameMany_21 ?_
        refine r_iconst C dX8_frameMany_22 ic_0 ?_
        refine r_iadd C dX8_frameMany_23 ?_
        obtain ⟨h0, h⟩ := h
        refine r_iaload C dX8_frameMany_24 ak_61 (cn_61 (by decide)) al_61 h0 ?_
        refine r_iadd C dX8_frameMany_25 ?_
        refine r_istore_n C dX8_frameMany_26 rfl (Nat.le_of_ble_eq_true rfl) rfl ?_
        refine r_iinc (v := y2 + 1) C dX8_frameMany_27 2 rfl rfl (Nat.le_of_ble_eq_true rfl) rfl ?_
        refine r_goto (tgt := 4) C dX8_frameMany_30 rfl ?_
        refine r_sub [2, 1, 0] rfl ?_
        exact ih _ _ _ h
  unfold S_X8_frameMany at h
  show G g p l e R s m args below meth c (QI Q) 3 0 [(0, .ref (gad g 8 0))] [] σ
  refine r_iconst C dX8_frameMany_0 ic_0 ?_
  refine r_istore_n C dX8_frameMany_1 rfl (Nat.le_of_ble_eq_true rfl) rfl ?_
  refine r_iconst C dX8_frameMany_2 ic_0 ?_
  refine r_istore_n C dX8_frameMany_3 rfl (Nat.le_of_ble_eq_true rfl) rfl ?_
  refine r_sub [2, 1, 0] rfl ?_
  obtain ⟨n1, h⟩ := h
  refine l4 _ (fun w3 σ2 h => ?_) n1 _ _ _ h
  refine r_iload_n C dX8_frameMany_33 rfl 0 rfl ?_
  exact r_ireturn C dX8_frameMany_34 ⟨_, rfl, h⟩
def L_X8_quiet_23 (Q : Int32 → Hp → Prop) (K52 : Int32 → Hp → Prop) : Nat → Int32 → Hp → Prop
  | 0, _, _ => False
  | n + 1, y1, σ =>
  (((2000 : Int32) < y1 → K52 y1 σ) ∧ (¬ (2000 : Int32) < y1 → S_X8_waitingMany σ (fun r4 σ3 => S_X8_frameMany σ3 (fun r6 σ5 => (((r4 + r6) ≤ 0 → K52 y1 σ5) ∧ (¬ (r4 + r6) ≤ 0 → S_X8_goesTick σ5 (fun σ7 => L_X8_quiet_23 Q K52 n (y1 + 1) σ7)))))))
def J_X8_quiet_52 (Q : Int32 → Hp → Prop) (y1 : Int32) (σ : Hp) : Prop :=
  S_X8_takesBack σ (fun σ11 => ((y1 ≤ 2000 → Q y1 σ11) ∧ (¬ y1 ≤ 2000 → Q (-2) σ11)))
def S_X8_quiet (σ : Hp) (Q : Int32 → Hp → Prop) : Prop :=
  S_X8_fresh σ (fun σ1 => ((¬ (gI σ1 8 0 14) = 0 → S_X8_laysAside σ1 (fun σ2 => (∃ n8, L_X8_quiet_23 Q (fun w10 σ9 => J_X8_quiet_52 Q w10 σ9) n8 0 σ2))) ∧ ((gI σ1 8 0 14) = 0 → S_X8_no 1 σ1 (fun r13 σ12 => Q r13 σ12))))
set_option maxHeartbeats 2000000 in
set_option maxRecDepth 20000 in
theorem ok_X8_quiet (l : Launch) (g : Gm) (σ : Hp) (Q : Int32 → Hp → Prop) (h : S_X8_quiet σ Q) : Ct l g yX8_quiet cX8_quiet 2 (some .int) 6 [.ref (gad g 8 0)] σ (QI Q) := by
  refine Ct.of (by decide +kernel) (Nat.le_of_ble_eq_true rfl) ?_
  intro p e R s m args below meth c C
  have C : Cx g p R s m args meth c cX8_quiet 2 RX8 (some .int) 6 := C
  have l23 : ∀ (K52 : Int32 → Hp → Prop) (hK52 : ∀ (v1 : Int32) (σ : Hp), K52 v1 σ → G g p l e R s m args below meth c (QI Q) 2 52 [(0, .ref (gad g 8 0)), (1, .int v1)] [] σ) (n : Nat) (y1 : Int32) (σ : Hp), L_X8_quiet_23 Q K52 n y1 σ → G g p l e R s m args below meth c (QI Q) 2 23 [(0, .ref (gad g 8 0)), (1, .int y1)] [] σ := by
    intro K52 hK52 n
    induction n with
    | zero => intro y1 σ h; exact False.elim h
    | succ n ih =>
      intro y1 σ h
      unfold L_X8_quiet_23 at h
      refine r_iload_n C dX8_quiet_23 rfl 1 rfl ?_
      refine r_sipush C dX8_quiet_24 si_2000 ?_
      refine r_icmp_gt (tgt := 52) C dX8_quiet_27 rfl (fun q => ?_) (fun q => ?_)
      · have h := h.1 q
        exact hK52 _ _ h
      · have h := h.2 q
        refine r_aload_n C dX8_quiet_30 rfl 0 rfl ?_
        refine r_callVi [] C dX8_quiet_31 w_8_354 (ok_X8_waitingMany l g _ _ h) (Nat.le_of_ble_eq_true rfl) rfl rfl ak_8 (cn_8 (by decide)) rfl rfl (Nat.le_of_ble_eq_true rfl) (fun r4 σ3 h => ?_)
        refine r_aload_n C dX8_quiet_34 rfl 0 rfl ?_
        refine r_callVi [.int _] C dX8_quiet_35 w_8_357 (ok_X8_frameMany l g _ _ h) (Nat.le_of_ble_eq_true rfl) rfl rfl ak_8 (cn_8 (by decide)) rfl rfl (Nat.le_of_ble_eq_true rfl) (fun r6 σ5 h => ?_)
        refine r_iadd C dX8_quiet_38 ?_
        refine r_if_le (tgt := 52) C dX8_quiet_39 rfl (fun q => ?_) (fun q => ?_)
        · have h := h.1 q
          exact hK52 _ _ h
        · have h := h.2 q
          refine r_aload_n C dX8_quiet_42 rfl 0 rfl ?_
          refine r_callVv [] C dX8_quiet_43 w_8_304 (ok_X8_goesTick l g _ _ h) (Nat.le_of_ble_eq_true rfl) rfl rfl ak_8 (cn_8 (by decide)) rfl rfl (Nat.le_of_ble_eq_true rfl) (fun σ7 h => ?_)
          refine r_iinc (v := y1 + 1) C dX8_quiet_46 1 rfl rfl (Nat.le_of_ble_eq_true rfl) rfl ?_
          refine r_goto (tgt := 23) C dX8_quiet_49 rfl ?_
          refine r_sub [1, 0] rfl ?_
          exact ih _ _ h
  have j52 : ∀ (y1 : Int32) (σ : Hp), J_X8_quiet_52 Q y1 σ → G g p l e R s m args below meth c (QI Q) 2 52 [(0, .ref (gad g 8 0)), (1, .int y1)] [] σ := by
    intro y1 σ h
    unfold J_X8_quiet_52 at h
    refine r_aload_n C dX8_quiet_52 rfl 0 rfl ?_
    refine r_callVv [] C dX8_quiet_53 w_8_351 (ok_X8_takesBack l g _ _ h) (Nat.le_of_ble_eq_true rfl) rfl rfl ak_8 (cn_8 (by decide)) rfl rfl (Nat.le_of_ble_eq_true rfl) (fun σ11 h => ?_)
    refine r_iload_n C dX8_quiet_56 rfl 1 rfl ?_
    refine r_sipush C dX8_quiet_57 si_2000 ?_
    refine r_icmp_le (tgt := 68) C dX8_quiet_60 rfl (fun q => ?_) (fun q => ?_)
    · have h := h.1 q
      refine r_iload_n C dX8_quiet_68 rfl 1 rfl ?_
      exact r_ireturn C dX8_quiet_69 ⟨_, rfl, h⟩
    · have h := h.2 q
      refine r_bipush C dX8_quiet_63 bi_m2 ?_
      refine r_goto (tgt := 69) C dX8_quiet_65 rfl ?_
      exact r_ireturn C dX8_quiet_69 ⟨_, rfl, h⟩
  unfold S_X8_quiet at h
  show G g p l e R s m args below meth c (QI Q) 2 0 [(0, .ref (gad g 8 0))] [] σ
  refine r_aload_n C dX8_quiet_0 rfl 0 rfl ?_
  refine r_callVv [] C dX8_quiet_1 w_8_200 (ok_X8_fresh l g _ _ h) (Nat.le_of_ble_eq_true rfl) rfl rfl ak_8 (cn_8 (by decide)) rfl rfl (Nat.le_of_ble_eq_true rfl) (fun σ1 h => ?_)
  refine r_aload_n C dX8_quiet_4 rfl 0 rfl ?_
  refine gf_8_212 C dX8_quiet_5 (cn_8 (by decide)) ?_
  refine r_if_ne (tgt := 17) C dX8_quiet_8 rfl (fun q => ?_) (fun q => ?_)
  · have h := h.1 q
    refine r_aload_n C dX8_quiet_17 rfl 0 rfl ?_
    refine r_callVv [] C dX8_quiet_18 w_8_348 (ok_X8_laysAside l g _ _ h) (Nat.le_of_ble_eq_true rfl) rfl rfl ak_8 (cn_8 (by decide)) rfl rfl (Nat.le_of_ble_eq_true rfl) (fun σ2 h => ?_)
    refine r_iconst C dX8_quiet_21 ic_0 ?_
    refine r_istore_n C dX8_quiet_22 rfl (Nat.le_of_ble_eq_true rfl) rfl ?_
    refine r_sub [1, 0] rfl ?_
    obtain ⟨n8, h⟩ := h
    refine l23 _ (fun w10 σ9 h => ?_) n8 _ _ h
    exact j52 _ _ h
  · have h := h.2 q
    refine r_aload_n C dX8_quiet_11 rfl 0 rfl ?_
    refine r_iconst C dX8_quiet_12 ic_1 ?_
    refine r_callVi [] C dX8_quiet_13 w_8_203 (ok_X8_no l g _ _ _ h) (Nat.le_of_ble_eq_true rfl) rfl rfl ak_8 (cn_8 (by decide)) rfl rfl (Nat.le_of_ble_eq_true rfl) (fun r13 σ12 h => ?_)
    exact r_ireturn C dX8_quiet_16 ⟨_, rfl, h⟩
def L_X8_keep_20 (Q : Int32 → Hp → Prop) (K45 : Hp → Prop) : Nat → Int32 → Hp → Prop
  | 0, _, _ => False
  | n + 1, y1, σ =>
  (((1809 : Int32) ≤ y1 → K45 σ) ∧ (¬ (1809 : Int32) ≤ y1 → vp_in y1 1809 ∧ vp_in y1 1809 ∧ ∀ σ2, σ2 = sI σ 63 0 (ix y1) (gI σ 61 0 (ix y1)) → L_X8_keep_20 Q K45 n (y1 + 1) σ2))
def S_X8_keep (σ : Hp) (Q : Int32 → Hp → Prop) : Prop :=
  S_X8_fresh σ (fun σ1 => ((¬ (gI σ1 8 0 14) = 0 → (∃ n3, L_X8_keep_20 Q (fun σ4 => ∀ σ5, σ5 = sI σ4 8 0 27 1 → Q 1 σ5) n3 0 σ1)) ∧ ((gI σ1 8 0 14) = 0 → ∀ σ6, σ6 = sI σ1 8 0 1 1 → Q 0 σ6)))
set_option maxHeartbeats 2000000 in
set_option maxRecDepth 20000 in
theorem ok_X8_keep (l : Launch) (g : Gm) (σ : Hp) (Q : Int32 → Hp → Prop) (h : S_X8_keep σ Q) : Ct l g yX8_keep cX8_keep 2 (some .boolean) 1 [.ref (gad g 8 0)] σ (QI Q) := by
  refine Ct.of (by decide +kernel) (Nat.le_of_ble_eq_true rfl) ?_
  intro p e R s m args below meth c C
  have C : Cx g p R s m args meth c cX8_keep 2 RX8 (some .boolean) 1 := C
  have l20 : ∀ (K45 : Hp → Prop) (hK45 : ∀ (σ : Hp), K45 σ → G g p l e R s m args below meth c (QI Q) 2 45 [(0, .ref (gad g 8 0))] [] σ) (n : Nat) (y1 : Int32) (σ : Hp), L_X8_keep_20 Q K45 n y1 σ → G g p l e R s m args below meth c (QI Q) 2 20 [(0, .ref (gad g 8 0)), (1, .int y1)] [] σ := by
    intro K45 hK45 n
    induction n with
    | zero => intro y1 σ h; exact False.elim h
    | succ n ih =>
      intro y1 σ h
      unfold L_X8_keep_20 at h
      refine r_iload_n C dX8_keep_20 rfl 1 rfl ?_
      refine r_sipush C dX8_keep_21 si_1809 ?_
      refine r_icmp_ge (tgt := 45) C dX8_keep_24 rfl (fun q => ?_) (fun q => ?_)
      · have h := h.1 q
        refine r_sub [0] rfl ?_
        exact hK45 _ h
      · have h := h.2 q
        refine r_aload_n C dX8_keep_27 rfl 0 rfl ?_
        refine gf_8_48 C dX8_keep_28 (cn_8 (by decide)) ?_
        refine r_iload_n C dX8_keep_31 rfl 1 rfl ?_
        refine r_aload_n C dX8_keep_32 rfl 0 rfl ?_
        refine gf_8_42 C dX8_keep_33 (cn_8 (by decide)) ?_
        refine r_iload_n C dX8_keep_36 rfl 1 rfl ?_
        obtain ⟨h0, h⟩ := h
        refine r_iaload C dX8_keep_37 ak_61 (cn_61 (by decide)) al_61 h0 ?_
        obtain ⟨h0, h⟩ := h
        refine r_iastore C dX8_keep_38 ak_63 (cn_63 (by decide)) al_63 h0 ?_
        have h := h _ rfl
        refine r_iinc (v := y1 + 1) C dX8_keep_39 1 rfl rfl (Nat.le_of_ble_eq_true rfl) rfl ?_
        refine r_goto (tgt := 20) C dX8_keep_42 rfl ?_
        refine r_sub [1, 0] rfl ?_
        exact ih _ _ h
  unfold S_X8_keep at h
  show G g p l e R s m args below meth c (QI Q) 2 0 [(0, .ref (gad g 8 0))] [] σ
  refine r_aload_n C dX8_keep_0 rfl 0 rfl ?_
  refine r_callVv [] C dX8_keep_1 w_8_200 (ok_X8_fresh l g _ _ h) (Nat.le_of_ble_eq_true rfl) rfl rfl ak_8 (cn_8 (by decide)) rfl rfl (Nat.le_of_ble_eq_true rfl) (fun σ1 h => ?_)
  refine r_aload_n C dX8_keep_4 rfl 0 rfl ?_
  refine gf_8_212 C dX8_keep_5 (cn_8 (by decide)) ?_
  refine r_if_ne (tgt := 18) C dX8_keep_8 rfl (fun q => ?_) (fun q => ?_)
  · have h := h.1 q
    refine r_iconst C dX8_keep_18 ic_0 ?_
    refine r_istore_n C dX8_keep_19 rfl (Nat.le_of_ble_eq_true rfl) rfl ?_
    refine r_sub [1, 0] rfl ?_
    obtain ⟨n3, h⟩ := h
    refine l20 _ (fun σ4 h => ?_) n3 _ _ h
    refine r_aload_n C dX8_keep_45 rfl 0 rfl ?_
    refine r_iconst C dX8_keep_46 ic_1 ?_
    refine pf_8_215 C dX8_keep_47 zb1 (cn_8 (by decide)) ?_
    have h := h _ rfl
    refine r_iconst C dX8_keep_50 ic_1 ?_
    exact r_zreturn C dX8_keep_51 zb1.1 ⟨_, rfl, h⟩
  · have h := h.2 q
    refine r_aload_n C dX8_keep_11 rfl 0 rfl ?_
    refine r_iconst C dX8_keep_12 ic_1 ?_
    refine pf_8_54 C dX8_keep_13 (cn_8 (by decide)) ?_
    have h := h _ rfl
    refine r_iconst C dX8_keep_16 ic_0 ?_
    exact r_zreturn C dX8_keep_17 zb0.1 ⟨_, rfl, h⟩
