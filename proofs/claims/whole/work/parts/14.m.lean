def S_X8_readLine (σ : Hp) (Q : Int32 → Hp → Prop) : Prop :=
  S_X8_isWord 0 σ (fun r2 σ1 => ((r2 = 0 → S_X8_isWord 6 σ1 (fun r4 σ3 => ((r4 = 0 → S_X8_isWord 7 σ3 (fun r6 σ5 => ((r6 = 0 → S_X8_errs 1 σ5 (fun r8 σ7 => Q r8 σ7)) ∧ (¬ r6 = 0 → S_X8_readLink σ5 (fun r10 σ9 => Q r10 σ9))))) ∧ (¬ r4 = 0 → S_X8_readEnd σ3 (fun r12 σ11 => Q r12 σ11))))) ∧ (¬ r2 = 0 → S_X8_readBus σ1 (fun r14 σ13 => Q r14 σ13))))
set_option maxHeartbeats 2000000 in
set_option maxRecDepth 20000 in
theorem ok_X8_readLine (l : Launch) (g : Gm) (σ : Hp) (Q : Int32 → Hp → Prop) (h : S_X8_readLine σ Q) : Ct l g yX8_readLine cX8_readLine 1 (some .int) 9 [.ref (gad g 8 0)] σ (QI Q) := by
  refine Ct.of (by decide +kernel) (Nat.le_of_ble_eq_true rfl) ?_
  intro p e R s m args below meth c C
  have C : Cx g p R s m args meth c cX8_readLine 1 RX8 (some .int) 9 := C
  unfold S_X8_readLine at h
  show G g p l e R s m args below meth c (QI Q) 1 0 [(0, .ref (gad g 8 0))] [] σ
  refine r_aload_n C dX8_readLine_0 rfl 0 rfl ?_
  refine r_ldcS (j := 0) C dX8_readLine_1 (by decide) rfl ?_
  refine r_callVi [] C dX8_readLine_3 w_8_120 (ok_X8_isWord l g 0 (by decide) _ _ h) (Nat.le_of_ble_eq_true rfl) rfl rfl ak_8 (cn_8 (by decide)) rfl rfl (Nat.le_of_ble_eq_true rfl) (fun r2 σ1 h => ?_)
  refine r_if_eq (tgt := 14) C dX8_readLine_6 rfl (fun q => ?_) (fun q => ?_)
  · have h := h.1 q
    refine r_aload_n C dX8_readLine_14 rfl 0 rfl ?_
    refine r_ldcS (j := 6) C dX8_readLine_15 (by decide) rfl ?_
    refine r_callVi [] C dX8_readLine_17 w_8_120 (ok_X8_isWord l g 6 (by decide) _ _ h) (Nat.le_of_ble_eq_true rfl) rfl rfl ak_8 (cn_8 (by decide)) rfl rfl (Nat.le_of_ble_eq_true rfl) (fun r4 σ3 h => ?_)
    refine r_if_eq (tgt := 28) C dX8_readLine_20 rfl (fun q => ?_) (fun q => ?_)
    · have h := h.1 q
      refine r_aload_n C dX8_readLine_28 rfl 0 rfl ?_
      refine r_ldcS (j := 7) C dX8_readLine_29 (by decide) rfl ?_
      refine r_callVi [] C dX8_readLine_31 w_8_120 (ok_X8_isWord l g 7 (by decide) _ _ h) (Nat.le_of_ble_eq_true rfl) rfl rfl ak_8 (cn_8 (by decide)) rfl rfl (Nat.le_of_ble_eq_true rfl) (fun r6 σ5 h => ?_)
      refine r_if_eq (tgt := 44) C dX8_readLine_34 rfl (fun q => ?_) (fun q => ?_)
      · have h := h.1 q
        refine r_aload_n C dX8_readLine_44 rfl 0 rfl ?_
        refine r_iconst C dX8_readLine_45 ic_1 ?_
        refine r_callVi [] C dX8_readLine_46 w_8_114 (ok_X8_errs l g _ _ _ h) (Nat.le_of_ble_eq_true rfl) rfl rfl ak_8 (cn_8 (by decide)) rfl rfl (Nat.le_of_ble_eq_true rfl) (fun r8 σ7 h => ?_)
        exact r_ireturn C dX8_readLine_49 ⟨_, rfl, h⟩
      · have h := h.2 q
        refine r_aload_n C dX8_readLine_37 rfl 0 rfl ?_
        refine r_callVi [] C dX8_readLine_38 w_8_194 (ok_X8_readLink l g _ _ h) (Nat.le_of_ble_eq_true rfl) rfl rfl ak_8 (cn_8 (by decide)) rfl rfl (Nat.le_of_ble_eq_true rfl) (fun r10 σ9 h => ?_)
        refine r_goto (tgt := 49) C dX8_readLine_41 rfl ?_
        exact r_ireturn C dX8_readLine_49 ⟨_, rfl, h⟩
    · have h := h.2 q
      refine r_aload_n C dX8_readLine_23 rfl 0 rfl ?_
      refine r_callVi [] C dX8_readLine_24 w_8_191 (ok_X8_readEnd l g _ _ h) (Nat.le_of_ble_eq_true rfl) rfl rfl ak_8 (cn_8 (by decide)) rfl rfl (Nat.le_of_ble_eq_true rfl) (fun r12 σ11 h => ?_)
      exact r_ireturn C dX8_readLine_27 ⟨_, rfl, h⟩
  · have h := h.2 q
    refine r_aload_n C dX8_readLine_9 rfl 0 rfl ?_
    refine r_callVi [] C dX8_readLine_10 w_8_188 (ok_X8_readBus l g _ _ h) (Nat.le_of_ble_eq_true rfl) rfl rfl ak_8 (cn_8 (by decide)) rfl rfl (Nat.le_of_ble_eq_true rfl) (fun r14 σ13 h => ?_)
    exact r_ireturn C dX8_readLine_13 ⟨_, rfl, h⟩
def L_X8_readAll_44 (Q : Int32 → Hp → Prop) (K67 : Hp → Prop) (K65 : Hp → Prop) : Nat → Hp → Prop
  | 0, _ => False
  | n + 1, σ =>
  ((¬ (gI σ 8 0 18) = 59 → K67 σ) ∧ ((gI σ 8 0 18) = 59 → S_X8_goesOn σ (fun σ9 => S_X8_readLine σ9 (fun r11 σ10 => ((¬ r11 = (-1) → L_X8_readAll_44 Q K67 K65 n σ10) ∧ (r11 = (-1) → K65 σ10))))))
def S_X8_readAll (x1 : Int32) (σ : Hp) (Q : Int32 → Hp → Prop) : Prop :=
  ∀ σ1, σ1 = sI σ 8 0 15 x1 → ∀ σ2, σ2 = sI σ1 8 0 17 0 → ∀ σ3, σ3 = sI σ2 8 0 23 0 → vp_in 5 7 ∧ ∀ σ4, σ4 = sI σ3 54 0 (ix 5) 0 → vp_in 6 7 ∧ ∀ σ5, σ5 = sI σ4 54 0 (ix 6) 0 → S_X8_goesOn σ5 (fun σ6 => S_X8_readLine σ6 (fun r8 σ7 => ((¬ r8 = (-1) → (∃ n12, L_X8_readAll_44 Q (fun σ13 => (((gI σ13 8 0 18) = 0 → vp_in 6 7 ∧ ((¬ (gI σ13 54 0 (ix 6)) = 0 → vp_in 6 7 ∧ Q (gI σ13 54 0 (ix 6)) σ13) ∧ ((gI σ13 54 0 (ix 6)) = 0 → S_X8_errs 6 σ13 (fun r15 σ14 => Q r15 σ14)))) ∧ (¬ (gI σ13 8 0 18) = 0 → S_X8_errs 1 σ13 (fun r17 σ16 => Q r17 σ16)))) (fun σ18 => Q (-1) σ18) n12 σ7)) ∧ (r8 = (-1) → Q (-1) σ7))))
set_option maxHeartbeats 2000000 in
set_option maxRecDepth 20000 in
theorem ok_X8_readAll (l : Launch) (g : Gm) (x1 : Int32) (σ : Hp) (Q : Int32 → Hp → Prop) (h : S_X8_readAll x1 σ Q) : Ct l g yX8_readAll cX8_readAll 2 (some .int) 10 [.ref (gad g 8 0), .int x1] σ (QI Q) := by
  refine Ct.of (by decide +kernel) (Nat.le_of_ble_eq_true rfl) ?_
  intro p e R s m args below meth c C
  have C : Cx g p R s m args meth c cX8_readAll 2 RX8 (some .int) 10 := C
  have l44 : ∀ (K67 : Hp → Prop) (K65 : Hp → Prop) (hK67 : ∀ (σ : Hp), K67 σ → G g p l e R s m args below meth c (QI Q) 2 67 [(0, .ref (gad g 8 0))] [] σ) (hK65 : ∀ (σ : Hp), K65 σ → G g p l e R s m args below meth c (QI Q) 2 65 [] [] σ) (n : Nat) (σ : Hp), L_X8_readAll_44 Q K67 K65 n σ → G g p l e R s m args below meth c (QI Q) 2 44 [(0, .ref (gad g 8 0))] [] σ := by
    intro K67 K65 hK67 hK65 n
    induction n with
    | zero => intro σ h; exact False.elim h
    | succ n ih =>
      intro σ h
      unfold L_X8_readAll_44 at h
      refine r_aload_n C dX8_readAll_44 rfl 0 rfl ?_
      refine gf_8_77 C dX8_readAll_45 (cn_8 (by decide)) ?_
      refine r_bipush C dX8_readAll_48 bi_59 ?_
      refine r_icmp_ne (tgt := 67) C dX8_readAll_50 rfl (fun q => ?_) (fun q => ?_)
      · have h := h.1 q
        exact hK67 _ h
      · have h := h.2 q
        refine r_aload_n C dX8_readAll_53 rfl 0 rfl ?_
        refine r_callVv [] C dX8_readAll_54 w_8_117 (ok_X8_goesOn l g _ _ h) (Nat.le_of_ble_eq_true rfl) rfl rfl ak_8 (cn_8 (by decide)) rfl rfl (Nat.le_of_ble_eq_true rfl) (fun σ9 h => ?_)
        refine r_aload_n C dX8_readAll_57 rfl 0 rfl ?_
        refine r_callVi [] C dX8_readAll_58 w_8_197 (ok_X8_readLine l g _ _ h) (Nat.le_of_ble_eq_true rfl) rfl rfl ak_8 (cn_8 (by decide)) rfl rfl (Nat.le_of_ble_eq_true rfl) (fun r11 σ10 h => ?_)
        refine r_iconst C dX8_readAll_61 ic_m1 ?_
        refine r_icmp_ne (tgt := 44) C dX8_readAll_62 rfl (fun q => ?_) (fun q => ?_)
        · have h := h.1 q
          exact ih _ h
        · have h := h.2 q
          refine r_sub [] rfl ?_
          exact hK65 _ h
  unfold S_X8_readAll at h
  show G g p l e R s m args below meth c (QI Q) 2 0 [(0, .ref (gad g 8 0)), (1, .int x1)] [] σ
  refine r_aload_n C dX8_readAll_0 rfl 0 rfl ?_
  refine r_iload_n C dX8_readAll_1 rfl 1 rfl ?_
  refine pf_8_64 C dX8_readAll_2 (cn_8 (by decide)) ?_
  have h := h _ rfl
  refine r_aload_n C dX8_readAll_5 rfl 0 rfl ?_
  refine r_iconst C dX8_readAll_6 ic_0 ?_
  refine pf_8_67 C dX8_readAll_7 (cn_8 (by decide)) ?_
  have h := h _ rfl
  refine r_aload_n C dX8_readAll_10 rfl 0 rfl ?_
  refine r_iconst C dX8_readAll_11 ic_0 ?_
  refine pf_8_141 C dX8_readAll_12 zb0 (cn_8 (by decide)) ?_
  have h := h _ rfl
  refine r_aload_n C dX8_readAll_15 rfl 0 rfl ?_
  refine gf_8_20 C dX8_readAll_16 (cn_8 (by decide)) ?_
  refine r_iconst C dX8_readAll_19 ic_5 ?_
  refine r_iconst C dX8_readAll_20 ic_0 ?_
  obtain ⟨h0, h⟩ := h
  refine r_iastore C dX8_readAll_21 ak_54 (cn_54 (by decide)) al_54 h0 ?_
  have h := h _ rfl
  refine r_aload_n C dX8_readAll_22 rfl 0 rfl ?_
  refine gf_8_20 C dX8_readAll_23 (cn_8 (by decide)) ?_
  refine r_bipush C dX8_readAll_26 bi_6 ?_
  refine r_iconst C dX8_readAll_28 ic_0 ?_
  obtain ⟨h0, h⟩ := h
  refine r_iastore C dX8_readAll_29 ak_54 (cn_54 (by decide)) al_54 h0 ?_
  have h := h _ rfl
  refine r_aload_n C dX8_readAll_30 rfl 0 rfl ?_
  refine r_callVv [] C dX8_readAll_31 w_8_117 (ok_X8_goesOn l g _ _ h) (Nat.le_of_ble_eq_true rfl) rfl rfl ak_8 (cn_8 (by decide)) rfl rfl (Nat.le_of_ble_eq_true rfl) (fun σ6 h => ?_)
  refine r_aload_n C dX8_readAll_34 rfl 0 rfl ?_
  refine r_callVi [] C dX8_readAll_35 w_8_197 (ok_X8_readLine l g _ _ h) (Nat.le_of_ble_eq_true rfl) rfl rfl ak_8 (cn_8 (by decide)) rfl rfl (Nat.le_of_ble_eq_true rfl) (fun r8 σ7 h => ?_)
  refine r_iconst C dX8_readAll_38 ic_m1 ?_
  refine r_icmp_ne (tgt := 44) C dX8_readAll_39 rfl (fun q => ?_) (fun q => ?_)
  · have h := h.1 q
    refine r_sub [0] rfl ?_
    obtain ⟨n12, h⟩ := h
    refine l44 _ _ (fun σ13 h => ?_) (fun σ18 h => ?_) n12 _ h
    · refine r_aload_n C dX8_readAll_67 rfl 0 rfl ?_
      refine gf_8_77 C dX8_readAll_68 (cn_8 (by decide)) ?_
      refine r_if_eq (tgt := 80) C dX8_readAll_71 rfl (fun q => ?_) (fun q => ?_)
      · have h := h.1 q
        refine r_aload_n C dX8_readAll_80 rfl 0 rfl ?_
        refine gf_8_20 C dX8_readAll_81 (cn_8 (by decide)) ?_
        refine r_bipush C dX8_readAll_84 bi_6 ?_
        obtain ⟨h0, h⟩ := h
        refine r_iaload C dX8_readAll_86 ak_54 (cn_54 (by decide)) al_54 h0 ?_
        refine r_if_ne (tgt := 99) C dX8_readAll_87 rfl (fun q => ?_) (fun q => ?_)
        · have h := h.1 q
          refine r_aload_n C dX8_readAll_99 rfl 0 rfl ?_
          refine gf_8_20 C dX8_readAll_100 (cn_8 (by decide)) ?_
          refine r_bipush C dX8_readAll_103 bi_6 ?_
          obtain ⟨h0, h⟩ := h
          refine r_iaload C dX8_readAll_105 ak_54 (cn_54 (by decide)) al_54 h0 ?_
          exact r_ireturn C dX8_readAll_106 ⟨_, rfl, h⟩
        · have h := h.2 q
          refine r_aload_n C dX8_readAll_90 rfl 0 rfl ?_
          refine r_bipush C dX8_readAll_91 bi_6 ?_
          refine r_callVi [] C dX8_readAll_93 w_8_114 (ok_X8_errs l g _ _ _ h) (Nat.le_of_ble_eq_true rfl) rfl rfl ak_8 (cn_8 (by decide)) rfl rfl (Nat.le_of_ble_eq_true rfl) (fun r15 σ14 h => ?_)
          refine r_goto (tgt := 106) C dX8_readAll_96 rfl ?_
          exact r_ireturn C dX8_readAll_106 ⟨_, rfl, h⟩
      · have h := h.2 q
        refine r_aload_n C dX8_readAll_74 rfl 0 rfl ?_
        refine r_iconst C dX8_readAll_75 ic_1 ?_
        refine r_callVi [] C dX8_readAll_76 w_8_114 (ok_X8_errs l g _ _ _ h) (Nat.le_of_ble_eq_true rfl) rfl rfl ak_8 (cn_8 (by decide)) rfl rfl (Nat.le_of_ble_eq_true rfl) (fun r17 σ16 h => ?_)
        exact r_ireturn C dX8_readAll_79 ⟨_, rfl, h⟩
    · refine r_iconst C dX8_readAll_65 ic_m1 ?_
      exact r_ireturn C dX8_readAll_66 ⟨_, rfl, h⟩
  · have h := h.2 q
    refine r_iconst C dX8_readAll_42 ic_m1 ?_
    exact r_ireturn C dX8_readAll_43 ⟨_, rfl, h⟩
def S_X8_linkAt (x0 : Int32) (x1 : Int32) (σ : Hp) (Q : Int32 → Hp → Prop) : Prop :=
  Q ((1 + (5 * x0)) + x1) σ
set_option maxHeartbeats 2000000 in
set_option maxRecDepth 20000 in
theorem ok_X8_linkAt (l : Launch) (g : Gm) (x0 : Int32) (x1 : Int32) (σ : Hp) (Q : Int32 → Hp → Prop) (h : S_X8_linkAt x0 x1 σ Q) : Ct l g yX8_linkAt cX8_linkAt 2 (some .int) 0 [.int x0, .int x1] σ (QI Q) := by
  refine Ct.of (by decide +kernel) (Nat.le_of_ble_eq_true rfl) ?_
  intro p e R s m args below meth c C
  have C : Cx g p R s m args meth c cX8_linkAt 2 RX8 (some .int) 0 := C
  unfold S_X8_linkAt at h
  show G g p l e R s m args below meth c (QI Q) 2 0 [(0, .int x0), (1, .int x1)] [] σ
  refine r_iconst C dX8_linkAt_0 ic_1 ?_
  refine r_iconst C dX8_linkAt_1 ic_5 ?_
  refine r_iload_n C dX8_linkAt_2 rfl 0 rfl ?_
  refine r_imul C dX8_linkAt_3 ?_
  refine r_iadd C dX8_linkAt_4 ?_
  refine r_iload_n C dX8_linkAt_5 rfl 1 rfl ?_
  refine r_iadd C dX8_linkAt_6 ?_
  exact r_ireturn C dX8_linkAt_7 ⟨_, rfl, h⟩
def S_X8_mostCredit (x1 : Int32) (σ : Hp) (Q : Int32 → Hp → Prop) : Prop :=
  S_X8_linkOf x1 2 σ (fun r2 σ1 => S_X8_linkOf x1 1 σ1 (fun r4 σ3 => vp_in 2 7 ∧ Q (r2 * (r4 + (gI σ3 53 0 (ix 2)))) σ3))
set_option maxHeartbeats 2000000 in
set_option maxRecDepth 20000 in
theorem ok_X8_mostCredit (l : Launch) (g : Gm) (x1 : Int32) (σ : Hp) (Q : Int32 → Hp → Prop) (h : S_X8_mostCredit x1 σ Q) : Ct l g yX8_mostCredit cX8_mostCredit 2 (some .int) 1 [.ref (gad g 8 0), .int x1] σ (QI Q) := by
  refine Ct.of (by decide +kernel) (Nat.le_of_ble_eq_true rfl) ?_
  intro p e R s m args below meth c C
  have C : Cx g p R s m args meth c cX8_mostCredit 2 RX8 (some .int) 1 := C
  unfold S_X8_mostCredit at h
  show G g p l e R s m args below meth c (QI Q) 2 0 [(0, .ref (gad g 8 0)), (1, .int x1)] [] σ
  refine r_aload_n C dX8_mostCredit_0 rfl 0 rfl ?_
  refine r_iload_n C dX8_mostCredit_1 rfl 1 rfl ?_
  refine r_iconst C dX8_mostCredit_2 ic_2 ?_
  refine r_callVi [] C dX8_mostCredit_3 w_8_221 (ok_X8_linkOf l g _ _ _ _ h) (Nat.le_of_ble_eq_true rfl) rfl rfl ak_8 (cn_8 (by decide)) rfl rfl (Nat.le_of_ble_eq_true rfl) (fun r2 σ1 h => ?_)
  refine r_aload_n C dX8_mostCredit_6 rfl 0 rfl ?_
  refine r_iload_n C dX8_mostCredit_7 rfl 1 rfl ?_
  refine r_iconst C dX8_mostCredit_8 ic_1 ?_
  refine r_callVi [.int _] C dX8_mostCredit_9 w_8_221 (ok_X8_linkOf l g _ _ _ _ h) (Nat.le_of_ble_eq_true rfl) rfl rfl ak_8 (cn_8 (by decide)) rfl rfl (Nat.le_of_ble_eq_true rfl) (fun r4 σ3 h => ?_)
  refine r_aload_n C dX8_mostCredit_12 rfl 0 rfl ?_
  refine gf_8_17 C dX8_mostCredit_13 (cn_8 (by decide)) ?_
  refine r_iconst C dX8_mostCredit_16 ic_2 ?_
  obtain ⟨h0, h⟩ := h
  refine r_iaload C dX8_mostCredit_17 ak_53 (cn_53 (by decide)) al_53 h0 ?_
  refine r_iadd C dX8_mostCredit_18 ?_
  refine r_imul C dX8_mostCredit_19 ?_
  exact r_ireturn C dX8_mostCredit_20 ⟨_, rfl, h⟩
def S_X8_hearAt (x0 : Int32) (x1 : Int32) (σ : Hp) (Q : Int32 → Hp → Prop) : Prop :=
  Q (1329 + (20 * ((3 * x0) + x1))) σ
set_option maxHeartbeats 2000000 in
set_option maxRecDepth 20000 in
theorem ok_X8_hearAt (l : Launch) (g : Gm) (x0 : Int32) (x1 : Int32) (σ : Hp) (Q : Int32 → Hp → Prop) (h : S_X8_hearAt x0 x1 σ Q) : Ct l g yX8_hearAt cX8_hearAt 2 (some .int) 0 [.int x0, .int x1] σ (QI Q) := by
  refine Ct.of (by decide +kernel) (Nat.le_of_ble_eq_true rfl) ?_
  intro p e R s m args below meth c C
  have C : Cx g p R s m args meth c cX8_hearAt 2 RX8 (some .int) 0 := C
  unfold S_X8_hearAt at h
  show G g p l e R s m args below meth c (QI Q) 2 0 [(0, .int x0), (1, .int x1)] [] σ
  refine r_sipush C dX8_hearAt_0 si_1329 ?_
  refine r_bipush C dX8_hearAt_3 bi_20 ?_
  refine r_iconst C dX8_hearAt_5 ic_3 ?_
  refine r_iload_n C dX8_hearAt_6 rfl 0 rfl ?_
  refine r_imul C dX8_hearAt_7 ?_
  refine r_iload_n C dX8_hearAt_8 rfl 1 rfl ?_
  refine r_iadd C dX8_hearAt_9 ?_
  refine r_imul C dX8_hearAt_10 ?_
  refine r_iadd C dX8_hearAt_11 ?_
  exact r_ireturn C dX8_hearAt_12 ⟨_, rfl, h⟩
def L_X8_begins_2 (Q : Hp → Prop) (K22 : Hp → Prop) : Nat → Int32 → Hp → Prop
  | 0, _, _ => False
  | n + 1, y1, σ =>
  (((1809 : Int32) ≤ y1 → K22 σ) ∧ (¬ (1809 : Int32) ≤ y1 → vp_in y1 1809 ∧ ∀ σ1, σ1 = sI σ 61 0 (ix y1) 0 → L_X8_begins_2 Q K22 n (y1 + 1) σ1))
def L_X8_begins_84 (Q : Hp → Prop) (K110 : Hp → Prop) (y1 : Int32) (y2 : Int32) : Nat → Int32 → Hp → Prop
  | 0, _, _ => False
  | n + 1, y3, σ =>
  (((10 : Int32) ≤ y3 → K110 σ) ∧ (¬ (10 : Int32) ≤ y3 → S_X8_hearAt y1 y2 σ (fun r14 σ13 => vp_in (r14 + y3) 1809 ∧ ∀ σ15, σ15 = sI σ13 61 0 (ix (r14 + y3)) (-2) → L_X8_begins_84 Q K110 y1 y2 n (y3 + 1) σ15)))
def L_X8_begins_77 (Q : Hp → Prop) (K116 : Hp → Prop) (y1 : Int32) : Nat → Int32 → Hp → Prop
  | 0, _, _ => False
  | n + 1, y2, σ =>
  (((3 : Int32) ≤ y2 → K116 σ) ∧ (¬ (3 : Int32) ≤ y2 → (∃ n16, L_X8_begins_84 Q (fun σ17 => L_X8_begins_77 Q K116 y1 n (y2 + 1) σ17) y1 y2 n16 3 σ)))
def L_X8_begins_24 (Q : Hp → Prop) (K122 : Hp → Prop) : Nat → Int32 → Hp → Prop
  | 0, _, _ => False
  | n + 1, y1, σ =>
  vp_in 6 7 ∧ (((gI σ 53 0 (ix 6)) ≤ y1 → K122 σ) ∧ (¬ (gI σ 53 0 (ix 6)) ≤ y1 → S_X8_linkAt y1 4 σ (fun r5 σ4 => vp_in r5 1809 ∧ ∀ σ6, σ6 = sI σ4 61 0 (ix r5) (-2) → S_X8_mostCredit y1 σ6 (fun r8 σ7 => vp_in (41 + y1) 1809 ∧ ∀ σ9, σ9 = sI σ7 61 0 (ix (41 + y1)) r8 → S_X8_mostCredit y1 σ9 (fun r11 σ10 => vp_in (49 + y1) 1809 ∧ ∀ σ12, σ12 = sI σ10 61 0 (ix (49 + y1)) r11 → (∃ n18, L_X8_begins_77 Q (fun σ19 => L_X8_begins_24 Q K122 n (y1 + 1) σ19) y1 n18 0 σ12))))))
def L_X8_begins_124 (Q : Hp → Prop) (K152 : Hp → Prop) : Nat → Int32 → Hp → Prop
  | 0, _, _ => False
  | n + 1, y1, σ =>
  (((32 : Int32) ≤ y1 → K152 σ) ∧ (¬ (32 : Int32) ≤ y1 → vp_in ((81 + (39 * y1)) + 1) 1809 ∧ ∀ σ22, σ22 = sI σ 61 0 (ix ((81 + (39 * y1)) + 1)) (-2) → L_X8_begins_124 Q K152 n (y1 + 1) σ22))
def S_X8_begins (σ : Hp) (Q : Hp → Prop) : Prop :=
  (∃ n2, L_X8_begins_2 Q (fun σ3 => (∃ n20, L_X8_begins_24 Q (fun σ21 => (∃ n23, L_X8_begins_124 Q (fun σ24 => Q σ24) n23 0 σ21)) n20 0 σ3)) n2 0 σ)
set_option maxHeartbeats 2000000 in
set_option maxRecDepth 20000 in
theorem ok_X8_begins (l : Launch) (g : Gm) (σ : Hp) (Q : Hp → Prop) (h : S_X8_begins σ Q) : Ct l g yX8_begins cX8_begins 4 none 2 [.ref (gad g 8 0)] σ (QV Q) := by
  refine Ct.of (by decide +kernel) (Nat.le_of_ble_eq_true rfl) ?_
  intro p e R s m args below meth c C
  have C : Cx g p R s m args meth c cX8_begins 4 RX8 none 2 := C
  have l2 : ∀ (K22 : Hp → Prop) (hK22 : ∀ (σ : Hp), K22 σ → G g p l e R s m args below meth c (QV Q) 4 22 [(0, .ref (gad g 8 0))] [] σ) (n : Nat) (y1 : Int32) (σ : Hp), L_X8_begins_2 Q K22 n y1 σ → G g p l e R s m args below meth c (QV Q) 4 2 [(0, .ref (gad g 8 0)), (1, .int y1)] [] σ := by
    intro K22 hK22 n
    induction n with
    | zero => intro y1 σ h; exact False.elim h
    | succ n ih =>
      intro y1 σ h
      unfold L_X8_begins_2 at h
      refine r_iload_n C dX8_begins_2 rfl 1 rfl ?_
      refine r_sipush C dX8_begins_3 si_1809 ?_
      refine r_icmp_ge (tgt := 22) C dX8_begins_6 rfl (fun q => ?_) (fun q => ?_)
      · have h := h.1 q
        refine r_sub [0] rfl ?_
        exact hK22 _ h
      · have h := h.2 q
        refine r_aload_n C dX8_begins_9 rfl 0 rfl ?_
        refine gf_8_42 C dX8_begins_10 (cn_8 (by decide)) ?_
        refine r_iload_n C dX8_begins_13 rfl 1 rfl ?_
        refine r_iconst C dX8_begins_14 ic_0 ?_
        obtain ⟨h0, h⟩ := h
        refine r_iastore C dX8_begins_15 ak_61 (cn_61 (by decide)) al_61 h0 ?_
        have h := h _ rfl
        refine r_iinc (v := y1 + 1) C dX8_begins_16 1 rfl rfl (Nat.le_of_ble_eq_true rfl) rfl ?_
        refine r_goto (tgt := 2) C dX8_begins_19 rfl ?_
        refine r_sub [1, 0] rfl ?_
        exact ih _ _ h
  have l84 : ∀ (K110 : Hp → Prop) (y1 : Int32) (y2 : Int32) (hK110 : ∀ (σ : Hp), K110 σ → G g p l e R s m args below meth c (QV Q) 4 110 [(0, .ref (gad g 8 0)), (1, .int y1), (2, .int y2)] [] σ) (n : Nat) (y3 : Int32) (σ : Hp), L_X8_begins_84 Q K110 y1 y2 n y3 σ → G g p l e R s m args below meth c (QV Q) 4 84 [(0, .ref (gad g 8 0)), (1, .int y1), (2, .int y2), (3, .int y3)] [] σ := by
    intro K110 y1 y2 hK110 n
    induction n with
    | zero => intro y3 σ h; exact False.elim h
    | succ n ih =>
      intro y3 σ h
      unfold L_X8_begins_84 at h
      refine r_iload_n C dX8_begins_84 rfl 3 rfl ?_
      refine r_bipush C dX8_begins_85 bi_10 ?_
      refine r_icmp_ge (tgt := 110) C dX8_begins_87 rfl (fun q => ?_) (fun q => ?_)
      · have h := h.1 q
        refine r_sub [0, 1, 2] rfl ?_
        exact hK110 _ h
      · have h := h.2 q
        refine r_aload_n C dX8_begins_90 rfl 0 rfl ?_
        refine gf_8_42 C dX8_begins_91 (cn_8 (by decide)) ?_
        refine r_iload_n C dX8_begins_94 rfl 1 rfl ?_
        refine r_iload_n C dX8_begins_95 rfl 2 rfl ?_
        refine r_callSi [.ref (gad g 61 0)] C dX8_begins_96 w_8_252 (ok_X8_hearAt l g _ _ _ _ h) (Nat.le_of_ble_eq_true rfl) rfl rfl (Nat.le_of_ble_eq_true rfl) (fun r14 σ13 h => ?_)
        refine r_iload_n C dX8_begins_99 rfl 3 rfl ?_
        refine r_iadd C dX8_begins_100 ?_
        refine r_bipush C dX8_begins_101 bi_m2 ?_
        obtain ⟨h0, h⟩ := h
        refine r_iastore C dX8_begins_103 ak_61 (cn_61 (by decide)) al_61 h0 ?_
        have h := h _ rfl
        refine r_iinc (v := y3 + 1) C dX8_begins_104 3 rfl rfl (Nat.le_of_ble_eq_true rfl) rfl ?_
        refine r_goto (tgt := 84) C dX8_begins_107 rfl ?_
        refine r_sub [1, 2, 3, 0] rfl ?_
        exact ih _ _ h
  have l77 : ∀ (K116 : Hp → Prop) (y1 : Int32) (hK116 : ∀ (σ : Hp), K116 σ → G g p l e R s m args below meth c (QV Q) 4 116 [(0, .ref (gad g 8 0)), (1, .int y1)] [] σ) (n : Nat) (y2 : Int32) (σ : Hp), L_X8_begins_77 Q K116 y1 n y2 σ → G g p l e R s m args below meth c (QV Q) 4 77 [(0, .ref (gad g 8 0)), (1, .int y1), (2, .int y2)] [] σ := by
    intro K116 y1 hK116 n
    induction n with
    | zero => intro y2 σ h; exact False.elim h
    | succ n ih =>
      intro y2 σ h
      unfold L_X8_begins_77 at h
      refine r_iload_n C dX8_begins_77 rfl 2 rfl ?_
      refine r_iconst C dX8_begins_78 ic_3 ?_
      refine r_icmp_ge (tgt := 116) C dX8_begins_79 rfl (fun q => ?_) (fun q => ?_)
      · have h := h.1 q
        refine r_sub [0, 1] rfl ?_
        exact hK116 _ h
      · have h := h.2 q
        refine r_iconst C dX8_begins_82 ic_3 ?_
        refine r_istore_n C dX8_begins_83 rfl (Nat.le_of_ble_eq_true rfl) rfl ?_
        refine r_sub [1, 2, 3, 0] rfl ?_
        obtain ⟨n16, h⟩ := h
        refine l84 _ _ _ (fun σ17 h => ?_) n16 _ _ h
        refine r_iinc (v := y2 + 1) C dX8_begins_110 2 rfl rfl (Nat.le_of_ble_eq_true rfl) rfl ?_
        refine r_goto (tgt := 77) C dX8_begins_113 rfl ?_
        refine r_sub [1, 2, 0] rfl ?_
        exact ih _ _ h
  have l24 : ∀ (K122 : Hp → Prop) (hK122 : ∀ (σ : Hp), K122 σ → G g p l e R s m args below meth c (QV Q) 4 122 [(0, .ref (gad g 8 0))] [] σ) (n : Nat) (y1 : Int32) (σ : Hp), L_X8_begins_24 Q K122 n y1 σ → G g p l e R s m args below meth c (QV Q) 4 24 [(0, .ref (gad g 8 0)), (1, .int y1)] [] σ := by
    intro K122 hK122 n
    induction n with
    | zero => intro y1 σ h; exact False.elim h
    | succ n ih =>
      intro y1 σ h
      unfold L_X8_begins_24 at h
      refine r_iload_n C dX8_begins_24 rfl 1 rfl ?_
      refine r_aload_n C dX8_begins_25 rfl 0 rfl ?_
      refine gf_8_17 C dX8_begins_26 (cn_8 (by decide)) ?_
      refine r_bipush C dX8_begins_29 bi_6 ?_
      obtain ⟨h0, h⟩ := h
      refine r_iaload C dX8_begins_31 ak_53 (cn_53 (by decide)) al_53 h0 ?_
      refine r_icmp_ge (tgt := 122) C dX8_begins_32 rfl (fun q => ?_) (fun q => ?_)
      · have h := h.1 q
        refine r_sub [0] rfl ?_
        exact hK122 _ h
      · have h := h.2 q
        refine r_aload_n C dX8_begins_35 rfl 0 rfl ?_
        refine gf_8_42 C dX8_begins_36 (cn_8 (by decide)) ?_
        refine r_iload_n C dX8_begins_39 rfl 1 rfl ?_
        refine r_iconst C dX8_begins_40 ic_4 ?_
        refine r_callSi [.ref (gad g 61 0)] C dX8_begins_41 w_8_246 (ok_X8_linkAt l g _ _ _ _ h) (Nat.le_of_ble_eq_true rfl) rfl rfl (Nat.le_of_ble_eq_true rfl) (fun r5 σ4 h => ?_)
        refine r_bipush C dX8_begins_44 bi_m2 ?_
        obtain ⟨h0, h⟩ := h
        refine r_iastore C dX8_begins_46 ak_61 (cn_61 (by decide)) al_61 h0 ?_
        have h := h _ rfl
        refine r_aload_n C dX8_begins_47 rfl 0 rfl ?_
        refine gf_8_42 C dX8_begins_48 (cn_8 (by decide)) ?_
        refine r_bipush C dX8_begins_51 bi_41 ?_
        refine r_iload_n C dX8_begins_53 rfl 1 rfl ?_
        refine r_iadd C dX8_begins_54 ?_
        refine r_aload_n C dX8_begins_55 rfl 0 rfl ?_
        refine r_iload_n C dX8_begins_56 rfl 1 rfl ?_
        refine r_callVi [.int _, .ref (gad g 61 0)] C dX8_begins_57 w_8_249 (ok_X8_mostCredit l g _ _ _ h) (Nat.le_of_ble_eq_true rfl) rfl rfl ak_8 (cn_8 (by decide)) rfl rfl (Nat.le_of_ble_eq_true rfl) (fun r8 σ7 h => ?_)
        obtain ⟨h0, h⟩ := h
        refine r_iastore C dX8_begins_60 ak_61 (cn_61 (by decide)) al_61 h0 ?_
        have h := h _ rfl
        refine r_aload_n C dX8_begins_61 rfl 0 rfl ?_
        refine gf_8_42 C dX8_begins_62 (cn_8 (by decide)) ?_
        refine r_bipush C dX8_begins_65 bi_49 ?_
        refine r_iload_n C dX8_begins_67 rfl 1 rfl ?_
        refine r_iadd C dX8_begins_68 ?_
        refine r_aload_n C dX8_begins_69 rfl 0 rfl ?_
        refine r_iload_n C dX8_begins_70 rfl 1 rfl ?_
        refine r_callVi [.int _, .ref (gad g 61 0)] C dX8_begins_71 w_8_249 (ok_X8_mostCredit l g _ _ _ h) (Nat.le_of_ble_eq_true rfl) rfl rfl ak_8 (cn_8 (by decide)) rfl rfl (Nat.le_of_ble_eq_true rfl) (fun r11 σ10 h => ?_)
        obtain ⟨h0, h⟩ := h
        refine r_iastore C dX8_begins_74 ak_61 (cn_61 (by decide)) al_61 h0 ?_
        have h := h _ rfl
        refine r_iconst C dX8_begins_75 ic_0 ?_
        refine r_istore_n C dX8_begins_76 rfl (Nat.le_of_ble_eq_true rfl) rfl ?_
        refine r_sub [1, 2, 0] rfl ?_
        obtain ⟨n18, h⟩ := h
        refine l77 _ _ (fun σ19 h => ?_) n18 _ _ h
        refine r_iinc (v := y1 + 1) C dX8_begins_116 1 rfl rfl (Nat.le_of_ble_eq_true rfl) rfl ?_
        refine r_goto (tgt := 24) C dX8_begins_119 rfl ?_
        refine r_sub [1, 0] rfl ?_
        exact ih _ _ h
  have l124 : ∀ (K152 : Hp → Prop) (hK152 : ∀ (σ : Hp), K152 σ → G g p l e R s m args below meth c (QV Q) 4 152 [] [] σ) (n : Nat) (y1 : Int32) (σ : Hp), L_X8_begins_124 Q K152 n y1 σ → G g p l e R s m args below meth c (QV Q) 4 124 [(0, .ref (gad g 8 0)), (1, .int y1)] [] σ := by
    intro K152 hK152 n
    induction n with
    | zero => intro y1 σ h; exact False.elim h
    | succ n ih =>
      intro y1 σ h
      unfold L_X8_begins_124 at h
      refine r_iload_n C dX8_begins_124 rfl 1 rfl ?_
      refine r_bipush C dX8_begins_125 bi_32 ?_
      refine r_icmp_ge (tgt := 152) C dX8_begins_127 rfl (fun q => ?_) (fun q => ?_)
      · have h := h.1 q
        refine r_sub [] rfl ?_
        exact hK152 _ h
      · have h := h.2 q
        refine r_aload_n C dX8_begins_130 rfl 0 rfl ?_
        refine gf_8_42 C dX8_begins_131 (cn_8 (by decide)) ?_
        refine r_bipush C dX8_begins_134 bi_81 ?_
        refine r_bipush C dX8_begins_136 bi_39 ?_
        refine r_iload_n C dX8_begins_138 rfl 1 rfl ?_
        refine r_imul C dX8_begins_139 ?_
        refine r_iadd C dX8_begins_140 ?_
        refine r_iconst C dX8_begins_141 ic_1 ?_
        refine r_iadd C dX8_begins_142 ?_
        refine r_bipush C dX8_begins_143 bi_m2 ?_
        obtain ⟨h0, h⟩ := h
        refine r_iastore C dX8_begins_145 ak_61 (cn_61 (by decide)) al_61 h0 ?_
        have h := h _ rfl
        refine r_iinc (v := y1 + 1) C dX8_begins_146 1 rfl rfl (Nat.le_of_ble_eq_true rfl) rfl ?_
        refine r_goto (tgt := 124) C dX8_begins_149 rfl ?_
        refine r_sub [1, 0] rfl ?_
        exact ih _ _ h
  unfold S_X8_begins at h
  show G g p l e R s m args below meth c (QV Q) 4 0 [(0, .ref (gad g 8 0))] [] σ
  refine r_iconst C dX8_begins_0 ic_0 ?_
  refine r_istore_n C dX8_begins_1 rfl (Nat.le_of_ble_eq_true rfl) rfl ?_
  refine r_sub [1, 0] rfl ?_
  obtain ⟨n2, h⟩ := h
  refine l2 _ (fun σ3 h => ?_) n2 _ _ h
  refine r_iconst C dX8_begins_22 ic_0 ?_
  refine r_istore_n C dX8_begins_23 rfl (Nat.le_of_ble_eq_true rfl) rfl ?_
  refine r_sub [1, 0] rfl ?_
  obtain ⟨n20, h⟩ := h
  refine l24 _ (fun σ21 h => ?_) n20 _ _ h
  refine r_iconst C dX8_begins_122 ic_0 ?_
  refine r_istore_n C dX8_begins_123 rfl (Nat.le_of_ble_eq_true rfl) rfl ?_
  refine r_sub [1, 0] rfl ?_
  obtain ⟨n23, h⟩ := h
  refine l124 _ (fun σ24 h => ?_) n23 _ _ h
  exact r_return C dX8_begins_152 ⟨rfl, h⟩
def L_X8_bus_65 (Q : Int32 → Hp → Prop) (K89 : Hp → Prop) : Nat → Int32 → Hp → Prop
  | 0, _, _ => False
  | n + 1, y2, σ =>
  (((7 : Int32) ≤ y2 → K89 σ) ∧ (¬ (7 : Int32) ≤ y2 → vp_in y2 7 ∧ vp_in y2 7 ∧ ∀ σ8, σ8 = sI σ 53 0 (ix y2) (gI σ 54 0 (ix y2)) → L_X8_bus_65 Q K89 n (y2 + 1) σ8))
def L_X8_bus_91 (Q : Int32 → Hp → Prop) (K115 : Hp → Prop) : Nat → Int32 → Hp → Prop
  | 0, _, _ => False
  | n + 1, y2, σ =>
  (((6 : Int32) ≤ y2 → K115 σ) ∧ (¬ (6 : Int32) ≤ y2 → vp_in y2 6 ∧ vp_in y2 6 ∧ ∀ σ11, σ11 = sI σ 55 0 (ix y2) (gI σ 56 0 (ix y2)) → L_X8_bus_91 Q K115 n (y2 + 1) σ11))
def L_X8_bus_117 (Q : Int32 → Hp → Prop) (K141 : Hp → Prop) : Nat → Int32 → Hp → Prop
  | 0, _, _ => False
  | n + 1, y2, σ =>
  (((56 : Int32) ≤ y2 → K141 σ) ∧ (¬ (56 : Int32) ≤ y2 → vp_in y2 56 ∧ vp_in y2 56 ∧ ∀ σ14, σ14 = sI σ 57 0 (ix y2) (gI σ 58 0 (ix y2)) → L_X8_bus_117 Q K141 n (y2 + 1) σ14))
def L_X8_bus_143 (Q : Int32 → Hp → Prop) (K167 : Hp → Prop) : Nat → Int32 → Hp → Prop
  | 0, _, _ => False
  | n + 1, y2, σ =>
  (((14 : Int32) ≤ y2 → K167 σ) ∧ (¬ (14 : Int32) ≤ y2 → vp_in y2 14 ∧ vp_in y2 14 ∧ ∀ σ17, σ17 = sL σ 59 0 (ix y2) (gL σ 60 0 (ix y2)) → L_X8_bus_143 Q K167 n (y2 + 1) σ17))
def S_X8_bus (x1 : Int32) (σ : Hp) (Q : Int32 → Hp → Prop) : Prop :=
  S_X8_fresh σ (fun σ1 => S_X8_in x1 0 (gI σ1 8 0 5) σ1 (fun r3 σ2 => ((¬ r3 = 0 → ∀ σ4, σ4 = sI σ2 8 0 5 0 → ∀ σ5, σ5 = sI σ4 8 0 2 0 → S_X8_readAll x1 σ5 (fun r7 σ6 => ((¬ r7 = (-1) → (∃ n9, L_X8_bus_65 Q (fun σ10 => (∃ n12, L_X8_bus_91 Q (fun σ13 => (∃ n15, L_X8_bus_117 Q (fun σ16 => (∃ n18, L_X8_bus_143 Q (fun σ19 => ∀ σ20, σ20 = sI σ19 8 0 14 1 → ∀ σ21, σ21 = sI σ20 8 0 27 0 → S_X8_begins σ21 (fun σ22 => vp_in 6 7 ∧ Q (gI σ22 53 0 (ix 6)) σ22)) n18 0 σ16)) n15 0 σ13)) n12 0 σ10)) n9 0 σ6)) ∧ (r7 = (-1) → ∀ σ23, σ23 = sI σ6 8 0 2 (gI σ6 8 0 21) → ∀ σ24, σ24 = sI σ23 8 0 3 (gI σ23 8 0 22) → S_X8_no 4 σ24 (fun r26 σ25 => Q r26 σ25))))) ∧ (r3 = 0 → S_X8_no 2 σ2 (fun r28 σ27 => Q r28 σ27)))))
set_option maxHeartbeats 2000000 in
set_option maxRecDepth 20000 in
theorem ok_X8_bus (l : Launch) (g : Gm) (x1 : Int32) (σ : Hp) (Q : Int32 → Hp → Prop) (h : S_X8_bus x1 σ Q) : Ct l g yX8_bus cX8_bus 3 (some .int) 11 [.ref (gad g 8 0), .int x1] σ (QI Q) := by
  refine Ct.of (by decide +kernel) (Nat.le_of_ble_eq_true rfl) ?_
  intro p e R s m args below meth c C
  have C : Cx g p R s m args meth c cX8_bus 3 RX8 (some .int) 11 := C
  have l65 : ∀ (K89 : Hp → Prop) (hK89 : ∀ (σ : Hp), K89 σ → G g p l e R s m args below meth c (QI Q) 3 89 [(0, .ref (gad g 8 0))] [] σ) (n : Nat) (y2 : Int32) (σ : Hp), L_X8_bus_65 Q K89 n y2 σ → G g p l e R s m args below meth c (QI Q) 3 65 [(0, .ref (gad g 8 0)), (2, .int y2)] [] σ := by
    intro K89 hK89 n
    induction n with
    | zero => intro y2 σ h; exact False.elim h
    | succ n ih =>
      intro y2 σ h
      unfold L_X8_bus_65 at h
      refine r_iload_n C dX8_bus_65 rfl 1 rfl ?_
      refine r_bipush C dX8_bus_66 bi_7 ?_
      refine r_icmp_ge (tgt := 89) C dX8_bus_68 rfl (fun q => ?_) (fun q => ?_)
      · have h := h.1 q
        refine r_sub [0] rfl ?_
        exact hK89 _ h
      · have h := h.2 q
        refine r_aload_n C dX8_bus_71 rfl 0 rfl ?_
        refine gf_8_17 C dX8_bus_72 (cn_8 (by decide)) ?_
        refine r_iload_n C dX8_bus_75 rfl 1 rfl ?_
        refine r_aload_n C dX8_bus_76 rfl 0 rfl ?_
        refine gf_8_20 C dX8_bus_77 (cn_8 (by decide)) ?_
        refine r_iload_n C dX8_bus_80 rfl 1 rfl ?_
        obtain ⟨h0, h⟩ := h
        refine r_iaload C dX8_bus_81 ak_54 (cn_54 (by decide)) al_54 h0 ?_
        obtain ⟨h0, h⟩ := h
        refine r_iastore C dX8_bus_82 ak_53 (cn_53 (by decide)) al_53 h0 ?_
        have h := h _ rfl
        refine r_iinc (v := y2 + 1) C dX8_bus_83 1 rfl rfl (Nat.le_of_ble_eq_true rfl) rfl ?_
        refine r_goto (tgt := 65) C dX8_bus_86 rfl ?_
        refine r_sub [1, 0] rfl ?_
        exact ih _ _ h
  have l91 : ∀ (K115 : Hp → Prop) (hK115 : ∀ (σ : Hp), K115 σ → G g p l e R s m args below meth c (QI Q) 3 115 [(0, .ref (gad g 8 0))] [] σ) (n : Nat) (y2 : Int32) (σ : Hp), L_X8_bus_91 Q K115 n y2 σ → G g p l e R s m args below meth c (QI Q) 3 91 [(0, .ref (gad g 8 0)), (2, .int y2)] [] σ := by
    intro K115 hK115 n
    induction n with
    | zero => intro y2 σ h; exact False.elim h
    | succ n ih =>
      intro y2 σ h
      unfold L_X8_bus_91 at h
      refine r_iload_n C dX8_bus_91 rfl 1 rfl ?_
      refine r_bipush C dX8_bus_92 bi_6 ?_
      refine r_icmp_ge (tgt := 115) C dX8_bus_94 rfl (fun q => ?_) (fun q => ?_)
      · have h := h.1 q
        refine r_sub [0] rfl ?_
        exact hK115 _ h
      · have h := h.2 q
        refine r_aload_n C dX8_bus_97 rfl 0 rfl ?_
        refine gf_8_23 C dX8_bus_98 (cn_8 (by decide)) ?_
        refine r_iload_n C dX8_bus_101 rfl 1 rfl ?_
        refine r_aload_n C dX8_bus_102 rfl 0 rfl ?_
        refine gf_8_26 C dX8_bus_103 (cn_8 (by decide)) ?_
        refine r_iload_n C dX8_bus_106 rfl 1 rfl ?_
        obtain ⟨h0, h⟩ := h
        refine r_iaload C dX8_bus_107 ak_56 (cn_56 (by decide)) al_56 h0 ?_
        obtain ⟨h0, h⟩ := h
        refine r_iastore C dX8_bus_108 ak_55 (cn_55 (by decide)) al_55 h0 ?_
        have h := h _ rfl
        refine r_iinc (v := y2 + 1) C dX8_bus_109 1 rfl rfl (Nat.le_of_ble_eq_true rfl) rfl ?_
        refine r_goto (tgt := 91) C dX8_bus_112 rfl ?_
        refine r_sub [1, 0] rfl ?_
        exact ih _ _ h
  have l117 : ∀ (K141 : Hp → Prop) (hK141 : ∀ (σ : Hp), K141 σ → G g p l e R s m args below meth c (QI Q) 3 141 [(0, .ref (gad g 8 0))] [] σ) (n : Nat) (y2 : Int32) (σ : Hp), L_X8_bus_117 Q K141 n y2 σ → G g p l e R s m args below meth c (QI Q) 3 117 [(0, .ref (gad g 8 0)), (2, .int y2)] [] σ := by
    intro K141 hK141 n
    induction n with
    | zero => intro y2 σ h; exact False.elim h
    | succ n ih =>
      intro y2 σ h
      unfold L_X8_bus_117 at h
      refine r_iload_n C dX8_bus_117 rfl 1 rfl ?_
      refine r_bipush C dX8_bus_118 bi_56 ?_
      refine r_icmp_ge (tgt := 141) C dX8_bus_120 rfl (fun q => ?_) (fun q => ?_)
      · have h := h.1 q
        refine r_sub [0] rfl ?_
        exact hK141 _ h
      · have h := h.2 q
        refine r_aload_n C dX8_bus_123 rfl 0 rfl ?_
        refine gf_8_29 C dX8_bus_124 (cn_8 (by decide)) ?_
        refine r_iload_n C dX8_bus_127 rfl 1 rfl ?_
        refine r_aload_n C dX8_bus_128 rfl 0 rfl ?_
        refine gf_8_32 C dX8_bus_129 (cn_8 (by decide)) ?_
        refine r_iload_n C dX8_bus_132 rfl 1 rfl ?_
        obtain ⟨h0, h⟩ := h
        refine r_iaload C dX8_bus_133 ak_58 (cn_58 (by decide)) al_58 h0 ?_
        obtain ⟨h0, h⟩ := h
        refine r_iastore C dX8_bus_134 ak_57 (cn_57 (by decide)) al_57 h0 ?_
        have h := h _ rfl
        refine r_iinc (v := y2 + 1) C dX8_bus_135 1 rfl rfl (Nat.le_of_ble_eq_true rfl) rfl ?_
        refine r_goto (tgt := 117) C dX8_bus_138 rfl ?_
        refine r_sub [1, 0] rfl ?_
        exact ih _ _ h
  have l143 : ∀ (K167 : Hp → Prop) (hK167 : ∀ (σ : Hp), K167 σ → G g p l e R s m args below meth c (QI Q) 3 167 [(0, .ref (gad g 8 0))] [] σ) (n : Nat) (y2 : Int32) (σ : Hp), L_X8_bus_143 Q K167 n y2 σ → G g p l e R s m args below meth c (QI Q) 3 143 [(0, .ref (gad g 8 0)), (2, .int y2)] [] σ := by
    intro K167 hK167 n
    induction n with
    | zero => intro y2 σ h; exact False.elim h
    | succ n ih =>
      intro y2 σ h
      unfold L_X8_bus_143 at h
      refine r_iload_n C dX8_bus_143 rfl 1 rfl ?_
      refine r_bipush C dX8_bus_144 bi_14 ?_
      refine r_icmp_ge (tgt := 167) C dX8_bus_146 rfl (fun q => ?_) (fun q => ?_)
      · have h := h.1 q
        refine r_sub [0] rfl ?_
        exact hK167 _ h
      · have h := h.2 q
        refine r_aload_n C dX8_bus_149 rfl 0 rfl ?_
        refine gf_8_35 C dX8_bus_150 (cn_8 (by decide)) ?_
        refine r_iload_n C dX8_bus_153 rfl 1 rfl ?_
        refine r_aload_n C dX8_bus_154 rfl 0 rfl ?_
        refine gf_8_39 C dX8_bus_155 (cn_8 (by decide)) ?_
        refine r_iload_n C dX8_bus_158 rfl 1 rfl ?_
        obtain ⟨h0, h⟩ := h
        refine r_laload C dX8_bus_159 ak_60 (cn_60 (by decide)) al_60 h0 ?_
        obtain ⟨h0, h⟩ := h
        refine r_lastore C dX8_bus_160 ak_59 (cn_59 (by decide)) al_59 h0 ?_
        have h := h _ rfl
        refine r_iinc (v := y2 + 1) C dX8_bus_161 1 rfl rfl (Nat.le_of_ble_eq_true rfl) rfl ?_
        refine r_goto (tgt := 143) C dX8_bus_164 rfl ?_
        refine r_sub [1, 0] rfl ?_
        exact ih _ _ h
  unfold S_X8_bus at h
  show G g p l e R s m args below meth c (QI Q) 3 0 [(0, .ref (gad g 8 0)), (1, .int x1)] [] σ
  refine r_aload_n C dX8_bus_0 rfl 0 rfl ?_
  refine r_callVv [] C dX8_bus_1 w_8_200 (ok_X8_fresh l g _ _ h) (Nat.le_of_ble_eq_true rfl) rfl rfl ak_8 (cn_8 (by decide)) rfl rfl (Nat.le_of_ble_eq_true rfl) (fun σ1 h => ?_)
  refine r_iload_n C dX8_bus_4 rfl 1 rfl ?_
  refine r_iconst C dX8_bus_5 ic_0 ?_
  refine r_aload_n C dX8_bus_6 rfl 0 rfl ?_
  refine gf_8_57 C dX8_bus_7 (cn_8 (by decide)) ?_
  refine r_callSi [] C dX8_bus_10 w_8_80 (ok_X8_in l g _ _ _ _ _ h) (Nat.le_of_ble_eq_true rfl) rfl rfl (Nat.le_of_ble_eq_true rfl) (fun r3 σ2 h => ?_)
  refine r_if_ne (tgt := 22) C dX8_bus_13 rfl (fun q => ?_) (fun q => ?_)
  · have h := h.1 q
    refine r_aload_n C dX8_bus_22 rfl 0 rfl ?_
    refine r_iconst C dX8_bus_23 ic_0 ?_
    refine pf_8_57 C dX8_bus_24 (cn_8 (by decide)) ?_
    have h := h _ rfl
    refine r_aload_n C dX8_bus_27 rfl 0 rfl ?_
    refine r_iconst C dX8_bus_28 ic_0 ?_
    refine pf_8_206 C dX8_bus_29 (cn_8 (by decide)) ?_
    have h := h _ rfl
    refine r_aload_n C dX8_bus_32 rfl 0 rfl ?_
    refine r_iload_n C dX8_bus_33 rfl 1 rfl ?_
    refine r_callVi [] C dX8_bus_34 w_8_209 (ok_X8_readAll l g _ _ _ h) (Nat.le_of_ble_eq_true rfl) rfl rfl ak_8 (cn_8 (by decide)) rfl rfl (Nat.le_of_ble_eq_true rfl) (fun r7 σ6 h => ?_)
    refine r_iconst C dX8_bus_37 ic_m1 ?_
    refine r_icmp_ne (tgt := 63) C dX8_bus_38 rfl (fun q => ?_) (fun q => ?_)
    · have h := h.1 q
      refine r_iconst C dX8_bus_63 ic_0 ?_
      refine r_istore_n C dX8_bus_64 rfl (Nat.le_of_ble_eq_true rfl) rfl ?_
      refine r_sub [1, 0] rfl ?_
      obtain ⟨n9, h⟩ := h
      refine l65 _ (fun σ10 h => ?_) n9 _ _ h
      refine r_iconst C dX8_bus_89 ic_0 ?_
      refine r_istore_n C dX8_bus_90 rfl (Nat.le_of_ble_eq_true rfl) rfl ?_
      refine r_sub [1, 0] rfl ?_
      obtain ⟨n12, h⟩ := h
      refine l91 _ (fun σ13 h => ?_) n12 _ _ h
      refine r_iconst C dX8_bus_115 ic_0 ?_
      refine r_istore_n C dX8_bus_116 rfl (Nat.le_of_ble_eq_true rfl) rfl ?_
      refine r_sub [1, 0] rfl ?_
      obtain ⟨n15, h⟩ := h
      refine l117 _ (fun σ16 h => ?_) n15 _ _ h
      refine r_iconst C dX8_bus_141 ic_0 ?_
      refine r_istore_n C dX8_bus_142 rfl (Nat.le_of_ble_eq_true rfl) rfl ?_
      refine r_sub [1, 0] rfl ?_
      obtain ⟨n18, h⟩ := h
      refine l143 _ (fun σ19 h => ?_) n18 _ _ h
      refine r_aload_n C dX8_bus_167 rfl 0 rfl ?_
      refine r_iconst C dX8_bus_168 ic_1 ?_
      refine pf_8_212 C dX8_bus_169 zb1 (cn_8 (by decide)) ?_
      have h := h _ rfl
      refine r_aload_n C dX8_bus_172 rfl 0 rfl ?_
      refine r_iconst C dX8_bus_173 ic_0 ?_
      refine pf_8_215 C dX8_bus_174 zb0 (cn_8 (by decide)) ?_
      have h := h _ rfl
      refine r_aload_n C dX8_bus_177 rfl 0 rfl ?_
      refine r_callVv [] C dX8_bus_178 w_8_218 (ok_X8_begins l g _ _ h) (Nat.le_of_ble_eq_true rfl) rfl rfl ak_8 (cn_8 (by decide)) rfl rfl (Nat.le_of_ble_eq_true rfl) (fun σ22 h => ?_)
      refine r_aload_n C dX8_bus_181 rfl 0 rfl ?_
      refine gf_8_17 C dX8_bus_182 (cn_8 (by decide)) ?_
      refine r_bipush C dX8_bus_185 bi_6 ?_
      obtain ⟨h0, h⟩ := h
      refine r_iaload C dX8_bus_187 ak_53 (cn_53 (by decide)) al_53 h0 ?_
      exact r_ireturn C dX8_bus_188 ⟨_, rfl, h⟩
    · have h := h.2 q
      refine r_aload_n C dX8_bus_41 rfl 0 rfl ?_
      refine r_aload_n C dX8_bus_42 rfl 0 rfl ?_
      refine gf_8_108 C dX8_bus_43 (cn_8 (by decide)) ?_
      refine pf_8_206 C dX8_bus_46 (cn_8 (by decide)) ?_
      have h := h _ rfl
      refine r_aload_n C dX8_bus_49 rfl 0 rfl ?_
      refine r_aload_n C dX8_bus_50 rfl 0 rfl ?_
      refine gf_8_111 C dX8_bus_51 (cn_8 (by decide)) ?_
      refine pf_8_9 C dX8_bus_54 (cn_8 (by decide)) ?_
      have h := h _ rfl
      refine r_aload_n C dX8_bus_57 rfl 0 rfl ?_
      refine r_iconst C dX8_bus_58 ic_4 ?_
      refine r_callVi [] C dX8_bus_59 w_8_203 (ok_X8_no l g _ _ _ h) (Nat.le_of_ble_eq_true rfl) rfl rfl ak_8 (cn_8 (by decide)) rfl rfl (Nat.le_of_ble_eq_true rfl) (fun r26 σ25 h => ?_)
      exact r_ireturn C dX8_bus_62 ⟨_, rfl, h⟩
  · have h := h.2 q
    refine r_aload_n C dX8_bus_16 rfl 0 rfl ?_
    refine r_iconst C dX8_bus_17 ic_2 ?_
    refine r_callVi [] C dX8_bus_18 w_8_203 (ok_X8_no l g _ _ _ h) (Nat.le_of_ble_eq_true rfl) rfl rfl ak_8 (cn_8 (by decide)) rfl rfl (Nat.le_of_ble_eq_true rfl) (fun r28 σ27 h => ?_)
    exact r_ireturn C dX8_bus_21 ⟨_, rfl, h⟩
def S_X8_fault (σ : Hp) (Q : Int32 → Hp → Prop) : Prop :=
  ∀ σ1, σ1 = sI σ 8 0 0 0 → Q (gI σ1 8 0 2) σ1
set_option maxHeartbeats 2000000 in
set_option maxRecDepth 20000 in
theorem ok_X8_fault (l : Launch) (g : Gm) (σ : Hp) (Q : Int32 → Hp → Prop) (h : S_X8_fault σ Q) : Ct l g yX8_fault cX8_fault 1 (some .int) 0 [.ref (gad g 8 0)] σ (QI Q) := by
  refine Ct.of (by decide +kernel) (Nat.le_of_ble_eq_true rfl) ?_
  intro p e R s m args below meth c C
  have C : Cx g p R s m args meth c cX8_fault 1 RX8 (some .int) 0 := C
  unfold S_X8_fault at h
  show G g p l e R s m args below meth c (QI Q) 1 0 [(0, .ref (gad g 8 0))] [] σ
  refine r_aload_n C dX8_fault_0 rfl 0 rfl ?_
  refine r_iconst C dX8_fault_1 ic_0 ?_
  refine pf_8_51 C dX8_fault_2 (cn_8 (by decide)) ?_
  have h := h _ rfl
  refine r_aload_n C dX8_fault_5 rfl 0 rfl ?_
  refine gf_8_206 C dX8_fault_6 (cn_8 (by decide)) ?_
  exact r_ireturn C dX8_fault_9 ⟨_, rfl, h⟩
def S_X8_where (σ : Hp) (Q : Int32 → Hp → Prop) : Prop :=
  ∀ σ1, σ1 = sI σ 8 0 0 0 → ((¬ (gI σ1 8 0 1) = 4 → Q (-1) σ1) ∧ ((gI σ1 8 0 1) = 4 → Q (gI σ1 8 0 3) σ1))
set_option maxHeartbeats 2000000 in
set_option maxRecDepth 20000 in
theorem ok_X8_where (l : Launch) (g : Gm) (σ : Hp) (Q : Int32 → Hp → Prop) (h : S_X8_where σ Q) : Ct l g yX8_where cX8_where 1 (some .int) 0 [.ref (gad g 8 0)] σ (QI Q) := by
  refine Ct.of (by decide +kernel) (Nat.le_of_ble_eq_true rfl) ?_
  intro p e R s m args below meth c C
  have C : Cx g p R s m args meth c cX8_where 1 RX8 (some .int) 0 := C
  unfold S_X8_where at h
  show G g p l e R s m args below meth c (QI Q) 1 0 [(0, .ref (gad g 8 0))] [] σ
  refine r_aload_n C dX8_where_0 rfl 0 rfl ?_
  refine r_iconst C dX8_where_1 ic_0 ?_
  refine pf_8_51 C dX8_where_2 (cn_8 (by decide)) ?_
  have h := h _ rfl
  refine r_aload_n C dX8_where_5 rfl 0 rfl ?_
  refine gf_8_54 C dX8_where_6 (cn_8 (by decide)) ?_
  refine r_iconst C dX8_where_9 ic_4 ?_
  refine r_icmp_ne (tgt := 20) C dX8_where_10 rfl (fun q => ?_) (fun q => ?_)
  · have h := h.1 q
    refine r_iconst C dX8_where_20 ic_m1 ?_
    exact r_ireturn C dX8_where_21 ⟨_, rfl, h⟩
  · have h := h.2 q
    refine r_aload_n C dX8_where_13 rfl 0 rfl ?_
    refine gf_8_9 C dX8_where_14 (cn_8 (by decide)) ?_
    refine r_goto (tgt := 21) C dX8_where_17 rfl ?_
    exact r_ireturn C dX8_where_21 ⟨_, rfl, h⟩
def S_X8_isLink (x1 : Int32) (σ : Hp) (Q : Int32 → Hp → Prop) : Prop :=
  (((gI σ 8 0 14) = 0 → Q 0 σ) ∧ (¬ (gI σ 8 0 14) = 0 → vp_in 6 7 ∧ S_X8_in x1 0 ((gI σ 53 0 (ix 6)) - 1) σ (fun r2 σ1 => ((r2 = 0 → Q 0 σ1) ∧ (¬ r2 = 0 → Q 1 σ1)))))
set_option maxHeartbeats 2000000 in
set_option maxRecDepth 20000 in
theorem ok_X8_isLink (l : Launch) (g : Gm) (x1 : Int32) (σ : Hp) (Q : Int32 → Hp → Prop) (h : S_X8_isLink x1 σ Q) : Ct l g yX8_isLink cX8_isLink 2 (some .boolean) 1 [.ref (gad g 8 0), .int x1] σ (QI Q) := by
  refine Ct.of (by decide +kernel) (Nat.le_of_ble_eq_true rfl) ?_
  intro p e R s m args below meth c C
  have C : Cx g p R s m args meth c cX8_isLink 2 RX8 (some .boolean) 1 := C
  unfold S_X8_isLink at h
  show G g p l e R s m args below meth c (QI Q) 2 0 [(0, .ref (gad g 8 0)), (1, .int x1)] [] σ
  refine r_aload_n C dX8_isLink_0 rfl 0 rfl ?_
  refine gf_8_212 C dX8_isLink_1 (cn_8 (by decide)) ?_
  refine r_if_eq (tgt := 28) C dX8_isLink_4 rfl (fun q => ?_) (fun q => ?_)
  · have h := h.1 q
    refine r_iconst C dX8_isLink_28 ic_0 ?_
    exact r_zreturn C dX8_isLink_29 zb0.1 ⟨_, rfl, h⟩
  · have h := h.2 q
    refine r_iload_n C dX8_isLink_7 rfl 1 rfl ?_
    refine r_iconst C dX8_isLink_8 ic_0 ?_
    refine r_aload_n C dX8_isLink_9 rfl 0 rfl ?_
    refine gf_8_17 C dX8_isLink_10 (cn_8 (by decide)) ?_
    refine r_bipush C dX8_isLink_13 bi_6 ?_
    obtain ⟨h0, h⟩ := h
    refine r_iaload C dX8_isLink_15 ak_53 (cn_53 (by decide)) al_53 h0 ?_
    refine r_iconst C dX8_isLink_16 ic_1 ?_
    refine r_isub C dX8_isLink_17 ?_
    refine r_callSi [] C dX8_isLink_18 w_8_80 (ok_X8_in l g _ _ _ _ _ h) (Nat.le_of_ble_eq_true rfl) rfl rfl (Nat.le_of_ble_eq_true rfl) (fun r2 σ1 h => ?_)
    refine r_if_eq (tgt := 28) C dX8_isLink_21 rfl (fun q => ?_) (fun q => ?_)
    · have h := h.1 q
      refine r_iconst C dX8_isLink_28 ic_0 ?_
      exact r_zreturn C dX8_isLink_29 zb0.1 ⟨_, rfl, h⟩
    · have h := h.2 q
      refine r_iconst C dX8_isLink_24 ic_1 ?_
      refine r_goto (tgt := 29) C dX8_isLink_25 rfl ?_
      exact r_zreturn C dX8_isLink_29 zb1.1 ⟨_, rfl, h⟩
def S_X8_isReceiver (x1 : Int32) (x2 : Int32) (x3 : Int32) (σ : Hp) (Q : Int32 → Hp → Prop) : Prop :=
  S_X8_isLink x1 σ (fun r2 σ1 => ((r2 = 0 → Q 0 σ1) ∧ (¬ r2 = 0 → S_X8_linkOf x1 3 σ1 (fun r4 σ3 => S_X8_in x2 0 (r4 - 1) σ3 (fun r6 σ5 => ((r6 = 0 → Q 0 σ5) ∧ (¬ r6 = 0 → ((x3 < 0 → Q 0 σ5) ∧ (¬ x3 < 0 → Q 1 σ5)))))))))
set_option maxHeartbeats 2000000 in
set_option maxRecDepth 20000 in
theorem ok_X8_isReceiver (l : Launch) (g : Gm) (x1 : Int32) (x2 : Int32) (x3 : Int32) (σ : Hp) (Q : Int32 → Hp → Prop) (h : S_X8_isReceiver x1 x2 x3 σ Q) : Ct l g yX8_isReceiver cX8_isReceiver 4 (some .boolean) 2 [.ref (gad g 8 0), .int x1, .int x2, .int x3] σ (QI Q) := by
  refine Ct.of (by decide +kernel) (Nat.le_of_ble_eq_true rfl) ?_
  intro p e R s m args below meth c C
  have C : Cx g p R s m args meth c cX8_isReceiver 4 RX8 (some .boolean) 2 := C
  unfold S_X8_isReceiver at h
  show G g p l e R s m args below meth c (QI Q) 4 0 [(0, .ref (gad g 8 0)), (1, .int x1), (2, .int x2), (3, .int x3)] [] σ
  refine r_aload_n C dX8_isReceiver_0 rfl 0 rfl ?_
  refine r_iload_n C dX8_isReceiver_1 rfl 1 rfl ?_
  refine r_callVi [] C dX8_isReceiver_2 w_8_224 (ok_X8_isLink l g _ _ _ h) (Nat.le_of_ble_eq_true rfl) rfl rfl ak_8 (cn_8 (by decide)) rfl rfl (Nat.le_of_ble_eq_true rfl) (fun r2 σ1 h => ?_)
  refine r_if_eq (tgt := 32) C dX8_isReceiver_5 rfl (fun q => ?_) (fun q => ?_)
  · have h := h.1 q
    refine r_iconst C dX8_isReceiver_32 ic_0 ?_
    exact r_zreturn C dX8_isReceiver_33 zb0.1 ⟨_, rfl, h⟩
  · have h := h.2 q
    refine r_iload_n C dX8_isReceiver_8 rfl 2 rfl ?_
    refine r_iconst C dX8_isReceiver_9 ic_0 ?_
    refine r_aload_n C dX8_isReceiver_10 rfl 0 rfl ?_
    refine r_iload_n C dX8_isReceiver_11 rfl 1 rfl ?_
    refine r_iconst C dX8_isReceiver_12 ic_3 ?_
    refine r_callVi [.int _, .int _] C dX8_isReceiver_13 w_8_221 (ok_X8_linkOf l g _ _ _ _ h) (Nat.le_of_ble_eq_true rfl) rfl rfl ak_8 (cn_8 (by decide)) rfl rfl (Nat.le_of_ble_eq_true rfl) (fun r4 σ3 h => ?_)
    refine r_iconst C dX8_isReceiver_16 ic_1 ?_
    refine r_isub C dX8_isReceiver_17 ?_
    refine r_callSi [] C dX8_isReceiver_18 w_8_80 (ok_X8_in l g _ _ _ _ _ h) (Nat.le_of_ble_eq_true rfl) rfl rfl (Nat.le_of_ble_eq_true rfl) (fun r6 σ5 h => ?_)
    refine r_if_eq (tgt := 32) C dX8_isReceiver_21 rfl (fun q => ?_) (fun q => ?_)
    · have h := h.1 q
      refine r_iconst C dX8_isReceiver_32 ic_0 ?_
      exact r_zreturn C dX8_isReceiver_33 zb0.1 ⟨_, rfl, h⟩
    · have h := h.2 q
      refine r_iload_n C dX8_isReceiver_24 rfl 3 rfl ?_
      refine r_if_lt (tgt := 32) C dX8_isReceiver_25 rfl (fun q => ?_) (fun q => ?_)
      · have h := h.1 q
        refine r_iconst C dX8_isReceiver_32 ic_0 ?_
        exact r_zreturn C dX8_isReceiver_33 zb0.1 ⟨_, rfl, h⟩
      · have h := h.2 q
        refine r_iconst C dX8_isReceiver_28 ic_1 ?_
        refine r_goto (tgt := 33) C dX8_isReceiver_29 rfl ?_
        exact r_zreturn C dX8_isReceiver_33 zb1.1 ⟨_, rfl, h⟩
def S_X8_isEnd (x1 : Int32) (σ : Hp) (Q : Int32 → Hp → Prop) : Prop :=
  (((gI σ 8 0 14) = 0 → Q 0 σ) ∧ (¬ (gI σ 8 0 14) = 0 → vp_in 5 7 ∧ S_X8_in x1 0 ((gI σ 53 0 (ix 5)) - 1) σ (fun r2 σ1 => ((r2 = 0 → Q 0 σ1) ∧ (¬ r2 = 0 → Q 1 σ1)))))
set_option maxHeartbeats 2000000 in
set_option maxRecDepth 20000 in
theorem ok_X8_isEnd (l : Launch) (g : Gm) (x1 : Int32) (σ : Hp) (Q : Int32 → Hp → Prop) (h : S_X8_isEnd x1 σ Q) : Ct l g yX8_isEnd cX8_isEnd 2 (some .boolean) 1 [.ref (gad g 8 0), .int x1] σ (QI Q) := by
  refine Ct.of (by decide +kernel) (Nat.le_of_ble_eq_true rfl) ?_
  intro p e R s m args below meth c C
  have C : Cx g p R s m args meth c cX8_isEnd 2 RX8 (some .boolean) 1 := C
  unfold S_X8_isEnd at h
  show G g p l e R s m args below meth c (QI Q) 2 0 [(0, .ref (gad g 8 0)), (1, .int x1)] [] σ
  refine r_aload_n C dX8_isEnd_0 rfl 0 rfl ?_
  refine gf_8_212 C dX8_isEnd_1 (cn_8 (by decide)) ?_
  refine r_if_eq (tgt := 27) C dX8_isEnd_4 rfl (fun q => ?_) (fun q => ?_)
  · have h := h.1 q
    refine r_iconst C dX8_isEnd_27 ic_0 ?_
    exact r_zreturn C dX8_isEnd_28 zb0.1 ⟨_, rfl, h⟩
  · have h := h.2 q
    refine r_iload_n C dX8_isEnd_7 rfl 1 rfl ?_
    refine r_iconst C dX8_isEnd_8 ic_0 ?_
    refine r_aload_n C dX8_isEnd_9 rfl 0 rfl ?_
    refine gf_8_17 C dX8_isEnd_10 (cn_8 (by decide)) ?_
    refine r_iconst C dX8_isEnd_13 ic_5 ?_
    obtain ⟨h0, h⟩ := h
    refine r_iaload C dX8_isEnd_14 ak_53 (cn_53 (by decide)) al_53 h0 ?_
    refine r_iconst C dX8_isEnd_15 ic_1 ?_
    refine r_isub C dX8_isEnd_16 ?_
    refine r_callSi [] C dX8_isEnd_17 w_8_80 (ok_X8_in l g _ _ _ _ _ h) (Nat.le_of_ble_eq_true rfl) rfl rfl (Nat.le_of_ble_eq_true rfl) (fun r2 σ1 h => ?_)
    refine r_if_eq (tgt := 27) C dX8_isEnd_20 rfl (fun q => ?_) (fun q => ?_)
    · have h := h.1 q
      refine r_iconst C dX8_isEnd_27 ic_0 ?_
      exact r_zreturn C dX8_isEnd_28 zb0.1 ⟨_, rfl, h⟩
    · have h := h.2 q
      refine r_iconst C dX8_isEnd_23 ic_1 ?_
      refine r_goto (tgt := 28) C dX8_isEnd_24 rfl ?_
      exact r_zreturn C dX8_isEnd_28 zb1.1 ⟨_, rfl, h⟩
def S_X8_isPort (x1 : Int32) (σ : Hp) (Q : Int32 → Hp → Prop) : Prop :=
  S_X8_in x1 0 15 σ (fun r2 σ1 => ((¬ r2 = 0 → (((12 : Int32) ≤ x1 → (((gI σ1 8 0 14) = 0 → Q 0 σ1) ∧ (¬ (gI σ1 8 0 14) = 0 → vp_in 0 7 ∧ (((gI σ1 53 0 (ix 0)) ≤ ((jrem (x1 - 12) 2) + 1) → Q 0 σ1) ∧ (¬ (gI σ1 53 0 (ix 0)) ≤ ((jrem (x1 - 12) 2) + 1) → Q 1 σ1))))) ∧ (¬ (12 : Int32) ≤ x1 → S_X8_isEnd (jrem x1 6) σ1 (fun r4 σ3 => zb r4 ∧ Q r4 σ3)))) ∧ (r2 = 0 → Q 0 σ1)))
set_option maxHeartbeats 2000000 in
set_option maxRecDepth 20000 in
theorem ok_X8_isPort (l : Launch) (g : Gm) (x1 : Int32) (σ : Hp) (Q : Int32 → Hp → Prop) (h : S_X8_isPort x1 σ Q) : Ct l g yX8_isPort cX8_isPort 2 (some .boolean) 2 [.ref (gad g 8 0), .int x1] σ (QI Q) := by
  refine Ct.of (by decide +kernel) (Nat.le_of_ble_eq_true rfl) ?_
  intro p e R s m args below meth c C
  have C : Cx g p R s m args meth c cX8_isPort 2 RX8 (some .boolean) 2 := C
  unfold S_X8_isPort at h
  show G g p l e R s m args below meth c (QI Q) 2 0 [(0, .ref (gad g 8 0)), (1, .int x1)] [] σ
  refine r_iload_n C dX8_isPort_0 rfl 1 rfl ?_
  refine r_iconst C dX8_isPort_1 ic_0 ?_
  refine r_bipush C dX8_isPort_2 bi_15 ?_
  refine r_callSi [] C dX8_isPort_4 w_8_80 (ok_X8_in l g _ _ _ _ _ h) (Nat.le_of_ble_eq_true rfl) rfl rfl (Nat.le_of_ble_eq_true rfl) (fun r2 σ1 h => ?_)
  refine r_if_ne (tgt := 12) C dX8_isPort_7 rfl (fun q => ?_) (fun q => ?_)
  · have h := h.1 q
    refine r_iload_n C dX8_isPort_12 rfl 1 rfl ?_
    refine r_bipush C dX8_isPort_13 bi_12 ?_
    refine r_icmp_ge (tgt := 29) C dX8_isPort_15 rfl (fun q => ?_) (fun q => ?_)
    · have h := h.1 q
      refine r_aload_n C dX8_isPort_29 rfl 0 rfl ?_
      refine gf_8_212 C dX8_isPort_30 (cn_8 (by decide)) ?_
      refine r_if_eq (tgt := 57) C dX8_isPort_33 rfl (fun q => ?_) (fun q => ?_)
      · have h := h.1 q
        refine r_iconst C dX8_isPort_57 ic_0 ?_
        exact r_zreturn C dX8_isPort_58 zb0.1 ⟨_, rfl, h⟩
      · have h := h.2 q
        refine r_iload_n C dX8_isPort_36 rfl 1 rfl ?_
        refine r_bipush C dX8_isPort_37 bi_12 ?_
        refine r_isub C dX8_isPort_39 ?_
        refine r_iconst C dX8_isPort_40 ic_2 ?_
        refine r_irem C dX8_isPort_41 (by decide) ?_
        refine r_iconst C dX8_isPort_42 ic_1 ?_
        refine r_iadd C dX8_isPort_43 ?_
        refine r_aload_n C dX8_isPort_44 rfl 0 rfl ?_
        refine gf_8_17 C dX8_isPort_45 (cn_8 (by decide)) ?_
        refine r_iconst C dX8_isPort_48 ic_0 ?_
        obtain ⟨h0, h⟩ := h
        refine r_iaload C dX8_isPort_49 ak_53 (cn_53 (by decide)) al_53 h0 ?_
        refine r_icmp_ge (tgt := 57) C dX8_isPort_50 rfl (fun q => ?_) (fun q => ?_)
        · have h := h.1 q
          refine r_iconst C dX8_isPort_57 ic_0 ?_
          exact r_zreturn C dX8_isPort_58 zb0.1 ⟨_, rfl, h⟩
        · have h := h.2 q
          refine r_iconst C dX8_isPort_53 ic_1 ?_
          refine r_goto (tgt := 58) C dX8_isPort_54 rfl ?_
          exact r_zreturn C dX8_isPort_58 zb1.1 ⟨_, rfl, h⟩
    · have h := h.2 q
      refine r_aload_n C dX8_isPort_18 rfl 0 rfl ?_
      refine r_iload_n C dX8_isPort_19 rfl 1 rfl ?_
      refine r_bipush C dX8_isPort_20 bi_6 ?_
      refine r_irem C dX8_isPort_22 (by decide) ?_
      refine r_callVi [] C dX8_isPort_23 w_8_227 (ok_X8_isEnd l g _ _ _ h) (Nat.le_of_ble_eq_true rfl) rfl rfl ak_8 (cn_8 (by decide)) rfl rfl (Nat.le_of_ble_eq_true rfl) (fun r4 σ3 h => ?_)
      refine r_goto (tgt := 58) C dX8_isPort_26 rfl ?_
      obtain ⟨h0, h⟩ := h
      exact r_zreturn C dX8_isPort_58 h0.1 ⟨_, rfl, h⟩
  · have h := h.2 q
    refine r_iconst C dX8_isPort_10 ic_0 ?_
    exact r_zreturn C dX8_isPort_11 zb0.1 ⟨_, rfl, h⟩
def J_X8_about_21 (Q : Int32 → Hp → Prop) (σ : Hp) : Prop :=
  S_X8_no 1 σ (fun r3 σ2 => Q r3 σ2)
def S_X8_about (x1 : Int32) (σ : Hp) (Q : Int32 → Hp → Prop) : Prop :=
  S_X8_fresh σ (fun σ1 => (((gI σ1 8 0 14) = 0 → J_X8_about_21 Q σ1) ∧ (¬ (gI σ1 8 0 14) = 0 → S_X8_in x1 0 7 σ1 (fun r5 σ4 => ((¬ r5 = 0 → ((¬ x1 = 7 → vp_in x1 7 ∧ Q (gI σ4 53 0 (ix x1)) σ4) ∧ (x1 = 7 → vp_in 0 1809 ∧ Q (gI σ4 61 0 (ix 0)) σ4))) ∧ (r5 = 0 → J_X8_about_21 Q σ4))))))
set_option maxHeartbeats 2000000 in
set_option maxRecDepth 20000 in
theorem ok_X8_about (l : Launch) (g : Gm) (x1 : Int32) (σ : Hp) (Q : Int32 → Hp → Prop) (h : S_X8_about x1 σ Q) : Ct l g yX8_about cX8_about 2 (some .int) 1 [.ref (gad g 8 0), .int x1] σ (QI Q) := by
  refine Ct.of (by decide +kernel) (Nat.le_of_ble_eq_true rfl) ?_
  intro p e R s m args below meth c C
  have C : Cx g p R s m args meth c cX8_about 2 RX8 (some .int) 1 := C
  have j21 : ∀ (σ : Hp), J_X8_about_21 Q σ → G g p l e R s m args below meth c (QI Q) 2 21 [(0, .ref (gad g 8 0))] [] σ := by
    intro σ h
    unfold J_X8_about_21 at h
    refine r_aload_n C dX8_about_21 rfl 0 rfl ?_
    refine r_iconst C dX8_about_22 ic_1 ?_
    refine r_callVi [] C dX8_about_23 w_8_203 (ok_X8_no l g _ _ _ h) (Nat.le_of_ble_eq_true rfl) rfl rfl ak_8 (cn_8 (by decide)) rfl rfl (Nat.le_of_ble_eq_true rfl) (fun r3 σ2 h => ?_)
    exact r_ireturn C dX8_about_26 ⟨_, rfl, h⟩
  unfold S_X8_about at h
  show G g p l e R s m args below meth c (QI Q) 2 0 [(0, .ref (gad g 8 0)), (1, .int x1)] [] σ
  refine r_aload_n C dX8_about_0 rfl 0 rfl ?_
  refine r_callVv [] C dX8_about_1 w_8_200 (ok_X8_fresh l g _ _ h) (Nat.le_of_ble_eq_true rfl) rfl rfl ak_8 (cn_8 (by decide)) rfl rfl (Nat.le_of_ble_eq_true rfl) (fun σ1 h => ?_)
  refine r_aload_n C dX8_about_4 rfl 0 rfl ?_
  refine gf_8_212 C dX8_about_5 (cn_8 (by decide)) ?_
  refine r_if_eq (tgt := 21) C dX8_about_8 rfl (fun q => ?_) (fun q => ?_)
  · have h := h.1 q
    refine r_sub [0] rfl ?_
    exact j21 _ h
  · have h := h.2 q
    refine r_iload_n C dX8_about_11 rfl 1 rfl ?_
    refine r_iconst C dX8_about_12 ic_0 ?_
    refine r_bipush C dX8_about_13 bi_7 ?_
    refine r_callSi [] C dX8_about_15 w_8_80 (ok_X8_in l g _ _ _ _ _ h) (Nat.le_of_ble_eq_true rfl) rfl rfl (Nat.le_of_ble_eq_true rfl) (fun r5 σ4 h => ?_)
    refine r_if_ne (tgt := 27) C dX8_about_18 rfl (fun q => ?_) (fun q => ?_)
    · have h := h.1 q
      refine r_iload_n C dX8_about_27 rfl 1 rfl ?_
      refine r_bipush C dX8_about_28 bi_7 ?_
      refine r_icmp_ne (tgt := 42) C dX8_about_30 rfl (fun q => ?_) (fun q => ?_)
      · have h := h.1 q
        refine r_aload_n C dX8_about_42 rfl 0 rfl ?_
        refine gf_8_17 C dX8_about_43 (cn_8 (by decide)) ?_
        refine r_iload_n C dX8_about_46 rfl 1 rfl ?_
        obtain ⟨h0, h⟩ := h
        refine r_iaload C dX8_about_47 ak_53 (cn_53 (by decide)) al_53 h0 ?_
        exact r_ireturn C dX8_about_48 ⟨_, rfl, h⟩
      · have h := h.2 q
        refine r_aload_n C dX8_about_33 rfl 0 rfl ?_
        refine gf_8_42 C dX8_about_34 (cn_8 (by decide)) ?_
        refine r_iconst C dX8_about_37 ic_0 ?_
        obtain ⟨h0, h⟩ := h
        refine r_iaload C dX8_about_38 ak_61 (cn_61 (by decide)) al_61 h0 ?_
        refine r_goto (tgt := 48) C dX8_about_39 rfl ?_
        exact r_ireturn C dX8_about_48 ⟨_, rfl, h⟩
    · have h := h.2 q
      refine r_sub [0] rfl ?_
      exact j21 _ h
def S_X8_at (x1 : Int32) (σ : Hp) (Q : Int32 → Hp → Prop) : Prop :=
  S_X8_fresh σ (fun σ1 => S_X8_isEnd x1 σ1 (fun r3 σ2 => ((r3 = 0 → S_X8_no 1 σ2 (fun r5 σ4 => Q r5 σ4)) ∧ (¬ r3 = 0 → vp_in x1 6 ∧ Q (gI σ2 55 0 (ix x1)) σ2))))
set_option maxHeartbeats 2000000 in
set_option maxRecDepth 20000 in
theorem ok_X8_at (l : Launch) (g : Gm) (x1 : Int32) (σ : Hp) (Q : Int32 → Hp → Prop) (h : S_X8_at x1 σ Q) : Ct l g yX8_at cX8_at 2 (some .int) 2 [.ref (gad g 8 0), .int x1] σ (QI Q) := by
  refine Ct.of (by decide +kernel) (Nat.le_of_ble_eq_true rfl) ?_
  intro p e R s m args below meth c C
  have C : Cx g p R s m args meth c cX8_at 2 RX8 (some .int) 2 := C
  unfold S_X8_at at h
  show G g p l e R s m args below meth c (QI Q) 2 0 [(0, .ref (gad g 8 0)), (1, .int x1)] [] σ
  refine r_aload_n C dX8_at_0 rfl 0 rfl ?_
  refine r_callVv [] C dX8_at_1 w_8_200 (ok_X8_fresh l g _ _ h) (Nat.le_of_ble_eq_true rfl) rfl rfl ak_8 (cn_8 (by decide)) rfl rfl (Nat.le_of_ble_eq_true rfl) (fun σ1 h => ?_)
  refine r_aload_n C dX8_at_4 rfl 0 rfl ?_
  refine r_iload_n C dX8_at_5 rfl 1 rfl ?_
  refine r_callVi [] C dX8_at_6 w_8_227 (ok_X8_isEnd l g _ _ _ h) (Nat.le_of_ble_eq_true rfl) rfl rfl ak_8 (cn_8 (by decide)) rfl rfl (Nat.le_of_ble_eq_true rfl) (fun r3 σ2 h => ?_)
  refine r_if_eq (tgt := 21) C dX8_at_9 rfl (fun q => ?_) (fun q => ?_)
  · have h := h.1 q
    refine r_aload_n C dX8_at_21 rfl 0 rfl ?_
    refine r_iconst C dX8_at_22 ic_1 ?_
    refine r_callVi [] C dX8_at_23 w_8_203 (ok_X8_no l g _ _ _ h) (Nat.le_of_ble_eq_true rfl) rfl rfl ak_8 (cn_8 (by decide)) rfl rfl (Nat.le_of_ble_eq_true rfl) (fun r5 σ4 h => ?_)
    exact r_ireturn C dX8_at_26 ⟨_, rfl, h⟩
  · have h := h.2 q
    refine r_aload_n C dX8_at_12 rfl 0 rfl ?_
    refine gf_8_23 C dX8_at_13 (cn_8 (by decide)) ?_
    refine r_iload_n C dX8_at_16 rfl 1 rfl ?_
    obtain ⟨h0, h⟩ := h
    refine r_iaload C dX8_at_17 ak_55 (cn_55 (by decide)) al_55 h0 ?_
    refine r_goto (tgt := 26) C dX8_at_18 rfl ?_
    exact r_ireturn C dX8_at_26 ⟨_, rfl, h⟩
def J_X8_link_30 (Q : Int32 → Hp → Prop) (σ : Hp) : Prop :=
  S_X8_no 1 σ (fun r5 σ4 => Q r5 σ4)
def S_X8_link (x1 : Int32) (x2 : Int32) (σ : Hp) (Q : Int32 → Hp → Prop) : Prop :=
  S_X8_fresh σ (fun σ1 => S_X8_isLink x1 σ1 (fun r3 σ2 => ((r3 = 0 → J_X8_link_30 Q σ2) ∧ (¬ r3 = 0 → S_X8_in x2 0 3 σ2 (fun r7 σ6 => ((r7 = 0 → J_X8_link_30 Q σ6) ∧ (¬ r7 = 0 → S_X8_linkOf x1 x2 σ6 (fun r9 σ8 => Q r9 σ8))))))))
set_option maxHeartbeats 2000000 in
set_option maxRecDepth 20000 in
theorem ok_X8_link (l : Launch) (g : Gm) (x1 : Int32) (x2 : Int32) (σ : Hp) (Q : Int32 → Hp → Prop) (h : S_X8_link x1 x2 σ Q) : Ct l g yX8_link cX8_link 3 (some .int) 2 [.ref (gad g 8 0), .int x1, .int x2] σ (QI Q) := by
  refine Ct.of (by decide +kernel) (Nat.le_of_ble_eq_true rfl) ?_
  intro p e R s m args below meth c C
  have C : Cx g p R s m args meth c cX8_link 3 RX8 (some .int) 2 := C
  have j30 : ∀ (σ : Hp), J_X8_link_30 Q σ → G g p l e R s m args below meth c (QI Q) 3 30 [(0, .ref (gad g 8 0))] [] σ := by
    intro σ h
    unfold J_X8_link_30 at h
    refine r_aload_n C dX8_link_30 rfl 0 rfl ?_
    refine r_iconst C dX8_link_31 ic_1 ?_
    refine r_callVi [] C dX8_link_32 w_8_203 (ok_X8_no l g _ _ _ h) (Nat.le_of_ble_eq_true rfl) rfl rfl ak_8 (cn_8 (by decide)) rfl rfl (Nat.le_of_ble_eq_true rfl) (fun r5 σ4 h => ?_)
    exact r_ireturn C dX8_link_35 ⟨_, rfl, h⟩
  unfold S_X8_link at h
  show G g p l e R s m args below meth c (QI Q) 3 0 [(0, .ref (gad g 8 0)), (1, .int x1), (2, .int x2)] [] σ
  refine r_aload_n C dX8_link_0 rfl 0 rfl ?_
  refine r_callVv [] C dX8_link_1 w_8_200 (ok_X8_fresh l g _ _ h) (Nat.le_of_ble_eq_true rfl) rfl rfl ak_8 (cn_8 (by decide)) rfl rfl (Nat.le_of_ble_eq_true rfl) (fun σ1 h => ?_)
  refine r_aload_n C dX8_link_4 rfl 0 rfl ?_
  refine r_iload_n C dX8_link_5 rfl 1 rfl ?_
  refine r_callVi [] C dX8_link_6 w_8_224 (ok_X8_isLink l g _ _ _ h) (Nat.le_of_ble_eq_true rfl) rfl rfl ak_8 (cn_8 (by decide)) rfl rfl (Nat.le_of_ble_eq_true rfl) (fun r3 σ2 h => ?_)
  refine r_if_eq (tgt := 30) C dX8_link_9 rfl (fun q => ?_) (fun q => ?_)
  · have h := h.1 q
    refine r_sub [0] rfl ?_
    exact j30 _ h
  · have h := h.2 q
    refine r_iload_n C dX8_link_12 rfl 2 rfl ?_
    refine r_iconst C dX8_link_13 ic_0 ?_
    refine r_iconst C dX8_link_14 ic_3 ?_
    refine r_callSi [] C dX8_link_15 w_8_80 (ok_X8_in l g _ _ _ _ _ h) (Nat.le_of_ble_eq_true rfl) rfl rfl (Nat.le_of_ble_eq_true rfl) (fun r7 σ6 h => ?_)
    refine r_if_eq (tgt := 30) C dX8_link_18 rfl (fun q => ?_) (fun q => ?_)
    · have h := h.1 q
      refine r_sub [0] rfl ?_
      exact j30 _ h
    · have h := h.2 q
      refine r_aload_n C dX8_link_21 rfl 0 rfl ?_
      refine r_iload_n C dX8_link_22 rfl 1 rfl ?_
      refine r_iload_n C dX8_link_23 rfl 2 rfl ?_
      refine r_callVi [] C dX8_link_24 w_8_221 (ok_X8_linkOf l g _ _ _ _ h) (Nat.le_of_ble_eq_true rfl) rfl rfl ak_8 (cn_8 (by decide)) rfl rfl (Nat.le_of_ble_eq_true rfl) (fun r9 σ8 h => ?_)
      refine r_goto (tgt := 35) C dX8_link_27 rfl ?_
      exact r_ireturn C dX8_link_35 ⟨_, rfl, h⟩
def S_X8_receiver (x1 : Int32) (x2 : Int32) (σ : Hp) (Q : Int32 → Hp → Prop) : Prop :=
  S_X8_fresh σ (fun σ1 => S_X8_isReceiver x1 x2 0 σ1 (fun r3 σ2 => ((r3 = 0 → S_X8_no 1 σ2 (fun r5 σ4 => Q r5 σ4)) ∧ (¬ r3 = 0 → S_X8_receiverOf x1 x2 σ2 (fun r7 σ6 => Q r7 σ6)))))
set_option maxHeartbeats 2000000 in
set_option maxRecDepth 20000 in
theorem ok_X8_receiver (l : Launch) (g : Gm) (x1 : Int32) (x2 : Int32) (σ : Hp) (Q : Int32 → Hp → Prop) (h : S_X8_receiver x1 x2 σ Q) : Ct l g yX8_receiver cX8_receiver 3 (some .int) 3 [.ref (gad g 8 0), .int x1, .int x2] σ (QI Q) := by
  refine Ct.of (by decide +kernel) (Nat.le_of_ble_eq_true rfl) ?_
  intro p e R s m args below meth c C
  have C : Cx g p R s m args meth c cX8_receiver 3 RX8 (some .int) 3 := C
  unfold S_X8_receiver at h
  show G g p l e R s m args below meth c (QI Q) 3 0 [(0, .ref (gad g 8 0)), (1, .int x1), (2, .int x2)] [] σ
  refine r_aload_n C dX8_receiver_0 rfl 0 rfl ?_
  refine r_callVv [] C dX8_receiver_1 w_8_200 (ok_X8_fresh l g _ _ h) (Nat.le_of_ble_eq_true rfl) rfl rfl ak_8 (cn_8 (by decide)) rfl rfl (Nat.le_of_ble_eq_true rfl) (fun σ1 h => ?_)
  refine r_aload_n C dX8_receiver_4 rfl 0 rfl ?_
  refine r_iload_n C dX8_receiver_5 rfl 1 rfl ?_
  refine r_iload_n C dX8_receiver_6 rfl 2 rfl ?_
  refine r_iconst C dX8_receiver_7 ic_0 ?_
  refine r_callVi [] C dX8_receiver_8 w_8_243 (ok_X8_isReceiver l g _ _ _ _ _ h) (Nat.le_of_ble_eq_true rfl) rfl rfl ak_8 (cn_8 (by decide)) rfl rfl (Nat.le_of_ble_eq_true rfl) (fun r3 σ2 h => ?_)
  refine r_if_eq (tgt := 23) C dX8_receiver_11 rfl (fun q => ?_) (fun q => ?_)
  · have h := h.1 q
    refine r_aload_n C dX8_receiver_23 rfl 0 rfl ?_
    refine r_iconst C dX8_receiver_24 ic_1 ?_
    refine r_callVi [] C dX8_receiver_25 w_8_203 (ok_X8_no l g _ _ _ h) (Nat.le_of_ble_eq_true rfl) rfl rfl ak_8 (cn_8 (by decide)) rfl rfl (Nat.le_of_ble_eq_true rfl) (fun r5 σ4 h => ?_)
    exact r_ireturn C dX8_receiver_28 ⟨_, rfl, h⟩
  · have h := h.2 q
    refine r_aload_n C dX8_receiver_14 rfl 0 rfl ?_
    refine r_iload_n C dX8_receiver_15 rfl 1 rfl ?_
    refine r_iload_n C dX8_receiver_16 rfl 2 rfl ?_
    refine r_callVi [] C dX8_receiver_17 w_8_230 (ok_X8_receiverOf l g _ _ _ _ h) (Nat.le_of_ble_eq_true rfl) rfl rfl ak_8 (cn_8 (by decide)) rfl rfl (Nat.le_of_ble_eq_true rfl) (fun r7 σ6 h => ?_)
    refine r_goto (tgt := 28) C dX8_receiver_20 rfl ?_
    exact r_ireturn C dX8_receiver_28 ⟨_, rfl, h⟩
def L_X8_named_6 (Q : Int32 → Hp → Prop) (K42 : Hp → Prop) (K34 : Int32 → Hp → Prop) (y1 : Int64) : Nat → Int32 → Hp → Prop
  | 0, _, _ => False
  | n + 1, y3, σ =>
  (((gI σ 8 0 14) = 0 → K42 σ) ∧ (¬ (gI σ 8 0 14) = 0 → vp_in 5 7 ∧ (((gI σ 53 0 (ix 5)) ≤ y3 → K42 σ) ∧ (¬ (gI σ 53 0 (ix 5)) ≤ y3 → vp_in y3 14 ∧ ((¬ (lg_cmp (gL σ 59 0 (ix y3)) y1) = 0 → L_X8_named_6 Q K42 K34 y1 n (y3 + 1) σ) ∧ ((lg_cmp (gL σ 59 0 (ix y3)) y1) = 0 → K34 y3 σ))))))
def L_X8_named_44 (Q : Int32 → Hp → Prop) (K87 : Hp → Prop) (K76 : Int32 → Hp → Prop) (y1 : Int64) : Nat → Int32 → Hp → Prop
  | 0, _, _ => False
  | n + 1, y3, σ =>
  (((gI σ 8 0 14) = 0 → K87 σ) ∧ (¬ (gI σ 8 0 14) = 0 → vp_in 6 7 ∧ (((gI σ 53 0 (ix 6)) ≤ y3 → K87 σ) ∧ (¬ (gI σ 53 0 (ix 6)) ≤ y3 → vp_in (6 + y3) 14 ∧ ((¬ (lg_cmp (gL σ 59 0 (ix (6 + y3))) y1) = 0 → L_X8_named_44 Q K87 K76 y1 n (y3 + 1) σ) ∧ ((lg_cmp (gL σ 59 0 (ix (6 + y3))) y1) = 0 → K76 y3 σ))))))
def J_X8_named_87 (Q : Int32 → Hp → Prop) (σ : Hp) : Prop :=
  S_X8_no 1 σ (fun r7 σ6 => Q r7 σ6)
def J_X8_named_42 (Q : Int32 → Hp → Prop) (y1 : Int64) (σ : Hp) : Prop :=
  (∃ n4, L_X8_named_44 Q (fun σ5 => J_X8_named_87 Q σ5) (fun w9 σ8 => Q (10 + w9) σ8) y1 n4 0 σ)
def S_X8_named (x1 : Int64) (σ : Hp) (Q : Int32 → Hp → Prop) : Prop :=
  S_X8_fresh σ (fun σ1 => (∃ n2, L_X8_named_6 Q (fun σ3 => J_X8_named_42 Q x1 σ3) (fun w11 σ10 => Q w11 σ10) x1 n2 0 σ1))
set_option maxHeartbeats 2000000 in
set_option maxRecDepth 20000 in
theorem ok_X8_named (l : Launch) (g : Gm) (x1 : Int64) (σ : Hp) (Q : Int32 → Hp → Prop) (h : S_X8_named x1 σ Q) : Ct l g yX8_named cX8_named 4 (some .int) 1 [.ref (gad g 8 0), .long x1] σ (QI Q) := by
  refine Ct.of (by decide +kernel) (Nat.le_of_ble_eq_true rfl) ?_
  intro p e R s m args below meth c C
  have C : Cx g p R s m args meth c cX8_named 4 RX8 (some .int) 1 := C
  have l6 : ∀ (K42 : Hp → Prop) (K34 : Int32 → Hp → Prop) (y1 : Int64) (hK42 : ∀ (σ : Hp), K42 σ → G g p l e R s m args below meth c (QI Q) 4 42 [(0, .ref (gad g 8 0)), (1, .long y1)] [] σ) (hK34 : ∀ (v3 : Int32) (σ : Hp), K34 v3 σ → G g p l e R s m args below meth c (QI Q) 4 34 [(3, .int v3)] [] σ) (n : Nat) (y3 : Int32) (σ : Hp), L_X8_named_6 Q K42 K34 y1 n y3 σ → G g p l e R s m args below meth c (QI Q) 4 6 [(0, .ref (gad g 8 0)), (1, .long y1), (3, .int y3)] [] σ := by
    intro K42 K34 y1 hK42 hK34 n
    induction n with
    | zero => intro y3 σ h; exact False.elim h
    | succ n ih =>
      intro y3 σ h
      unfold L_X8_named_6 at h
      refine r_aload_n C dX8_named_6 rfl 0 rfl ?_
      refine gf_8_212 C dX8_named_7 (cn_8 (by decide)) ?_
      refine r_if_eq (tgt := 42) C dX8_named_10 rfl (fun q => ?_) (fun q => ?_)
      · have h := h.1 q
        refine r_sub [0, 1] rfl ?_
        exact hK42 _ h
      · have h := h.2 q
        refine r_iload_n C dX8_named_13 rfl 2 rfl ?_
        refine r_aload_n C dX8_named_14 rfl 0 rfl ?_
        refine gf_8_17 C dX8_named_15 (cn_8 (by decide)) ?_
        refine r_iconst C dX8_named_18 ic_5 ?_
        obtain ⟨h0, h⟩ := h
        refine r_iaload C dX8_named_19 ak_53 (cn_53 (by decide)) al_53 h0 ?_
        refine r_icmp_ge (tgt := 42) C dX8_named_20 rfl (fun q => ?_) (fun q => ?_)
        · have h := h.1 q
          refine r_sub [0, 1] rfl ?_
          exact hK42 _ h
        · have h := h.2 q
          refine r_aload_n C dX8_named_23 rfl 0 rfl ?_
          refine gf_8_35 C dX8_named_24 (cn_8 (by decide)) ?_
          refine r_iload_n C dX8_named_27 rfl 2 rfl ?_
          obtain ⟨h0, h⟩ := h
          refine r_laload C dX8_named_28 ak_59 (cn_59 (by decide)) al_59 h0 ?_
          refine r_lload_n C dX8_named_29 rfl 1 rfl ?_
          refine r_lcmp C dX8_named_30 ?_
          refine r_if_ne (tgt := 36) C dX8_named_31 rfl (fun q => ?_) (fun q => ?_)
          · have h := h.1 q
            refine r_iinc (v := y3 + 1) C dX8_named_36 2 rfl rfl (Nat.le_of_ble_eq_true rfl) rfl ?_
            refine r_goto (tgt := 6) C dX8_named_39 rfl ?_
            refine r_sub [1, 2, 0] rfl ?_
            exact ih _ _ h
          · have h := h.2 q
            refine r_sub [2] rfl ?_
            exact hK34 _ _ h
  have l44 : ∀ (K87 : Hp → Prop) (K76 : Int32 → Hp → Prop) (y1 : Int64) (hK87 : ∀ (σ : Hp), K87 σ → G g p l e R s m args below meth c (QI Q) 4 87 [(0, .ref (gad g 8 0))] [] σ) (hK76 : ∀ (v3 : Int32) (σ : Hp), K76 v3 σ → G g p l e R s m args below meth c (QI Q) 4 76 [(3, .int v3)] [] σ) (n : Nat) (y3 : Int32) (σ : Hp), L_X8_named_44 Q K87 K76 y1 n y3 σ → G g p l e R s m args below meth c (QI Q) 4 44 [(0, .ref (gad g 8 0)), (1, .long y1), (3, .int y3)] [] σ := by
    intro K87 K76 y1 hK87 hK76 n
    induction n with
    | zero => intro y3 σ h; exact False.elim h
    | succ n ih =>
      intro y3 σ h
      unfold L_X8_named_44 at h
      refine r_aload_n C dX8_named_44 rfl 0 rfl ?_
      refine gf_8_212 C dX8_named_45 (cn_8 (by decide)) ?_
      refine r_if_eq (tgt := 87) C dX8_named_48 rfl (fun q => ?_) (fun q => ?_)
      · have h := h.1 q
        refine r_sub [0] rfl ?_
        exact hK87 _ h
      · have h := h.2 q
        refine r_iload_n C dX8_named_51 rfl 2 rfl ?_
        refine r_aload_n C dX8_named_52 rfl 0 rfl ?_
        refine gf_8_17 C dX8_named_53 (cn_8 (by decide)) ?_
        refine r_bipush C dX8_named_56 bi_6 ?_
        obtain ⟨h0, h⟩ := h
        refine r_iaload C dX8_named_58 ak_53 (cn_53 (by decide)) al_53 h0 ?_
        refine r_icmp_ge (tgt := 87) C dX8_named_59 rfl (fun q => ?_) (fun q => ?_)
        · have h := h.1 q
          refine r_sub [0] rfl ?_
          exact hK87 _ h
        · have h := h.2 q
          refine r_aload_n C dX8_named_62 rfl 0 rfl ?_
          refine gf_8_35 C dX8_named_63 (cn_8 (by decide)) ?_
          refine r_bipush C dX8_named_66 bi_6 ?_
          refine r_iload_n C dX8_named_68 rfl 2 rfl ?_
          refine r_iadd C dX8_named_69 ?_
          obtain ⟨h0, h⟩ := h
          refine r_laload C dX8_named_70 ak_59 (cn_59 (by decide)) al_59 h0 ?_
          refine r_lload_n C dX8_named_71 rfl 1 rfl ?_
          refine r_lcmp C dX8_named_72 ?_
          refine r_if_ne (tgt := 81) C dX8_named_73 rfl (fun q => ?_) (fun q => ?_)
          · have h := h.1 q
            refine r_iinc (v := y3 + 1) C dX8_named_81 2 rfl rfl (Nat.le_of_ble_eq_true rfl) rfl ?_
            refine r_goto (tgt := 44) C dX8_named_84 rfl ?_
            refine r_sub [1, 2, 0] rfl ?_
            exact ih _ _ h
          · have h := h.2 q
            refine r_sub [2] rfl ?_
            exact hK76 _ _ h
  have j87 : ∀ (σ : Hp), J_X8_named_87 Q σ → G g p l e R s m args below meth c (QI Q) 4 87 [(0, .ref (gad g 8 0))] [] σ := by
    intro σ h
    unfold J_X8_named_87 at h
    refine r_aload_n C dX8_named_87 rfl 0 rfl ?_
    refine r_iconst C dX8_named_88 ic_1 ?_
    refine r_callVi [] C dX8_named_89 w_8_203 (ok_X8_no l g _ _ _ h) (Nat.le_of_ble_eq_true rfl) rfl rfl ak_8 (cn_8 (by decide)) rfl rfl (Nat.le_of_ble_eq_true rfl) (fun r7 σ6 h => ?_)
    exact r_ireturn C dX8_named_92 ⟨_, rfl, h⟩
  have j42 : ∀ (y1 : Int64) (σ : Hp), J_X8_named_42 Q y1 σ → G g p l e R s m args below meth c (QI Q) 4 42 [(0, .ref (gad g 8 0)), (1, .long y1)] [] σ := by
    intro y1 σ h
    unfold J_X8_named_42 at h
    refine r_iconst C dX8_named_42 ic_0 ?_
    refine r_istore_n C dX8_named_43 rfl (Nat.le_of_ble_eq_true rfl) rfl ?_
    refine r_sub [1, 2, 0] rfl ?_
    obtain ⟨n4, h⟩ := h
    refine l44 _ _ _ (fun σ5 h => ?_) (fun w9 σ8 h => ?_) n4 _ _ h
    · exact j87 _ h
    · refine r_bipush C dX8_named_76 bi_10 ?_
      refine r_iload_n C dX8_named_78 rfl 0 rfl ?_
      refine r_iadd C dX8_named_79 ?_
      exact r_ireturn C dX8_named_80 ⟨_, rfl, h⟩
  unfold S_X8_named at h
  show G g p l e R s m args below meth c (QI Q) 4 0 [(0, .ref (gad g 8 0)), (1, .long x1)] [] σ
  refine r_aload_n C dX8_named_0 rfl 0 rfl ?_
  refine r_callVv [] C dX8_named_1 w_8_200 (ok_X8_fresh l g _ _ h) (Nat.le_of_ble_eq_true rfl) rfl rfl ak_8 (cn_8 (by decide)) rfl rfl (Nat.le_of_ble_eq_true rfl) (fun σ1 h => ?_)
  refine r_iconst C dX8_named_4 ic_0 ?_
  refine r_istore_n C dX8_named_5 rfl (Nat.le_of_ble_eq_true rfl) rfl ?_
  refine r_sub [1, 2, 0] rfl ?_
  obtain ⟨n2, h⟩ := h
  refine l6 _ _ _ (fun σ3 h => ?_) (fun w11 σ10 h => ?_) n2 _ _ h
  · exact j42 _ _ h
  · refine r_iload_n C dX8_named_34 rfl 0 rfl ?_
    exact r_ireturn C dX8_named_35 ⟨_, rfl, h⟩
def J_X8_way_40 (Q : Int32 → Hp → Prop) (σ : Hp) : Prop :=
  S_X8_no 1 σ (fun r5 σ4 => Q r5 σ4)
def S_X8_way (x1 : Int32) (x2 : Int32) (x3 : Int32) (σ : Hp) (Q : Int32 → Hp → Prop) : Prop :=
  S_X8_fresh σ (fun σ1 => S_X8_isReceiver x1 x2 0 σ1 (fun r3 σ2 => ((r3 = 0 → J_X8_way_40 Q σ2) ∧ (¬ r3 = 0 → S_X8_wayLong x1 x2 σ2 (fun r7 σ6 => S_X8_in x3 0 (r7 - 1) σ6 (fun r9 σ8 => ((r9 = 0 → J_X8_way_40 Q σ8) ∧ (¬ r9 = 0 → S_X8_wayOf x1 x2 x3 σ8 (fun r11 σ10 => Q r11 σ10)))))))))
set_option maxHeartbeats 2000000 in
set_option maxRecDepth 20000 in
theorem ok_X8_way (l : Launch) (g : Gm) (x1 : Int32) (x2 : Int32) (x3 : Int32) (σ : Hp) (Q : Int32 → Hp → Prop) (h : S_X8_way x1 x2 x3 σ Q) : Ct l g yX8_way cX8_way 4 (some .int) 4 [.ref (gad g 8 0), .int x1, .int x2, .int x3] σ (QI Q) := by
  refine Ct.of (by decide +kernel) (Nat.le_of_ble_eq_true rfl) ?_
  intro p e R s m args below meth c C
  have C : Cx g p R s m args meth c cX8_way 4 RX8 (some .int) 4 := C
  have j40 : ∀ (σ : Hp), J_X8_way_40 Q σ → G g p l e R s m args below meth c (QI Q) 4 40 [(0, .ref (gad g 8 0))] [] σ := by
    intro σ h
    unfold J_X8_way_40 at h
    refine r_aload_n C dX8_way_40 rfl 0 rfl ?_
    refine r_iconst C dX8_way_41 ic_1 ?_
    refine r_callVi [] C dX8_way_42 w_8_203 (ok_X8_no l g _ _ _ h) (Nat.le_of_ble_eq_true rfl) rfl rfl ak_8 (cn_8 (by decide)) rfl rfl (Nat.le_of_ble_eq_true rfl) (fun r5 σ4 h => ?_)
    exact r_ireturn C dX8_way_45 ⟨_, rfl, h⟩
  unfold S_X8_way at h
  show G g p l e R s m args below meth c (QI Q) 4 0 [(0, .ref (gad g 8 0)), (1, .int x1), (2, .int x2), (3, .int x3)] [] σ
  refine r_aload_n C dX8_way_0 rfl 0 rfl ?_
  refine r_callVv [] C dX8_way_1 w_8_200 (ok_X8_fresh l g _ _ h) (Nat.le_of_ble_eq_true rfl) rfl rfl ak_8 (cn_8 (by decide)) rfl rfl (Nat.le_of_ble_eq_true rfl) (fun σ1 h => ?_)
  refine r_aload_n C dX8_way_4 rfl 0 rfl ?_
  refine r_iload_n C dX8_way_5 rfl 1 rfl ?_
  refine r_iload_n C dX8_way_6 rfl 2 rfl ?_
  refine r_iconst C dX8_way_7 ic_0 ?_
  refine r_callVi [] C dX8_way_8 w_8_243 (ok_X8_isReceiver l g _ _ _ _ _ h) (Nat.le_of_ble_eq_true rfl) rfl rfl ak_8 (cn_8 (by decide)) rfl rfl (Nat.le_of_ble_eq_true rfl) (fun r3 σ2 h => ?_)
  refine r_if_eq (tgt := 40) C dX8_way_11 rfl (fun q => ?_) (fun q => ?_)
  · have h := h.1 q
    refine r_sub [0] rfl ?_
    exact j40 _ h
  · have h := h.2 q
    refine r_iload_n C dX8_way_14 rfl 3 rfl ?_
    refine r_iconst C dX8_way_15 ic_0 ?_
    refine r_aload_n C dX8_way_16 rfl 0 rfl ?_
    refine r_iload_n C dX8_way_17 rfl 1 rfl ?_
    refine r_iload_n C dX8_way_18 rfl 2 rfl ?_
    refine r_callVi [.int _, .int _] C dX8_way_19 w_8_236 (ok_X8_wayLong l g _ _ _ _ h) (Nat.le_of_ble_eq_true rfl) rfl rfl ak_8 (cn_8 (by decide)) rfl rfl (Nat.le_of_ble_eq_true rfl) (fun r7 σ6 h => ?_)
    refine r_iconst C dX8_way_22 ic_1 ?_
    refine r_isub C dX8_way_23 ?_
    refine r_callSi [] C dX8_way_24 w_8_80 (ok_X8_in l g _ _ _ _ _ h) (Nat.le_of_ble_eq_true rfl) rfl rfl (Nat.le_of_ble_eq_true rfl) (fun r9 σ8 h => ?_)
    refine r_if_eq (tgt := 40) C dX8_way_27 rfl (fun q => ?_) (fun q => ?_)
    · have h := h.1 q
      refine r_sub [0] rfl ?_
      exact j40 _ h
    · have h := h.2 q
      refine r_aload_n C dX8_way_30 rfl 0 rfl ?_
      refine r_iload_n C dX8_way_31 rfl 1 rfl ?_
      refine r_iload_n C dX8_way_32 rfl 2 rfl ?_
      refine r_iload_n C dX8_way_33 rfl 3 rfl ?_
      refine r_callVi [] C dX8_way_34 w_8_239 (ok_X8_wayOf l g _ _ _ _ _ h) (Nat.le_of_ble_eq_true rfl) rfl rfl ak_8 (cn_8 (by decide)) rfl rfl (Nat.le_of_ble_eq_true rfl) (fun r11 σ10 h => ?_)
      refine r_goto (tgt := 45) C dX8_way_37 rfl ?_
      exact r_ireturn C dX8_way_45 ⟨_, rfl, h⟩
def S_X8_portAt (x0 : Int32) (x1 : Int32) (σ : Hp) (Q : Int32 → Hp → Prop) : Prop :=
  Q (81 + (39 * ((16 * x0) + x1))) σ
set_option maxHeartbeats 2000000 in
set_option maxRecDepth 20000 in
theorem ok_X8_portAt (l : Launch) (g : Gm) (x0 : Int32) (x1 : Int32) (σ : Hp) (Q : Int32 → Hp → Prop) (h : S_X8_portAt x0 x1 σ Q) : Ct l g yX8_portAt cX8_portAt 2 (some .int) 0 [.int x0, .int x1] σ (QI Q) := by
  refine Ct.of (by decide +kernel) (Nat.le_of_ble_eq_true rfl) ?_
  intro p e R s m args below meth c C
  have C : Cx g p R s m args meth c cX8_portAt 2 RX8 (some .int) 0 := C
  unfold S_X8_portAt at h
  show G g p l e R s m args below meth c (QI Q) 2 0 [(0, .int x0), (1, .int x1)] [] σ
  refine r_bipush C dX8_portAt_0 bi_81 ?_
  refine r_bipush C dX8_portAt_2 bi_39 ?_
  refine r_bipush C dX8_portAt_4 bi_16 ?_
  refine r_iload_n C dX8_portAt_6 rfl 0 rfl ?_
  refine r_imul C dX8_portAt_7 ?_
  refine r_iload_n C dX8_portAt_8 rfl 1 rfl ?_
  refine r_iadd C dX8_portAt_9 ?_
  refine r_imul C dX8_portAt_10 ?_
  refine r_iadd C dX8_portAt_11 ?_
  exact r_ireturn C dX8_portAt_12 ⟨_, rfl, h⟩
def L_X8_laysAside_2 (Q : Hp → Prop) (K27 : Hp → Prop) : Nat → Int32 → Hp → Prop
  | 0, _, _ => False
  | n + 1, y1, σ =>
  (((1809 : Int32) ≤ y1 → K27 σ) ∧ (¬ (1809 : Int32) ≤ y1 → vp_in y1 1809 ∧ vp_in y1 1809 ∧ ∀ σ1, σ1 = sI σ 62 0 (ix y1) (gI σ 61 0 (ix y1)) → L_X8_laysAside_2 Q K27 n (y1 + 1) σ1))
def S_X8_laysAside (σ : Hp) (Q : Hp → Prop) : Prop :=
  (∃ n2, L_X8_laysAside_2 Q (fun σ3 => Q σ3) n2 0 σ)
set_option maxHeartbeats 2000000 in
set_option maxRecDepth 20000 in
theorem ok_X8_laysAside (l : Launch) (g : Gm) (σ : Hp) (Q : Hp → Prop) (h : S_X8_laysAside σ Q) : Ct l g yX8_laysAside cX8_laysAside 2 none 0 [.ref (gad g 8 0)] σ (QV Q) := by
  refine Ct.of (by decide +kernel) (Nat.le_of_ble_eq_true rfl) ?_
  intro p e R s m args below meth c C
  have C : Cx g p R s m args meth c cX8_laysAside 2 RX8 none 0 := C
  have l2 : ∀ (K27 : Hp → Prop) (hK27 : ∀ (σ : Hp), K27 σ → G g p l e R s m args below meth c (QV Q) 2 27 [] [] σ) (n : Nat) (y1 : Int32) (σ : Hp), L_X8_laysAside_2 Q K27 n y1 σ → G g p l e R s m args below meth c (QV Q) 2 2 [(0, .ref (gad g 8 0)), (1, .int y1)] [] σ := by
    intro K27 hK27 n
    induction n with
    | zero => intro y1 σ h; exact False.elim h
    | succ n ih =>
      intro y1 σ h
      unfold L_X8_laysAside_2 at h
      refine r_iload_n C dX8_laysAside_2 rfl 1 rfl ?_
      refine r_sipush C dX8_laysAside_3 si_1809 ?_
      refine r_icmp_ge (tgt := 27) C dX8_laysAside_6 rfl (fun q => ?_) (fun q => ?_)
      · have h := h.1 q
        refine r_sub [] rfl ?_
        exact hK27 _ h
      · have h := h.2 q
        refine r_aload_n C dX8_laysAside_9 rfl 0 rfl ?_
        refine gf_8_45 C dX8_laysAside_10 (cn_8 (by decide)) ?_
        refine r_iload_n C dX8_laysAside_13 rfl 1 rfl ?_
        refine r_aload_n C dX8_laysAside_14 rfl 0 rfl ?_
        refine gf_8_42 C dX8_laysAside_15 (cn_8 (by decide)) ?_
        refine r_iload_n C dX8_laysAside_18 rfl 1 rfl ?_
        obtain ⟨h0, h⟩ := h
        refine r_iaload C dX8_laysAside_19 ak_61 (cn_61 (by decide)) al_61 h0 ?_
        obtain ⟨h0, h⟩ := h
        refine r_iastore C dX8_laysAside_20 ak_62 (cn_62 (by decide)) al_62 h0 ?_
        have h := h _ rfl
        refine r_iinc (v := y1 + 1) C dX8_laysAside_21 1 rfl rfl (Nat.le_of_ble_eq_true rfl) rfl ?_
        refine r_goto (tgt := 2) C dX8_laysAside_24 rfl ?_
        refine r_sub [1, 0] rfl ?_
        exact ih _ _ h
  unfold S_X8_laysAside at h
  show G g p l e R s m args below meth c (QV Q) 2 0 [(0, .ref (gad g 8 0))] [] σ
  refine r_iconst C dX8_laysAside_0 ic_0 ?_
  refine r_istore_n C dX8_laysAside_1 rfl (Nat.le_of_ble_eq_true rfl) rfl ?_
  refine r_sub [1, 0] rfl ?_
  obtain ⟨n2, h⟩ := h
  refine l2 _ (fun σ3 h => ?_) n2 _ _ h
  exact r_return C dX8_laysAside_27 ⟨rfl, h⟩
def L_X8_takesBack_2 (Q : Hp → Prop) (K27 : Hp → Prop) : Nat → Int32 → Hp → Prop
  | 0, _, _ => False
  | n + 1, y1, σ =>
  (((1809 : Int32) ≤ y1 → K27 σ) ∧ (¬ (1809 : Int32) ≤ y1 → vp_in y1 1809 ∧ vp_in y1 1809 ∧ ∀ σ1, σ1 = sI σ 61 0 (ix y1) (gI σ 62 0 (ix y1)) → L_X8_takesBack_2 Q K27 n (y1 + 1) σ1))
def S_X8_takesBack (σ : Hp) (Q : Hp → Prop) : Prop :=
  (∃ n2, L_X8_takesBack_2 Q (fun σ3 => Q σ3) n2 0 σ)
set_option maxHeartbeats 2000000 in
set_option maxRecDepth 20000 in
theorem ok_X8_takesBack (l : Launch) (g : Gm) (σ : Hp) (Q : Hp → Prop) (h : S_X8_takesBack σ Q) : Ct l g yX8_takesBack cX8_takesBack 2 none 0 [.ref (gad g 8 0)] σ (QV Q) := by
  refine Ct.of (by decide +kernel) (Nat.le_of_ble_eq_true rfl) ?_
  intro p e R s m args below meth c C
  have C : Cx g p R s m args meth c cX8_takesBack 2 RX8 none 0 := C
  have l2 : ∀ (K27 : Hp → Prop) (hK27 : ∀ (σ : Hp), K27 σ → G g p l e R s m args below meth c (QV Q) 2 27 [] [] σ) (n : Nat) (y1 : Int32) (σ : Hp), L_X8_takesBack_2 Q K27 n y1 σ → G g p l e R s m args below meth c (QV Q) 2 2 [(0, .ref (gad g 8 0)), (1, .int y1)] [] σ := by
    intro K27 hK27 n
    induction n with
    | zero => intro y1 σ h; exact False.elim h
    | succ n ih =>
      intro y1 σ h
      unfold L_X8_takesBack_2 at h
      refine r_iload_n C dX8_takesBack_2 rfl 1 rfl ?_
      refine r_sipush C dX8_takesBack_3 si_1809 ?_
      refine r_icmp_ge (tgt := 27) C dX8_takesBack_6 rfl (fun q => ?_) (fun q => ?_)
      · have h := h.1 q
        refine r_sub [] rfl ?_
        exact hK27 _ h
      · have h := h.2 q
        refine r_aload_n C dX8_takesBack_9 rfl 0 rfl ?_
        refine gf_8_42 C dX8_takesBack_10 (cn_8 (by decide)) ?_
        refine r_iload_n C dX8_takesBack_13 rfl 1 rfl ?_
        refine r_aload_n C dX8_takesBack_14 rfl 0 rfl ?_
        refine gf_8_45 C dX8_takesBack_15 (cn_8 (by decide)) ?_
        refine r_iload_n C dX8_takesBack_18 rfl 1 rfl ?_
        obtain ⟨h0, h⟩ := h
        refine r_iaload C dX8_takesBack_19 ak_62 (cn_62 (by decide)) al_62 h0 ?_
        obtain ⟨h0, h⟩ := h
        refine r_iastore C dX8_takesBack_20 ak_61 (cn_61 (by decide)) al_61 h0 ?_
        have h := h _ rfl
        refine r_iinc (v := y1 + 1) C dX8_takesBack_21 1 rfl rfl (Nat.le_of_ble_eq_true rfl) rfl ?_
        refine r_goto (tgt := 2) C dX8_takesBack_24 rfl ?_
        refine r_sub [1, 0] rfl ?_
        exact ih _ _ h
  unfold S_X8_takesBack at h
  show G g p l e R s m args below meth c (QV Q) 2 0 [(0, .ref (gad g 8 0))] [] σ
  refine r_iconst C dX8_takesBack_0 ic_0 ?_
  refine r_istore_n C dX8_takesBack_1 rfl (Nat.le_of_ble_eq_true rfl) rfl ?_
  refine r_sub [1, 0] rfl ?_
  obtain ⟨n2, h⟩ := h
  refine l2 _ (fun σ3 h => ?_) n2 _ _ h
  exact r_return C dX8_takesBack_27 ⟨rfl, h⟩
def S_X8_comes (x1 : Int32) (x2 : Int32) (x3 : Int32) (x4 : Int32) (x5 : Int32) (σ : Hp) (Q : Int32 → Hp → Prop) : Prop :=
  S_X8_portAt x1 x2 σ (fun r2 σ1 => vp_in (r2 + 0) 1809 ∧ vp_in 1 7 ∧ ((¬ (gI σ1 61 0 (ix (r2 + 0))) = (gI σ1 53 0 (ix 1)) → vp_in (r2 + 0) 1809 ∧ vp_in ((r2 + 3) + (3 * (gI σ1 61 0 (ix (r2 + 0))))) 1809 ∧ ∀ σ3, σ3 = sI σ1 61 0 (ix ((r2 + 3) + (3 * (gI σ1 61 0 (ix (r2 + 0)))))) x3 → vp_in (((r2 + 3) + (3 * (gI σ1 61 0 (ix (r2 + 0))))) + 1) 1809 ∧ ∀ σ4, σ4 = sI σ3 61 0 (ix (((r2 + 3) + (3 * (gI σ1 61 0 (ix (r2 + 0))))) + 1)) x4 → vp_in (((r2 + 3) + (3 * (gI σ1 61 0 (ix (r2 + 0))))) + 2) 1809 ∧ ∀ σ5, σ5 = sI σ4 61 0 (ix (((r2 + 3) + (3 * (gI σ1 61 0 (ix (r2 + 0))))) + 2)) x5 → vp_in (r2 + 0) 1809 ∧ vp_in (r2 + 0) 1809 ∧ ∀ σ6, σ6 = sI σ5 61 0 (ix (r2 + 0)) ((gI σ5 61 0 (ix (r2 + 0))) + 1) → Q 1 σ6) ∧ ((gI σ1 61 0 (ix (r2 + 0))) = (gI σ1 53 0 (ix 1)) → vp_in ((73 + (3 * x1)) + 0) 1809 ∧ vp_in ((73 + (3 * x1)) + 0) 1809 ∧ ∀ σ7, σ7 = sI σ1 61 0 (ix ((73 + (3 * x1)) + 0)) ((gI σ1 61 0 (ix ((73 + (3 * x1)) + 0))) + 1) → Q 0 σ7)))
set_option maxHeartbeats 2000000 in
set_option maxRecDepth 20000 in
theorem ok_X8_comes (l : Launch) (g : Gm) (x1 : Int32) (x2 : Int32) (x3 : Int32) (x4 : Int32) (x5 : Int32) (σ : Hp) (Q : Int32 → Hp → Prop) (h : S_X8_comes x1 x2 x3 x4 x5 σ Q) : Ct l g yX8_comes cX8_comes 8 (some .boolean) 1 [.ref (gad g 8 0), .int x1, .int x2, .int x3, .int x4, .int x5] σ (QI Q) := by
  refine Ct.of (by decide +kernel) (Nat.le_of_ble_eq_true rfl) ?_
  intro p e R s m args below meth c C
  have C : Cx g p R s m args meth c cX8_comes 8 RX8 (some .boolean) 1 := C
  unfold S_X8_comes at h
  show G g p l e R s m args below meth c (QI Q) 8 0 [(0, .ref (gad g 8 0)), (1, .int x1), (2, .int x2), (3, .int x3), (4, .int x4), (5, .int x5)] [] σ
  refine r_iload_n C dX8_comes_0 rfl 1 rfl ?_
  refine r_iload_n C dX8_comes_1 rfl 2 rfl ?_
  refine r_callSi [] C dX8_comes_2 w_8_255 (ok_X8_portAt l g _ _ _ _ h) (Nat.le_of_ble_eq_true rfl) rfl rfl (Nat.le_of_ble_eq_true rfl) (fun r2 σ1 h => ?_)
  refine r_istore C dX8_comes_5 (Nat.le_of_ble_eq_true rfl) rfl ?_
  refine r_aload_n C dX8_comes_7 rfl 1 rfl ?_
  refine gf_8_42 C dX8_comes_8 (cn_8 (by decide)) ?_
  refine r_iload C dX8_comes_11 0 rfl ?_
  refine r_iconst C dX8_comes_13 ic_0 ?_
  refine r_iadd C dX8_comes_14 ?_
  obtain ⟨h0, h⟩ := h
  refine r_iaload C dX8_comes_15 ak_61 (cn_61 (by decide)) al_61 h0 ?_
  refine r_aload_n C dX8_comes_16 rfl 1 rfl ?_
  refine gf_8_17 C dX8_comes_17 (cn_8 (by decide)) ?_
  refine r_iconst C dX8_comes_20 ic_1 ?_
  obtain ⟨h0, h⟩ := h
  refine r_iaload C dX8_comes_21 ak_53 (cn_53 (by decide)) al_53 h0 ?_
  refine r_icmp_ne (tgt := 44) C dX8_comes_22 rfl (fun q => ?_) (fun q => ?_)
  · have h := h.1 q
    refine r_iload C dX8_comes_44 0 rfl ?_
    refine r_iconst C dX8_comes_46 ic_3 ?_
    refine r_iadd C dX8_comes_47 ?_
    refine r_iconst C dX8_comes_48 ic_3 ?_
    refine r_aload_n C dX8_comes_49 rfl 1 rfl ?_
    refine gf_8_42 C dX8_comes_50 (cn_8 (by decide)) ?_
    refine r_iload C dX8_comes_53 0 rfl ?_
    refine r_iconst C dX8_comes_55 ic_0 ?_
    refine r_iadd C dX8_comes_56 ?_
    obtain ⟨h0, h⟩ := h
    refine r_iaload C dX8_comes_57 ak_61 (cn_61 (by decide)) al_61 h0 ?_
    refine r_imul C dX8_comes_58 ?_
    refine r_iadd C dX8_comes_59 ?_
    refine r_istore C dX8_comes_60 (Nat.le_of_ble_eq_true rfl) rfl ?_
    refine r_aload_n C dX8_comes_62 rfl 2 rfl ?_
    refine gf_8_42 C dX8_comes_63 (cn_8 (by decide)) ?_
    refine r_iload C dX8_comes_66 0 rfl ?_
    refine r_iload_n C dX8_comes_68 rfl 5 rfl ?_
    obtain ⟨h0, h⟩ := h
    refine r_iastore C dX8_comes_69 ak_61 (cn_61 (by decide)) al_61 h0 ?_
    have h := h _ rfl
    refine r_aload_n C dX8_comes_70 rfl 2 rfl ?_
    refine gf_8_42 C dX8_comes_71 (cn_8 (by decide)) ?_
    refine r_iload C dX8_comes_74 0 rfl ?_
    refine r_iconst C dX8_comes_76 ic_1 ?_
    refine r_iadd C dX8_comes_77 ?_
    refine r_iload C dX8_comes_78 6 rfl ?_
    obtain ⟨h0, h⟩ := h
    refine r_iastore C dX8_comes_80 ak_61 (cn_61 (by decide)) al_61 h0 ?_
    have h := h _ rfl
    refine r_aload_n C dX8_comes_81 rfl 2 rfl ?_
    refine gf_8_42 C dX8_comes_82 (cn_8 (by decide)) ?_
    refine r_iload C dX8_comes_85 0 rfl ?_
    refine r_iconst C dX8_comes_87 ic_2 ?_
    refine r_iadd C dX8_comes_88 ?_
    refine r_iload C dX8_comes_89 7 rfl ?_
    obtain ⟨h0, h⟩ := h
    refine r_iastore C dX8_comes_91 ak_61 (cn_61 (by decide)) al_61 h0 ?_
    have h := h _ rfl
    refine r_aload_n C dX8_comes_92 rfl 2 rfl ?_
    refine gf_8_42 C dX8_comes_93 (cn_8 (by decide)) ?_
    refine r_iload C dX8_comes_96 1 rfl ?_
    refine r_iconst C dX8_comes_98 ic_0 ?_
    refine r_iadd C dX8_comes_99 ?_
    refine r_dup2 C dX8_comes_100 rfl rfl ?_
    obtain ⟨h0, h⟩ := h
    refine r_iaload C dX8_comes_101 ak_61 (cn_61 (by decide)) al_61 h0 ?_
    refine r_iconst C dX8_comes_102 ic_1 ?_
    refine r_iadd C dX8_comes_103 ?_
    obtain ⟨h0, h⟩ := h
    refine r_iastore C dX8_comes_104 ak_61 (cn_61 (by decide)) al_61 h0 ?_
    have h := h _ rfl
    refine r_iconst C dX8_comes_105 ic_1 ?_
    exact r_zreturn C dX8_comes_106 zb1.1 ⟨_, rfl, h⟩
  · have h := h.2 q
    refine r_aload_n C dX8_comes_25 rfl 1 rfl ?_
    refine gf_8_42 C dX8_comes_26 (cn_8 (by decide)) ?_
    refine r_bipush C dX8_comes_29 bi_73 ?_
    refine r_iconst C dX8_comes_31 ic_3 ?_
    refine r_iload_n C dX8_comes_32 rfl 2 rfl ?_
    refine r_imul C dX8_comes_33 ?_
    refine r_iadd C dX8_comes_34 ?_
    refine r_iconst C dX8_comes_35 ic_0 ?_
    refine r_iadd C dX8_comes_36 ?_
    refine r_dup2 C dX8_comes_37 rfl rfl ?_
    obtain ⟨h0, h⟩ := h
    refine r_iaload C dX8_comes_38 ak_61 (cn_61 (by decide)) al_61 h0 ?_
    refine r_iconst C dX8_comes_39 ic_1 ?_
    refine r_iadd C dX8_comes_40 ?_
    obtain ⟨h0, h⟩ := h
    refine r_iastore C dX8_comes_41 ak_61 (cn_61 (by decide)) al_61 h0 ?_
    have h := h _ rfl
    refine r_iconst C dX8_comes_42 ic_0 ?_
    exact r_zreturn C dX8_comes_43 zb0.1 ⟨_, rfl, h⟩
def S_X8_behind (x0 : Int32) (σ : Hp) (Q : Int32 → Hp → Prop) : Prop :=
  ((¬ x0 = 255 → Q (x0 + 1) σ) ∧ (x0 = 255 → Q 1 σ))
set_option maxHeartbeats 2000000 in
set_option maxRecDepth 20000 in
theorem ok_X8_behind (l : Launch) (g : Gm) (x0 : Int32) (σ : Hp) (Q : Int32 → Hp → Prop) (h : S_X8_behind x0 σ Q) : Ct l g yX8_behind cX8_behind 1 (some .int) 0 [.int x0] σ (QI Q) := by
  refine Ct.of (by decide +kernel) (Nat.le_of_ble_eq_true rfl) ?_
  intro p e R s m args below meth c C
  have C : Cx g p R s m args meth c cX8_behind 1 RX8 (some .int) 0 := C
  unfold S_X8_behind at h
  show G g p l e R s m args below meth c (QI Q) 1 0 [(0, .int x0)] [] σ
  refine r_iload_n C dX8_behind_0 rfl 0 rfl ?_
  refine r_sipush C dX8_behind_1 si_255 ?_
  refine r_icmp_ne (tgt := 11) C dX8_behind_4 rfl (fun q => ?_) (fun q => ?_)
  · have h := h.1 q
    refine r_iload_n C dX8_behind_11 rfl 0 rfl ?_
    refine r_iconst C dX8_behind_12 ic_1 ?_
    refine r_iadd C dX8_behind_13 ?_
    exact r_ireturn C dX8_behind_14 ⟨_, rfl, h⟩
  · have h := h.2 q
    refine r_iconst C dX8_behind_7 ic_1 ?_
    refine r_goto (tgt := 14) C dX8_behind_8 rfl ?_
    exact r_ireturn C dX8_behind_14 ⟨_, rfl, h⟩
def J_X8_isBorn_51 (Q : Int32 → Hp → Prop) (kb : Int32 → Int32 → Hp → Prop) (K59 : Int32 → Hp → Prop) (y1 : Int32) (y2 : Int32) (y4 : Int32) (z0 : Int32) (z1 : Int32) (σ : Hp) : Prop :=
  kb (z1 + z0) (y4 + 1) σ
def L_X8_isBorn_16 (Q : Int32 → Hp → Prop) (K59 : Int32 → Hp → Prop) (y1 : Int32) (y2 : Int32) : Nat → Int32 → Int32 → Hp → Prop
  | 0, _, _, _ => False
  | n + 1, y3, y4, σ =>
  (((2 : Int32) ≤ y4 → K59 y3 σ) ∧ (¬ (2 : Int32) ≤ y4 → S_X8_linkOf y1 0 σ (fun r4 σ3 => vp_in 0 1809 ∧ S_X8_comes y4 r4 y1 y2 (gI σ3 61 0 (ix 0)) σ3 (fun r6 σ5 => ((r6 = 0 → J_X8_isBorn_51 Q (L_X8_isBorn_16 Q K59 y1 y2 n) K59 y1 y2 y4 1 y3 σ5) ∧ (¬ r6 = 0 → J_X8_isBorn_51 Q (L_X8_isBorn_16 Q K59 y1 y2 n) K59 y1 y2 y4 0 y3 σ5))))))
def S_X8_isBorn (x1 : Int32) (σ : Hp) (Q : Int32 → Hp → Prop) : Prop :=
  S_X8_linkAt x1 2 σ (fun r2 σ1 => vp_in r2 1809 ∧ (∃ n7, L_X8_isBorn_16 Q (fun w9 σ8 => S_X8_linkAt x1 2 σ8 (fun r11 σ10 => S_X8_behind (gI σ1 61 0 (ix r2)) σ10 (fun r13 σ12 => vp_in r11 1809 ∧ ∀ σ14, σ14 = sI σ12 61 0 (ix r11) r13 → S_X8_linkAt x1 3 σ14 (fun r16 σ15 => vp_in r16 1809 ∧ vp_in r16 1809 ∧ ∀ σ17, σ17 = sI σ15 61 0 (ix r16) ((gI σ15 61 0 (ix r16)) + 1) → Q w9 σ17)))) x1 (gI σ1 61 0 (ix r2)) n7 0 0 σ1))
set_option maxHeartbeats 2000000 in
set_option maxRecDepth 20000 in
theorem ok_X8_isBorn (l : Launch) (g : Gm) (x1 : Int32) (σ : Hp) (Q : Int32 → Hp → Prop) (h : S_X8_isBorn x1 σ Q) : Ct l g yX8_isBorn cX8_isBorn 5 (some .int) 2 [.ref (gad g 8 0), .int x1] σ (QI Q) := by
  refine Ct.of (by decide +kernel) (Nat.le_of_ble_eq_true rfl) ?_
  intro p e R s m args below meth c C
  have C : Cx g p R s m args meth c cX8_isBorn 5 RX8 (some .int) 2 := C
  have j51 : ∀ (kb : Int32 → Int32 → Hp → Prop) (K59 : Int32 → Hp → Prop) (y1 : Int32) (y2 : Int32) (y4 : Int32) (z0 : Int32) (z1 : Int32) (hkb : ∀ (v3 : Int32) (v4 : Int32) (σ : Hp), kb v3 v4 σ → G g p l e R s m args below meth c (QI Q) 5 16 [(0, .ref (gad g 8 0)), (1, .int y1), (2, .int y2), (3, .int v3), (4, .int v4)] [] σ) (hK59 : ∀ (v3 : Int32) (σ : Hp), K59 v3 σ → G g p l e R s m args below meth c (QI Q) 5 59 [(0, .ref (gad g 8 0)), (1, .int y1), (2, .int y2), (3, .int v3)] [] σ) (σ : Hp), J_X8_isBorn_51 Q kb K59 y1 y2 y4 z0 z1 σ → G g p l e R s m args below meth c (QI Q) 5 51 [(0, .ref (gad g 8 0)), (1, .int y1), (2, .int y2), (4, .int y4)] [.int z0, .int z1] σ := by
    intro kb K59 y1 y2 y4 z0 z1 hkb hK59 σ h
    unfold J_X8_isBorn_51 at h
    refine r_iadd C dX8_isBorn_51 ?_
    refine r_istore_n C dX8_isBorn_52 rfl (Nat.le_of_ble_eq_true rfl) rfl ?_
    refine r_iinc (v := y4 + 1) C dX8_isBorn_53 4 rfl rfl (Nat.le_of_ble_eq_true rfl) rfl ?_
    refine r_goto (tgt := 16) C dX8_isBorn_56 rfl ?_
    refine r_sub [2, 3, 4, 1, 0] rfl ?_
    exact hkb _ _ _ h
  have l16 : ∀ (K59 : Int32 → Hp → Prop) (y1 : Int32) (y2 : Int32) (hK59 : ∀ (v3 : Int32) (σ : Hp), K59 v3 σ → G g p l e R s m args below meth c (QI Q) 5 59 [(0, .ref (gad g 8 0)), (1, .int y1), (2, .int y2), (3, .int v3)] [] σ) (n : Nat) (y3 : Int32) (y4 : Int32) (σ : Hp), L_X8_isBorn_16 Q K59 y1 y2 n y3 y4 σ → G g p l e R s m args below meth c (QI Q) 5 16 [(0, .ref (gad g 8 0)), (1, .int y1), (2, .int y2), (3, .int y3), (4, .int y4)] [] σ := by
    intro K59 y1 y2 hK59 n
    induction n with
    | zero => intro y3 y4 σ h; exact False.elim h
    | succ n ih =>
      intro y3 y4 σ h
      unfold L_X8_isBorn_16 at h
      refine r_iload C dX8_isBorn_16 4 rfl ?_
      refine r_iconst C dX8_isBorn_18 ic_2 ?_
      refine r_icmp_ge (tgt := 59) C dX8_isBorn_19 rfl (fun q => ?_) (fun q => ?_)
      · have h := h.1 q
        refine r_sub [0, 1, 2, 3] rfl ?_
        exact hK59 _ _ h
      · have h := h.2 q
        refine r_iload_n C dX8_isBorn_22 rfl 3 rfl ?_
        refine r_aload_n C dX8_isBorn_23 rfl 0 rfl ?_
        refine r_iload C dX8_isBorn_24 4 rfl ?_
        refine r_aload_n C dX8_isBorn_26 rfl 0 rfl ?_
        refine r_iload_n C dX8_isBorn_27 rfl 1 rfl ?_
        refine r_iconst C dX8_isBorn_28 ic_0 ?_
        refine r_callVi [.int _, .ref (gad g 8 0), .int _] C dX8_isBorn_29 w_8_221 (ok_X8_linkOf l g _ _ _ _ h) (Nat.le_of_ble_eq_true rfl) rfl rfl ak_8 (cn_8 (by decide)) rfl rfl (Nat.le_of_ble_eq_true rfl) (fun r4 σ3 h => ?_)
        refine r_iload_n C dX8_isBorn_32 rfl 1 rfl ?_
        refine r_iload_n C dX8_isBorn_33 rfl 2 rfl ?_
        refine r_aload_n C dX8_isBorn_34 rfl 0 rfl ?_
        refine gf_8_42 C dX8_isBorn_35 (cn_8 (by decide)) ?_
        refine r_iconst C dX8_isBorn_38 ic_0 ?_
        obtain ⟨h0, h⟩ := h
        refine r_iaload C dX8_isBorn_39 ak_61 (cn_61 (by decide)) al_61 h0 ?_
        refine r_callVi [.int _] C dX8_isBorn_40 w_8_258 (ok_X8_comes l g _ _ _ _ _ _ _ h) (Nat.le_of_ble_eq_true rfl) rfl rfl ak_8 (cn_8 (by decide)) rfl rfl (Nat.le_of_ble_eq_true rfl) (fun r6 σ5 h => ?_)
        refine r_if_eq (tgt := 50) C dX8_isBorn_43 rfl (fun q => ?_) (fun q => ?_)
        · have h := h.1 q
          refine r_iconst C dX8_isBorn_50 ic_1 ?_
          refine r_sub [0, 1, 2, 4] rfl ?_
          exact j51 _ _ _ _ _ _ _ ih hK59 _ h
        · have h := h.2 q
          refine r_iconst C dX8_isBorn_46 ic_0 ?_
          refine r_goto (tgt := 51) C dX8_isBorn_47 rfl ?_
          refine r_sub [0, 1, 2, 4] rfl ?_
          exact j51 _ _ _ _ _ _ _ ih hK59 _ h
  unfold S_X8_isBorn at h
  show G g p l e R s m args below meth c (QI Q) 5 0 [(0, .ref (gad g 8 0)), (1, .int x1)] [] σ
  refine r_aload_n C dX8_isBorn_0 rfl 0 rfl ?_
  refine gf_8_42 C dX8_isBorn_1 (cn_8 (by decide)) ?_
  refine r_iload_n C dX8_isBorn_4 rfl 1 rfl ?_
  refine r_iconst C dX8_isBorn_5 ic_2 ?_
  refine r_callSi [.ref (gad g 61 0)] C dX8_isBorn_6 w_8_246 (ok_X8_linkAt l g _ _ _ _ h) (Nat.le_of_ble_eq_true rfl) rfl rfl (Nat.le_of_ble_eq_true rfl) (fun r2 σ1 h => ?_)
  obtain ⟨h0, h⟩ := h
  refine r_iaload C dX8_isBorn_9 ak_61 (cn_61 (by decide)) al_61 h0 ?_
  refine r_istore_n C dX8_isBorn_10 rfl (Nat.le_of_ble_eq_true rfl) rfl ?_
  refine r_iconst C dX8_isBorn_11 ic_0 ?_
  refine r_istore_n C dX8_isBorn_12 rfl (Nat.le_of_ble_eq_true rfl) rfl ?_
  refine r_iconst C dX8_isBorn_13 ic_0 ?_
  refine r_istore C dX8_isBorn_14 (Nat.le_of_ble_eq_true rfl) rfl ?_
  refine r_sub [3, 4, 2, 1, 0] rfl ?_
  obtain ⟨n7, h⟩ := h
  refine l16 _ _ _ (fun w9 σ8 h => ?_) n7 _ _ _ h
  refine r_aload_n C dX8_isBorn_59 rfl 0 rfl ?_
  refine gf_8_42 C dX8_isBorn_60 (cn_8 (by decide)) ?_
  refine r_iload_n C dX8_isBorn_63 rfl 1 rfl ?_
  refine r_iconst C dX8_isBorn_64 ic_2 ?_
  refine r_callSi [.ref (gad g 61 0)] C dX8_isBorn_65 w_8_246 (ok_X8_linkAt l g _ _ _ _ h) (Nat.le_of_ble_eq_true rfl) rfl rfl (Nat.le_of_ble_eq_true rfl) (fun r11 σ10 h => ?_)
  refine r_iload_n C dX8_isBorn_68 rfl 2 rfl ?_
  refine r_callSi [.int _, .ref (gad g 61 0)] C dX8_isBorn_69 w_8_262 (ok_X8_behind l g _ _ _ h) (Nat.le_of_ble_eq_true rfl) rfl rfl (Nat.le_of_ble_eq_true rfl) (fun r13 σ12 h => ?_)
  obtain ⟨h0, h⟩ := h
  refine r_iastore C dX8_isBorn_72 ak_61 (cn_61 (by decide)) al_61 h0 ?_
  have h := h _ rfl
  refine r_aload_n C dX8_isBorn_73 rfl 0 rfl ?_
  refine gf_8_42 C dX8_isBorn_74 (cn_8 (by decide)) ?_
  refine r_iload_n C dX8_isBorn_77 rfl 1 rfl ?_
  refine r_iconst C dX8_isBorn_78 ic_3 ?_
  refine r_callSi [.ref (gad g 61 0)] C dX8_isBorn_79 w_8_246 (ok_X8_linkAt l g _ _ _ _ h) (Nat.le_of_ble_eq_true rfl) rfl rfl (Nat.le_of_ble_eq_true rfl) (fun r16 σ15 h => ?_)
  refine r_dup2 C dX8_isBorn_82 rfl rfl ?_
  obtain ⟨h0, h⟩ := h
  refine r_iaload C dX8_isBorn_83 ak_61 (cn_61 (by decide)) al_61 h0 ?_
  refine r_iconst C dX8_isBorn_84 ic_1 ?_
  refine r_iadd C dX8_isBorn_85 ?_
  obtain ⟨h0, h⟩ := h
  refine r_iastore C dX8_isBorn_86 ak_61 (cn_61 (by decide)) al_61 h0 ?_
  have h := h _ rfl
  refine r_iload_n C dX8_isBorn_87 rfl 3 rfl ?_
  exact r_ireturn C dX8_isBorn_88 ⟨_, rfl, h⟩
def J_X8_liesBehind_109 (Q : Int32 → Hp → Prop) (kb : Int32 → Hp → Prop) (K124 : Hp → Prop) (K116 : Hp → Prop) (y1 : Int32) (y2 : Int32) (y3 : Int32) (y4 : Int32) (z0 : Int32) (σ : Hp) : Prop :=
  ((z0 = 0 → kb (y4 + 1) σ) ∧ (¬ z0 = 0 → K116 σ))
def J_X8_liesBehind_108 (Q : Int32 → Hp → Prop) (kb : Int32 → Hp → Prop) (K124 : Hp → Prop) (K116 : Hp → Prop) (y1 : Int32) (y2 : Int32) (y3 : Int32) (y4 : Int32) (σ : Hp) : Prop :=
  J_X8_liesBehind_109 Q kb K124 K116 y1 y2 y3 y4 0 σ
def J_X8_liesBehind_86 (Q : Int32 → Hp → Prop) (kb : Int32 → Hp → Prop) (K124 : Hp → Prop) (K116 : Hp → Prop) (y1 : Int32) (y2 : Int32) (y3 : Int32) (y4 : Int32) (σ : Hp) : Prop :=
  J_X8_liesBehind_109 Q kb K124 K116 y1 y2 y3 y4 0 σ
def J_X8_liesBehind_58 (Q : Int32 → Hp → Prop) (kb : Int32 → Hp → Prop) (K124 : Hp → Prop) (K116 : Hp → Prop) (y1 : Int32) (y2 : Int32) (y3 : Int32) (y4 : Int32) (σ : Hp) : Prop :=
  J_X8_liesBehind_109 Q kb K124 K116 y1 y2 y3 y4 0 σ
def L_X8_liesBehind_3 (Q : Int32 → Hp → Prop) (K124 : Hp → Prop) (K116 : Hp → Prop) (y1 : Int32) (y2 : Int32) (y3 : Int32) : Nat → Int32 → Hp → Prop
  | 0, _, _ => False
  | n + 1, y4, σ =>
  S_X8_linkOf y1 3 σ (fun r2 σ1 => ((r2 ≤ y4 → K124 σ1) ∧ (¬ r2 ≤ y4 → S_X8_receiverOf y1 y4 σ1 (fun r4 σ3 => vp_in r4 6 ∧ (((12 : Int32) ≤ y3 → (((14 : Int32) ≤ y3 → ((¬ y2 = (y3 - 13) → J_X8_liesBehind_108 Q (L_X8_liesBehind_3 Q K124 K116 y1 y2 y3 n) K124 K116 y1 y2 y3 y4 σ3) ∧ (y2 = (y3 - 13) → ((y2 ≤ (gI σ3 55 0 (ix r4)) → J_X8_liesBehind_108 Q (L_X8_liesBehind_3 Q K124 K116 y1 y2 y3 n) K124 K116 y1 y2 y3 y4 σ3) ∧ (¬ y2 ≤ (gI σ3 55 0 (ix r4)) → J_X8_liesBehind_109 Q (L_X8_liesBehind_3 Q K124 K116 y1 y2 y3 n) K124 K116 y1 y2 y3 y4 1 σ3))))) ∧ (¬ (14 : Int32) ≤ y3 → ((¬ y2 = (y3 - 12) → J_X8_liesBehind_86 Q (L_X8_liesBehind_3 Q K124 K116 y1 y2 y3 n) K124 K116 y1 y2 y3 y4 σ3) ∧ (y2 = (y3 - 12) → (((gI σ3 55 0 (ix r4)) ≤ y2 → J_X8_liesBehind_86 Q (L_X8_liesBehind_3 Q K124 K116 y1 y2 y3 n) K124 K116 y1 y2 y3 y4 σ3) ∧ (¬ (gI σ3 55 0 (ix r4)) ≤ y2 → J_X8_liesBehind_109 Q (L_X8_liesBehind_3 Q K124 K116 y1 y2 y3 n) K124 K116 y1 y2 y3 y4 1 σ3))))))) ∧ (¬ (12 : Int32) ≤ y3 → ((¬ (gI σ3 55 0 (ix r4)) = y2 → J_X8_liesBehind_58 Q (L_X8_liesBehind_3 Q K124 K116 y1 y2 y3 n) K124 K116 y1 y2 y3 y4 σ3) ∧ ((gI σ3 55 0 (ix r4)) = y2 → S_X8_receiverOf y1 y4 σ3 (fun r6 σ5 => ((¬ r6 = (y3 - 6) → J_X8_liesBehind_58 Q (L_X8_liesBehind_3 Q K124 K116 y1 y2 y3 n) K124 K116 y1 y2 y3 y4 σ5) ∧ (r6 = (y3 - 6) → J_X8_liesBehind_109 Q (L_X8_liesBehind_3 Q K124 K116 y1 y2 y3 n) K124 K116 y1 y2 y3 y4 1 σ5)))))))))))
def S_X8_liesBehind (x1 : Int32) (x2 : Int32) (x3 : Int32) (σ : Hp) (Q : Int32 → Hp → Prop) : Prop :=
  (∃ n7, L_X8_liesBehind_3 Q (fun σ8 => Q 0 σ8) (fun σ9 => Q 1 σ9) x1 x2 x3 n7 0 σ)
set_option maxHeartbeats 2000000 in
set_option maxRecDepth 20000 in
theorem ok_X8_liesBehind (l : Launch) (g : Gm) (x1 : Int32) (x2 : Int32) (x3 : Int32) (σ : Hp) (Q : Int32 → Hp → Prop) (h : S_X8_liesBehind x1 x2 x3 σ Q) : Ct l g yX8_liesBehind cX8_liesBehind 7 (some .boolean) 2 [.ref (gad g 8 0), .int x1, .int x2, .int x3] σ (QI Q) := by
  refine Ct.of (by decide +kernel) (Nat.le_of_ble_eq_true rfl) ?_
  intro p e R s m args below meth c C
  have C : Cx g p R s m args meth c cX8_liesBehind 7 RX8 (some .boolean) 2 := C
  have j109 : ∀ (kb : Int32 → Hp → Prop) (K124 : Hp → Prop) (K116 : Hp → Prop) (y1 : Int32) (y2 : Int32) (y3 : Int32) (y4 : Int32) (z0 : Int32) (hkb : ∀ (v4 : Int32) (σ : Hp), kb v4 σ → G g p l e R s m args below meth c (QI Q) 7 3 [(0, .ref (gad g 8 0)), (1, .int y1), (2, .int y2), (3, .int y3), (4, .int v4)] [] σ) (hK124 : ∀ (σ : Hp), K124 σ → G g p l e R s m args below meth c (QI Q) 7 124 [] [] σ) (hK116 : ∀ (σ : Hp), K116 σ → G g p l e R s m args below meth c (QI Q) 7 116 [] [] σ) (σ : Hp), J_X8_liesBehind_109 Q kb K124 K116 y1 y2 y3 y4 z0 σ → G g p l e R s m args below meth c (QI Q) 7 109 [(0, .ref (gad g 8 0)), (1, .int y1), (2, .int y2), (3, .int y3), (4, .int y4)] [.int z0] σ := by
    intro kb K124 K116 y1 y2 y3 y4 z0 hkb hK124 hK116 σ h
    unfold J_X8_liesBehind_109 at h
    refine r_istore C dX8_liesBehind_109 (Nat.le_of_ble_eq_true rfl) rfl ?_
    refine r_iload C dX8_liesBehind_111 0 rfl ?_
    refine r_if_eq (tgt := 118) C dX8_liesBehind_113 rfl (fun q => ?_) (fun q => ?_)
    · have h := h.1 q
      refine r_iinc (v := y4 + 1) C dX8_liesBehind_118 5 rfl rfl (Nat.le_of_ble_eq_true rfl) rfl ?_
      refine r_goto (tgt := 3) C dX8_liesBehind_121 rfl ?_
      refine r_sub [2, 3, 4, 5, 0] rfl ?_
      exact hkb _ _ h
    · have h := h.2 q
      refine r_sub [] rfl ?_
      exact hK116 _ h
  have j108 : ∀ (kb : Int32 → Hp → Prop) (K124 : Hp → Prop) (K116 : Hp → Prop) (y1 : Int32) (y2 : Int32) (y3 : Int32) (y4 : Int32) (hkb : ∀ (v4 : Int32) (σ : Hp), kb v4 σ → G g p l e R s m args below meth c (QI Q) 7 3 [(0, .ref (gad g 8 0)), (1, .int y1), (2, .int y2), (3, .int y3), (4, .int v4)] [] σ) (hK124 : ∀ (σ : Hp), K124 σ → G g p l e R s m args below meth c (QI Q) 7 124 [] [] σ) (hK116 : ∀ (σ : Hp), K116 σ → G g p l e R s m args below meth c (QI Q) 7 116 [] [] σ) (σ : Hp), J_X8_liesBehind_108 Q kb K124 K116 y1 y2 y3 y4 σ → G g p l e R s m args below meth c (QI Q) 7 108 [(0, .ref (gad g 8 0)), (1, .int y1), (2, .int y2), (3, .int y3), (4, .int y4)] [] σ := by
    intro kb K124 K116 y1 y2 y3 y4 hkb hK124 hK116 σ h
    unfold J_X8_liesBehind_108 at h
    refine r_iconst C dX8_liesBehind_108 ic_0 ?_
    exact j109 _ _ _ _ _ _ _ _ hkb hK124 hK116 _ h
  have j86 : ∀ (kb : Int32 → Hp → Prop) (K124 : Hp → Prop) (K116 : Hp → Prop) (y1 : Int32) (y2 : Int32) (y3 : Int32) (y4 : Int32) (hkb : ∀ (v4 : Int32) (σ : Hp), kb v4 σ → G g p l e R s m args below meth c (QI Q) 7 3 [(0, .ref (gad g 8 0)), (1, .int y1), (2, .int y2), (3, .int y3), (4, .int v4)] [] σ) (hK124 : ∀ (σ : Hp), K124 σ → G g p l e R s m args below meth c (QI Q) 7 124 [] [] σ) (hK116 : ∀ (σ : Hp), K116 σ → G g p l e R s m args below meth c (QI Q) 7 116 [] [] σ) (σ : Hp), J_X8_liesBehind_86 Q kb K124 K116 y1 y2 y3 y4 σ → G g p l e R s m args below meth c (QI Q) 7 86 [(0, .ref (gad g 8 0)), (1, .int y1), (2, .int y2), (3, .int y3), (4, .int y4)] [] σ := by
    intro kb K124 K116 y1 y2 y3 y4 hkb hK124 hK116 σ h
    unfold J_X8_liesBehind_86 at h
    refine r_iconst C dX8_liesBehind_86 ic_0 ?_
    refine r_goto (tgt := 109) C dX8_liesBehind_87 rfl ?_
    exact j109 _ _ _ _ _ _ _ _ hkb hK124 hK116 _ h
  have j58 : ∀ (kb : Int32 → Hp → Prop) (K124 : Hp → Prop) (K116 : Hp → Prop) (y1 : Int32) (y2 : Int32) (y3 : Int32) (y4 : Int32) (hkb : ∀ (v4 : Int32) (σ : Hp), kb v4 σ → G g p l e R s m args below meth c (QI Q) 7 3 [(0, .ref (gad g 8 0)), (1, .int y1), (2, .int y2), (3, .int y3), (4, .int v4)] [] σ) (hK124 : ∀ (σ : Hp), K124 σ → G g p l e R s m args below meth c (QI Q) 7 124 [] [] σ) (hK116 : ∀ (σ : Hp), K116 σ → G g p l e R s m args below meth c (QI Q) 7 116 [] [] σ) (σ : Hp), J_X8_liesBehind_58 Q kb K124 K116 y1 y2 y3 y4 σ → G g p l e R s m args below meth c (QI Q) 7 58 [(0, .ref (gad g 8 0)), (1, .int y1), (2, .int y2), (3, .int y3), (4, .int y4)] [] σ := by
    intro kb K124 K116 y1 y2 y3 y4 hkb hK124 hK116 σ h
    unfold J_X8_liesBehind_58 at h
    refine r_iconst C dX8_liesBehind_58 ic_0 ?_
    refine r_goto (tgt := 109) C dX8_liesBehind_59 rfl ?_
    exact j109 _ _ _ _ _ _ _ _ hkb hK124 hK116 _ h
  have l3 : ∀ (K124 : Hp → Prop) (K116 : Hp → Prop) (y1 : Int32) (y2 : Int32) (y3 : Int32) (hK124 : ∀ (σ : Hp), K124 σ → G g p l e R s m args below meth c (QI Q) 7 124 [] [] σ) (hK116 : ∀ (σ : Hp), K116 σ → G g p l e R s m args below meth c (QI Q) 7 116 [] [] σ) (n : Nat) (y4 : Int32) (σ : Hp), L_X8_liesBehind_3 Q K124 K116 y1 y2 y3 n y4 σ → G g p l e R s m args below meth c (QI Q) 7 3 [(0, .ref (gad g 8 0)), (1, .int y1), (2, .int y2), (3, .int y3), (4, .int y4)] [] σ := by
    intro K124 K116 y1 y2 y3 hK124 hK116 n
    induction n with
    | zero => intro y4 σ h; exact False.elim h
    | succ n ih =>
      intro y4 σ h
      unfold L_X8_liesBehind_3 at h
      refine r_iload C dX8_liesBehind_3 4 rfl ?_
      refine r_aload_n C dX8_liesBehind_5 rfl 0 rfl ?_
      refine r_iload_n C dX8_liesBehind_6 rfl 1 rfl ?_
      refine r_iconst C dX8_liesBehind_7 ic_3 ?_
      refine r_callVi [.int _] C dX8_liesBehind_8 w_8_221 (ok_X8_linkOf l g _ _ _ _ h) (Nat.le_of_ble_eq_true rfl) rfl rfl ak_8 (cn_8 (by decide)) rfl rfl (Nat.le_of_ble_eq_true rfl) (fun r2 σ1 h => ?_)
      refine r_icmp_ge (tgt := 124) C dX8_liesBehind_11 rfl (fun q => ?_) (fun q => ?_)
      · have h := h.1 q
        refine r_sub [] rfl ?_
        exact hK124 _ h
      · have h := h.2 q
        refine r_aload_n C dX8_liesBehind_14 rfl 0 rfl ?_
        refine gf_8_23 C dX8_liesBehind_15 (cn_8 (by decide)) ?_
        refine r_aload_n C dX8_liesBehind_18 rfl 0 rfl ?_
        refine r_iload_n C dX8_liesBehind_19 rfl 1 rfl ?_
        refine r_iload C dX8_liesBehind_20 4 rfl ?_
        refine r_callVi [.ref (gad g 55 0)] C dX8_liesBehind_22 w_8_230 (ok_X8_receiverOf l g _ _ _ _ h) (Nat.le_of_ble_eq_true rfl) rfl rfl ak_8 (cn_8 (by decide)) rfl rfl (Nat.le_of_ble_eq_true rfl) (fun r4 σ3 h => ?_)
        obtain ⟨h0, h⟩ := h
        refine r_iaload C dX8_liesBehind_25 ak_55 (cn_55 (by decide)) al_55 h0 ?_
        refine r_istore C dX8_liesBehind_26 (Nat.le_of_ble_eq_true rfl) rfl ?_
        refine r_iload_n C dX8_liesBehind_28 rfl 4 rfl ?_
        refine r_bipush C dX8_liesBehind_29 bi_12 ?_
        refine r_icmp_ge (tgt := 62) C dX8_liesBehind_31 rfl (fun q => ?_) (fun q => ?_)
        · have h := h.1 q
          refine r_iload_n C dX8_liesBehind_62 rfl 4 rfl ?_
          refine r_bipush C dX8_liesBehind_63 bi_14 ?_
          refine r_icmp_ge (tgt := 90) C dX8_liesBehind_65 rfl (fun q => ?_) (fun q => ?_)
          · have h := h.1 q
            refine r_iload_n C dX8_liesBehind_90 rfl 3 rfl ?_
            refine r_iload_n C dX8_liesBehind_91 rfl 4 rfl ?_
            refine r_bipush C dX8_liesBehind_92 bi_13 ?_
            refine r_isub C dX8_liesBehind_94 ?_
            refine r_icmp_ne (tgt := 108) C dX8_liesBehind_95 rfl (fun q => ?_) (fun q => ?_)
            · have h := h.1 q
              refine r_sub [1, 2, 3, 4, 5] rfl ?_
              exact j108 _ _ _ _ _ _ _ ih hK124 hK116 _ h
            · have h := h.2 q
              refine r_iload C dX8_liesBehind_98 0 rfl ?_
              refine r_iload_n C dX8_liesBehind_100 rfl 3 rfl ?_
              refine r_icmp_ge (tgt := 108) C dX8_liesBehind_101 rfl (fun q => ?_) (fun q => ?_)
              · have h := h.1 q
                refine r_sub [1, 2, 3, 4, 5] rfl ?_
                exact j108 _ _ _ _ _ _ _ ih hK124 hK116 _ h
              · have h := h.2 q
                refine r_iconst C dX8_liesBehind_104 ic_1 ?_
                refine r_goto (tgt := 109) C dX8_liesBehind_105 rfl ?_
                refine r_sub [1, 2, 3, 4, 5] rfl ?_
                exact j109 _ _ _ _ _ _ _ _ ih hK124 hK116 _ h
          · have h := h.2 q
            refine r_iload_n C dX8_liesBehind_68 rfl 3 rfl ?_
            refine r_iload_n C dX8_liesBehind_69 rfl 4 rfl ?_
            refine r_bipush C dX8_liesBehind_70 bi_12 ?_
            refine r_isub C dX8_liesBehind_72 ?_
            refine r_icmp_ne (tgt := 86) C dX8_liesBehind_73 rfl (fun q => ?_) (fun q => ?_)
            · have h := h.1 q
              refine r_sub [1, 2, 3, 4, 5] rfl ?_
              exact j86 _ _ _ _ _ _ _ ih hK124 hK116 _ h
            · have h := h.2 q
              refine r_iload C dX8_liesBehind_76 0 rfl ?_
              refine r_iload_n C dX8_liesBehind_78 rfl 3 rfl ?_
              refine r_icmp_le (tgt := 86) C dX8_liesBehind_79 rfl (fun q => ?_) (fun q => ?_)
              · have h := h.1 q
                refine r_sub [1, 2, 3, 4, 5] rfl ?_
                exact j86 _ _ _ _ _ _ _ ih hK124 hK116 _ h
              · have h := h.2 q
                refine r_iconst C dX8_liesBehind_82 ic_1 ?_
                refine r_goto (tgt := 109) C dX8_liesBehind_83 rfl ?_
                refine r_sub [1, 2, 3, 4, 5] rfl ?_
                exact j109 _ _ _ _ _ _ _ _ ih hK124 hK116 _ h
        · have h := h.2 q
          refine r_iload C dX8_liesBehind_34 0 rfl ?_
          refine r_iload_n C dX8_liesBehind_36 rfl 3 rfl ?_
          refine r_icmp_ne (tgt := 58) C dX8_liesBehind_37 rfl (fun q => ?_) (fun q => ?_)
          · have h := h.1 q
            refine r_sub [1, 2, 3, 4, 5] rfl ?_
            exact j58 _ _ _ _ _ _ _ ih hK124 hK116 _ h
          · have h := h.2 q
            refine r_aload_n C dX8_liesBehind_40 rfl 1 rfl ?_
            refine r_iload_n C dX8_liesBehind_41 rfl 2 rfl ?_
            refine r_iload C dX8_liesBehind_42 5 rfl ?_
            refine r_callVi [] C dX8_liesBehind_44 w_8_230 (ok_X8_receiverOf l g _ _ _ _ h) (Nat.le_of_ble_eq_true rfl) rfl rfl ak_8 (cn_8 (by decide)) rfl rfl (Nat.le_of_ble_eq_true rfl) (fun r6 σ5 h => ?_)
            refine r_iload_n C dX8_liesBehind_47 rfl 4 rfl ?_
            refine r_bipush C dX8_liesBehind_48 bi_6 ?_
            refine r_isub C dX8_liesBehind_50 ?_
            refine r_icmp_ne (tgt := 58) C dX8_liesBehind_51 rfl (fun q => ?_) (fun q => ?_)
            · have h := h.1 q
              refine r_sub [1, 2, 3, 4, 5] rfl ?_
              exact j58 _ _ _ _ _ _ _ ih hK124 hK116 _ h
            · have h := h.2 q
              refine r_iconst C dX8_liesBehind_54 ic_1 ?_
              refine r_goto (tgt := 109) C dX8_liesBehind_55 rfl ?_
              refine r_sub [1, 2, 3, 4, 5] rfl ?_
              exact j109 _ _ _ _ _ _ _ _ ih hK124 hK116 _ h
  unfold S_X8_liesBehind at h
  show G g p l e R s m args below meth c (QI Q) 7 0 [(0, .ref (gad g 8 0)), (1, .int x1), (2, .int x2), (3, .int x3)] [] σ
  refine r_iconst C dX8_liesBehind_0 ic_0 ?_
  refine r_istore C dX8_liesBehind_1 (Nat.le_of_ble_eq_true rfl) rfl ?_
  refine r_sub [1, 2, 3, 4, 0] rfl ?_
  obtain ⟨n7, h⟩ := h
  refine l3 _ _ _ _ _ (fun σ8 h => ?_) (fun σ9 h => ?_) n7 _ _ h
  · refine r_iconst C dX8_liesBehind_124 ic_0 ?_
    exact r_zreturn C dX8_liesBehind_125 zb0.1 ⟨_, rfl, h⟩
  · refine r_iconst C dX8_liesBehind_116 ic_1 ?_
    exact r_zreturn C dX8_liesBehind_117 zb1.1 ⟨_, rfl, h⟩
def S_X8_switchBehind (x1 : Int32) (σ : Hp) (Q : Int32 → Hp → Prop) : Prop :=
  (((6 : Int32) ≤ x1 → (((14 : Int32) ≤ x1 → Q (x1 - 14) σ) ∧ (¬ (14 : Int32) ≤ x1 → Q (x1 - 11) σ))) ∧ (¬ (6 : Int32) ≤ x1 → vp_in x1 6 ∧ Q (gI σ 55 0 (ix x1)) σ))
set_option maxHeartbeats 2000000 in
set_option maxRecDepth 20000 in
theorem ok_X8_switchBehind (l : Launch) (g : Gm) (x1 : Int32) (σ : Hp) (Q : Int32 → Hp → Prop) (h : S_X8_switchBehind x1 σ Q) : Ct l g yX8_switchBehind cX8_switchBehind 2 (some .int) 0 [.ref (gad g 8 0), .int x1] σ (QI Q) := by
  refine Ct.of (by decide +kernel) (Nat.le_of_ble_eq_true rfl) ?_
  intro p e R s m args below meth c C
  have C : Cx g p R s m args meth c cX8_switchBehind 2 RX8 (some .int) 0 := C
  unfold S_X8_switchBehind at h
  show G g p l e R s m args below meth c (QI Q) 2 0 [(0, .ref (gad g 8 0)), (1, .int x1)] [] σ
  refine r_iload_n C dX8_switchBehind_0 rfl 1 rfl ?_
  refine r_bipush C dX8_switchBehind_1 bi_6 ?_
  refine r_icmp_ge (tgt := 15) C dX8_switchBehind_3 rfl (fun q => ?_) (fun q => ?_)
  · have h := h.1 q
    refine r_iload_n C dX8_switchBehind_15 rfl 1 rfl ?_
    refine r_bipush C dX8_switchBehind_16 bi_14 ?_
    refine r_icmp_ge (tgt := 28) C dX8_switchBehind_18 rfl (fun q => ?_) (fun q => ?_)
    · have h := h.1 q
      refine r_iload_n C dX8_switchBehind_28 rfl 1 rfl ?_
      refine r_bipush C dX8_switchBehind_29 bi_14 ?_
      refine r_isub C dX8_switchBehind_31 ?_
      exact r_ireturn C dX8_switchBehind_32 ⟨_, rfl, h⟩
    · have h := h.2 q
      refine r_iload_n C dX8_switchBehind_21 rfl 1 rfl ?_
      refine r_bipush C dX8_switchBehind_22 bi_11 ?_
      refine r_isub C dX8_switchBehind_24 ?_
      refine r_goto (tgt := 32) C dX8_switchBehind_25 rfl ?_
      exact r_ireturn C dX8_switchBehind_32 ⟨_, rfl, h⟩
  · have h := h.2 q
    refine r_aload_n C dX8_switchBehind_6 rfl 0 rfl ?_
    refine gf_8_23 C dX8_switchBehind_7 (cn_8 (by decide)) ?_
    refine r_iload_n C dX8_switchBehind_10 rfl 1 rfl ?_
    obtain ⟨h0, h⟩ := h
    refine r_iaload C dX8_switchBehind_11 ak_55 (cn_55 (by decide)) al_55 h0 ?_
    refine r_goto (tgt := 32) C dX8_switchBehind_12 rfl ?_
    exact r_ireturn C dX8_switchBehind_32 ⟨_, rfl, h⟩
def J_X8_arrivesAtSwitch_217 (Q : Hp → Prop) (kb : Int32 → Hp → Prop) (K223 : Hp → Prop) (y1 : Int32) (y2 : Int32) (y3 : Int32) (y4 : Int32) (y5 : Int32) (y6 : Int32) (y7 : Int32) (σ : Hp) : Prop :=
  kb (y7 + 1) σ
def J_X8_arrivesAtSwitch_185 (Q : Hp → Prop) (kb : Int32 → Hp → Prop) (K223 : Hp → Prop) (y1 : Int32) (y2 : Int32) (y3 : Int32) (y4 : Int32) (y5 : Int32) (y6 : Int32) (y7 : Int32) (z0 : Int32) (σ : Hp) : Prop :=
  ((¬ z0 = 0 → J_X8_arrivesAtSwitch_217 Q kb K223 y1 y2 y3 y4 y5 y6 y7 σ) ∧ (z0 = 0 → S_X8_liesBehind y3 y6 y7 σ (fun r4 σ3 => ((r4 = 0 → J_X8_arrivesAtSwitch_217 Q kb K223 y1 y2 y3 y4 y5 y6 y7 σ3) ∧ (¬ r4 = 0 → S_X8_comes y1 y7 y3 y4 y5 σ3 (fun r6 σ5 => J_X8_arrivesAtSwitch_217 Q kb K223 y1 y2 y3 y4 y5 y6 y7 σ5))))))
def J_X8_arrivesAtSwitch_184 (Q : Hp → Prop) (kb : Int32 → Hp → Prop) (K223 : Hp → Prop) (y1 : Int32) (y2 : Int32) (y3 : Int32) (y4 : Int32) (y5 : Int32) (y6 : Int32) (y7 : Int32) (σ : Hp) : Prop :=
  J_X8_arrivesAtSwitch_185 Q kb K223 y1 y2 y3 y4 y5 y6 y7 0 σ
def J_X8_arrivesAtSwitch_177 (Q : Hp → Prop) (kb : Int32 → Hp → Prop) (K223 : Hp → Prop) (y1 : Int32) (y2 : Int32) (y3 : Int32) (y4 : Int32) (y5 : Int32) (y6 : Int32) (y7 : Int32) (z0 : Int32) (z1 : Int32) (σ : Hp) : Prop :=
  ((z1 = z0 → J_X8_arrivesAtSwitch_184 Q kb K223 y1 y2 y3 y4 y5 y6 y7 σ) ∧ (¬ z1 = z0 → J_X8_arrivesAtSwitch_185 Q kb K223 y1 y2 y3 y4 y5 y6 y7 1 σ))
def J_X8_arrivesAtSwitch_166 (Q : Hp → Prop) (kb : Int32 → Hp → Prop) (K223 : Hp → Prop) (y1 : Int32) (y2 : Int32) (y3 : Int32) (y4 : Int32) (y5 : Int32) (y6 : Int32) (y7 : Int32) (z0 : Int32) (σ : Hp) : Prop :=
  (((14 : Int32) ≤ y2 → J_X8_arrivesAtSwitch_177 Q kb K223 y1 y2 y3 y4 y5 y6 y7 0 z0 σ) ∧ (¬ (14 : Int32) ≤ y2 → J_X8_arrivesAtSwitch_177 Q kb K223 y1 y2 y3 y4 y5 y6 y7 1 z0 σ))
def L_X8_arrivesAtSwitch_134 (Q : Hp → Prop) (K223 : Hp → Prop) (y1 : Int32) (y2 : Int32) (y3 : Int32) (y4 : Int32) (y5 : Int32) (y6 : Int32) : Nat → Int32 → Hp → Prop
  | 0, _, _ => False
  | n + 1, y7, σ =>
  (((16 : Int32) ≤ y7 → K223 σ) ∧ (¬ (16 : Int32) ≤ y7 → ((y2 < 12 → J_X8_arrivesAtSwitch_184 Q (L_X8_arrivesAtSwitch_134 Q K223 y1 y2 y3 y4 y5 y6 n) K223 y1 y2 y3 y4 y5 y6 y7 σ) ∧ (¬ y2 < 12 → ((y7 < 12 → J_X8_arrivesAtSwitch_184 Q (L_X8_arrivesAtSwitch_134 Q K223 y1 y2 y3 y4 y5 y6 n) K223 y1 y2 y3 y4 y5 y6 y7 σ) ∧ (¬ y7 < 12 → (((14 : Int32) ≤ y7 → J_X8_arrivesAtSwitch_166 Q (L_X8_arrivesAtSwitch_134 Q K223 y1 y2 y3 y4 y5 y6 n) K223 y1 y2 y3 y4 y5 y6 y7 0 σ) ∧ (¬ (14 : Int32) ≤ y7 → J_X8_arrivesAtSwitch_166 Q (L_X8_arrivesAtSwitch_134 Q K223 y1 y2 y3 y4 y5 y6 n) K223 y1 y2 y3 y4 y5 y6 y7 1 σ))))))))
def J_X8_arrivesAtSwitch_123 (Q : Hp → Prop) (y1 : Int32) (y2 : Int32) (y3 : Int32) (y4 : Int32) (y5 : Int32) (σ : Hp) : Prop :=
  S_X8_switchBehind y2 σ (fun r2 σ1 => (∃ n7, L_X8_arrivesAtSwitch_134 Q (fun σ8 => Q σ8) y1 y2 y3 y4 y5 r2 n7 6 σ1))
def S_X8_arrivesAtSwitch (x1 : Int32) (x2 : Int32) (x3 : Int32) (x4 : Int32) (x5 : Int32) (σ : Hp) (Q : Hp → Prop) : Prop :=
  vp_in (79 + x1) 1809 ∧ ((¬ (gI σ 61 0 (ix (79 + x1))) = 1 → (((6 : Int32) ≤ x2 → J_X8_arrivesAtSwitch_123 Q x1 x2 x3 x4 x5 σ) ∧ (¬ (6 : Int32) ≤ x2 → S_X8_linkOf x3 2 σ (fun r10 σ9 => S_X8_linkOf x3 1 σ9 (fun r12 σ11 => vp_in ((41 + (8 * x1)) + x3) 1809 ∧ (((r10 * r12) ≤ (gI σ11 61 0 (ix ((41 + (8 * x1)) + x3))) → vp_in ((41 + (8 * x1)) + x3) 1809 ∧ vp_in ((41 + (8 * x1)) + x3) 1809 ∧ ∀ σ13, σ13 = sI σ11 61 0 (ix ((41 + (8 * x1)) + x3)) ((gI σ11 61 0 (ix ((41 + (8 * x1)) + x3))) - (r10 * r12)) → J_X8_arrivesAtSwitch_123 Q x1 x2 x3 x4 x5 σ13) ∧ (¬ (r10 * r12) ≤ (gI σ11 61 0 (ix ((41 + (8 * x1)) + x3))) → vp_in ((73 + (3 * x1)) + 2) 1809 ∧ vp_in ((73 + (3 * x1)) + 2) 1809 ∧ ∀ σ14, σ14 = sI σ11 61 0 (ix ((73 + (3 * x1)) + 2)) ((gI σ11 61 0 (ix ((73 + (3 * x1)) + 2))) + 1) → vp_in ((57 + (8 * x1)) + x3) 1809 ∧ vp_in ((57 + (8 * x1)) + x3) 1809 ∧ ∀ σ15, σ15 = sI σ14 61 0 (ix ((57 + (8 * x1)) + x3)) ((gI σ14 61 0 (ix ((57 + (8 * x1)) + x3))) + 1) → Q σ15))))))) ∧ ((gI σ 61 0 (ix (79 + x1))) = 1 → vp_in ((73 + (3 * x1)) + 1) 1809 ∧ vp_in ((73 + (3 * x1)) + 1) 1809 ∧ ∀ σ16, σ16 = sI σ 61 0 (ix ((73 + (3 * x1)) + 1)) ((gI σ 61 0 (ix ((73 + (3 * x1)) + 1))) + 1) → Q σ16))
set_option maxHeartbeats 2000000 in
set_option maxRecDepth 20000 in
theorem ok_X8_arrivesAtSwitch (l : Launch) (g : Gm) (x1 : Int32) (x2 : Int32) (x3 : Int32) (x4 : Int32) (x5 : Int32) (σ : Hp) (Q : Hp → Prop) (h : S_X8_arrivesAtSwitch x1 x2 x3 x4 x5 σ Q) : Ct l g yX8_arrivesAtSwitch cX8_arrivesAtSwitch 9 none 3 [.ref (gad g 8 0), .int x1, .int x2, .int x3, .int x4, .int x5] σ (QV Q) := by
  refine Ct.of (by decide +kernel) (Nat.le_of_ble_eq_true rfl) ?_
  intro p e R s m args below meth c C
  have C : Cx g p R s m args meth c cX8_arrivesAtSwitch 9 RX8 none 3 := C
  have j217 : ∀ (kb : Int32 → Hp → Prop) (K223 : Hp → Prop) (y1 : Int32) (y2 : Int32) (y3 : Int32) (y4 : Int32) (y5 : Int32) (y6 : Int32) (y7 : Int32) (hkb : ∀ (v7 : Int32) (σ : Hp), kb v7 σ → G g p l e R s m args below meth c (QV Q) 9 134 [(0, .ref (gad g 8 0)), (1, .int y1), (2, .int y2), (3, .int y3), (4, .int y4), (5, .int y5), (6, .int y6), (7, .int v7)] [] σ) (hK223 : ∀ (σ : Hp), K223 σ → G g p l e R s m args below meth c (QV Q) 9 223 [] [] σ) (σ : Hp), J_X8_arrivesAtSwitch_217 Q kb K223 y1 y2 y3 y4 y5 y6 y7 σ → G g p l e R s m args below meth c (QV Q) 9 217 [(0, .ref (gad g 8 0)), (1, .int y1), (2, .int y2), (3, .int y3), (4, .int y4), (5, .int y5), (6, .int y6), (7, .int y7)] [] σ := by
    intro kb K223 y1 y2 y3 y4 y5 y6 y7 hkb hK223 σ h
    unfold J_X8_arrivesAtSwitch_217 at h
    refine r_iinc (v := y7 + 1) C dX8_arrivesAtSwitch_217 7 rfl rfl (Nat.le_of_ble_eq_true rfl) rfl ?_
    refine r_goto (tgt := 134) C dX8_arrivesAtSwitch_220 rfl ?_
    refine r_sub [1, 2, 3, 4, 5, 6, 7, 0] rfl ?_
    exact hkb _ _ h
  have j185 : ∀ (kb : Int32 → Hp → Prop) (K223 : Hp → Prop) (y1 : Int32) (y2 : Int32) (y3 : Int32) (y4 : Int32) (y5 : Int32) (y6 : Int32) (y7 : Int32) (z0 : Int32) (hkb : ∀ (v7 : Int32) (σ : Hp), kb v7 σ → G g p l e R s m args below meth c (QV Q) 9 134 [(0, .ref (gad g 8 0)), (1, .int y1), (2, .int y2), (3, .int y3), (4, .int y4), (5, .int y5), (6, .int y6), (7, .int v7)] [] σ) (hK223 : ∀ (σ : Hp), K223 σ → G g p l e R s m args below meth c (QV Q) 9 223 [] [] σ) (σ : Hp), J_X8_arrivesAtSwitch_185 Q kb K223 y1 y2 y3 y4 y5 y6 y7 z0 σ → G g p l e R s m args below meth c (QV Q) 9 185 [(0, .ref (gad g 8 0)), (1, .int y1), (2, .int y2), (3, .int y3), (4, .int y4), (5, .int y5), (6, .int y6), (7, .int y7)] [.int z0] σ := by
    intro kb K223 y1 y2 y3 y4 y5 y6 y7 z0 hkb hK223 σ h
    unfold J_X8_arrivesAtSwitch_185 at h
    refine r_istore C dX8_arrivesAtSwitch_185 (Nat.le_of_ble_eq_true rfl) rfl ?_
    refine r_iload C dX8_arrivesAtSwitch_187 0 rfl ?_
    refine r_if_ne (tgt := 217) C dX8_arrivesAtSwitch_189 rfl (fun q => ?_) (fun q => ?_)
    · have h := h.1 q
      refine r_sub [1, 2, 3, 4, 5, 6, 7, 8] rfl ?_
      exact j217 _ _ _ _ _ _ _ _ _ hkb hK223 _ h
    · have h := h.2 q
      refine r_aload_n C dX8_arrivesAtSwitch_192 rfl 1 rfl ?_
      refine r_iload_n C dX8_arrivesAtSwitch_193 rfl 4 rfl ?_
      refine r_iload C dX8_arrivesAtSwitch_194 7 rfl ?_
      refine r_iload C dX8_arrivesAtSwitch_196 8 rfl ?_
      refine r_callVi [] C dX8_arrivesAtSwitch_198 w_8_268 (ok_X8_liesBehind l g _ _ _ _ _ h) (Nat.le_of_ble_eq_true rfl) rfl rfl ak_8 (cn_8 (by decide)) rfl rfl (Nat.le_of_ble_eq_true rfl) (fun r4 σ3 h => ?_)
      refine r_if_eq (tgt := 217) C dX8_arrivesAtSwitch_201 rfl (fun q => ?_) (fun q => ?_)
      · have h := h.1 q
        refine r_sub [1, 2, 3, 4, 5, 6, 7, 8] rfl ?_
        exact j217 _ _ _ _ _ _ _ _ _ hkb hK223 _ h
      · have h := h.2 q
        refine r_aload_n C dX8_arrivesAtSwitch_204 rfl 1 rfl ?_
        refine r_iload_n C dX8_arrivesAtSwitch_205 rfl 2 rfl ?_
        refine r_iload C dX8_arrivesAtSwitch_206 8 rfl ?_
        refine r_iload_n C dX8_arrivesAtSwitch_208 rfl 4 rfl ?_
        refine r_iload C dX8_arrivesAtSwitch_209 5 rfl ?_
        refine r_iload C dX8_arrivesAtSwitch_211 6 rfl ?_
        refine r_callVi [] C dX8_arrivesAtSwitch_213 w_8_258 (ok_X8_comes l g _ _ _ _ _ _ _ h) (Nat.le_of_ble_eq_true rfl) rfl rfl ak_8 (cn_8 (by decide)) rfl rfl (Nat.le_of_ble_eq_true rfl) (fun r6 σ5 h => ?_)
        refine r_pop C dX8_arrivesAtSwitch_216 rfl ?_
        refine r_sub [1, 2, 3, 4, 5, 6, 7, 8] rfl ?_
        exact j217 _ _ _ _ _ _ _ _ _ hkb hK223 _ h
  have j184 : ∀ (kb : Int32 → Hp → Prop) (K223 : Hp → Prop) (y1 : Int32) (y2 : Int32) (y3 : Int32) (y4 : Int32) (y5 : Int32) (y6 : Int32) (y7 : Int32) (hkb : ∀ (v7 : Int32) (σ : Hp), kb v7 σ → G g p l e R s m args below meth c (QV Q) 9 134 [(0, .ref (gad g 8 0)), (1, .int y1), (2, .int y2), (3, .int y3), (4, .int y4), (5, .int y5), (6, .int y6), (7, .int v7)] [] σ) (hK223 : ∀ (σ : Hp), K223 σ → G g p l e R s m args below meth c (QV Q) 9 223 [] [] σ) (σ : Hp), J_X8_arrivesAtSwitch_184 Q kb K223 y1 y2 y3 y4 y5 y6 y7 σ → G g p l e R s m args below meth c (QV Q) 9 184 [(0, .ref (gad g 8 0)), (1, .int y1), (2, .int y2), (3, .int y3), (4, .int y4), (5, .int y5), (6, .int y6), (7, .int y7)] [] σ := by
    intro kb K223 y1 y2 y3 y4 y5 y6 y7 hkb hK223 σ h
    unfold J_X8_arrivesAtSwitch_184 at h
    refine r_iconst C dX8_arrivesAtSwitch_184 ic_0 ?_
    exact j185 _ _ _ _ _ _ _ _ _ _ hkb hK223 _ h
  have j177 : ∀ (kb : Int32 → Hp → Prop) (K223 : Hp → Prop) (y1 : Int32) (y2 : Int32) (y3 : Int32) (y4 : Int32) (y5 : Int32) (y6 : Int32) (y7 : Int32) (z0 : Int32) (z1 : Int32) (hkb : ∀ (v7 : Int32) (σ : Hp), kb v7 σ → G g p l e R s m args below meth c (QV Q) 9 134 [(0, .ref (gad g 8 0)), (1, .int y1), (2, .int y2), (3, .int y3), (4, .int y4), (5, .int y5), (6, .int y6), (7, .int v7)] [] σ) (hK223 : ∀ (σ : Hp), K223 σ → G g p l e R s m args below meth c (QV Q) 9 223 [] [] σ) (σ : Hp), J_X8_arrivesAtSwitch_177 Q kb K223 y1 y2 y3 y4 y5 y6 y7 z0 z1 σ → G g p l e R s m args below meth c (QV Q) 9 177 [(0, .ref (gad g 8 0)), (1, .int y1), (2, .int y2), (3, .int y3), (4, .int y4), (5, .int y5), (6, .int y6), (7, .int y7)] [.int z0, .int z1] σ := by
    intro kb K223 y1 y2 y3 y4 y5 y6 y7 z0 z1 hkb hK223 σ h
    unfold J_X8_arrivesAtSwitch_177 at h
    refine r_icmp_eq (tgt := 184) C dX8_arrivesAtSwitch_177 rfl (fun q => ?_) (fun q => ?_)
    · have h := h.1 q
      exact j184 _ _ _ _ _ _ _ _ _ hkb hK223 _ h
    · have h := h.2 q
      refine r_iconst C dX8_arrivesAtSwitch_180 ic_1 ?_
      refine r_goto (tgt := 185) C dX8_arrivesAtSwitch_181 rfl ?_
      exact j185 _ _ _ _ _ _ _ _ _ _ hkb hK223 _ h
  have j166 : ∀ (kb : Int32 → Hp → Prop) (K223 : Hp → Prop) (y1 : Int32) (y2 : Int32) (y3 : Int32) (y4 : Int32) (y5 : Int32) (y6 : Int32) (y7 : Int32) (z0 : Int32) (hkb : ∀ (v7 : Int32) (σ : Hp), kb v7 σ → G g p l e R s m args below meth c (QV Q) 9 134 [(0, .ref (gad g 8 0)), (1, .int y1), (2, .int y2), (3, .int y3), (4, .int y4), (5, .int y5), (6, .int y6), (7, .int v7)] [] σ) (hK223 : ∀ (σ : Hp), K223 σ → G g p l e R s m args below meth c (QV Q) 9 223 [] [] σ) (σ : Hp), J_X8_arrivesAtSwitch_166 Q kb K223 y1 y2 y3 y4 y5 y6 y7 z0 σ → G g p l e R s m args below meth c (QV Q) 9 166 [(0, .ref (gad g 8 0)), (1, .int y1), (2, .int y2), (3, .int y3), (4, .int y4), (5, .int y5), (6, .int y6), (7, .int y7)] [.int z0] σ := by
    intro kb K223 y1 y2 y3 y4 y5 y6 y7 z0 hkb hK223 σ h
    unfold J_X8_arrivesAtSwitch_166 at h
    refine r_iload_n C dX8_arrivesAtSwitch_166 rfl 2 rfl ?_
    refine r_bipush C dX8_arrivesAtSwitch_167 bi_14 ?_
    refine r_icmp_ge (tgt := 176) C dX8_arrivesAtSwitch_169 rfl (fun q => ?_) (fun q => ?_)
    · have h := h.1 q
      refine r_iconst C dX8_arrivesAtSwitch_176 ic_0 ?_
      exact j177 _ _ _ _ _ _ _ _ _ _ _ hkb hK223 _ h
    · have h := h.2 q
      refine r_iconst C dX8_arrivesAtSwitch_172 ic_1 ?_
      refine r_goto (tgt := 177) C dX8_arrivesAtSwitch_173 rfl ?_
      exact j177 _ _ _ _ _ _ _ _ _ _ _ hkb hK223 _ h
  have l134 : ∀ (K223 : Hp → Prop) (y1 : Int32) (y2 : Int32) (y3 : Int32) (y4 : Int32) (y5 : Int32) (y6 : Int32) (hK223 : ∀ (σ : Hp), K223 σ → G g p l e R s m args below meth c (QV Q) 9 223 [] [] σ) (n : Nat) (y7 : Int32) (σ : Hp), L_X8_arrivesAtSwitch_134 Q K223 y1 y2 y3 y4 y5 y6 n y7 σ → G g p l e R s m args below meth c (QV Q) 9 134 [(0, .ref (gad g 8 0)), (1, .int y1), (2, .int y2), (3, .int y3), (4, .int y4), (5, .int y5), (6, .int y6), (7, .int y7)] [] σ := by
    intro K223 y1 y2 y3 y4 y5 y6 hK223 n
    induction n with
    | zero => intro y7 σ h; exact False.elim h
    | succ n ih =>
      intro y7 σ h
      unfold L_X8_arrivesAtSwitch_134 at h
      refine r_iload C dX8_arrivesAtSwitch_134 7 rfl ?_
      refine r_bipush C dX8_arrivesAtSwitch_136 bi_16 ?_
      refine r_icmp_ge (tgt := 223) C dX8_arrivesAtSwitch_138 rfl (fun q => ?_) (fun q => ?_)
      · have h := h.1 q
        refine r_sub [] rfl ?_
        exact hK223 _ h
      · have h := h.2 q
        refine r_iload_n C dX8_arrivesAtSwitch_141 rfl 2 rfl ?_
        refine r_bipush C dX8_arrivesAtSwitch_142 bi_12 ?_
        refine r_icmp_lt (tgt := 184) C dX8_arrivesAtSwitch_144 rfl (fun q => ?_) (fun q => ?_)
        · have h := h.1 q
          exact j184 _ _ _ _ _ _ _ _ _ ih hK223 _ h
        · have h := h.2 q
          refine r_iload C dX8_arrivesAtSwitch_147 7 rfl ?_
          refine r_bipush C dX8_arrivesAtSwitch_149 bi_12 ?_
          refine r_icmp_lt (tgt := 184) C dX8_arrivesAtSwitch_151 rfl (fun q => ?_) (fun q => ?_)
          · have h := h.1 q
            exact j184 _ _ _ _ _ _ _ _ _ ih hK223 _ h
          · have h := h.2 q
            refine r_iload C dX8_arrivesAtSwitch_154 7 rfl ?_
            refine r_bipush C dX8_arrivesAtSwitch_156 bi_14 ?_
            refine r_icmp_ge (tgt := 165) C dX8_arrivesAtSwitch_158 rfl (fun q => ?_) (fun q => ?_)
            · have h := h.1 q
              refine r_iconst C dX8_arrivesAtSwitch_165 ic_0 ?_
              exact j166 _ _ _ _ _ _ _ _ _ _ ih hK223 _ h
            · have h := h.2 q
              refine r_iconst C dX8_arrivesAtSwitch_161 ic_1 ?_
              refine r_goto (tgt := 166) C dX8_arrivesAtSwitch_162 rfl ?_
              exact j166 _ _ _ _ _ _ _ _ _ _ ih hK223 _ h
  have j123 : ∀ (y1 : Int32) (y2 : Int32) (y3 : Int32) (y4 : Int32) (y5 : Int32) (σ : Hp), J_X8_arrivesAtSwitch_123 Q y1 y2 y3 y4 y5 σ → G g p l e R s m args below meth c (QV Q) 9 123 [(0, .ref (gad g 8 0)), (1, .int y1), (2, .int y2), (3, .int y3), (4, .int y4), (5, .int y5)] [] σ := by
    intro y1 y2 y3 y4 y5 σ h
    unfold J_X8_arrivesAtSwitch_123 at h
    refine r_aload_n C dX8_arrivesAtSwitch_123 rfl 0 rfl ?_
    refine r_iload_n C dX8_arrivesAtSwitch_124 rfl 2 rfl ?_
    refine r_callVi [] C dX8_arrivesAtSwitch_125 w_8_265 (ok_X8_switchBehind l g _ _ _ h) (Nat.le_of_ble_eq_true rfl) rfl rfl ak_8 (cn_8 (by decide)) rfl rfl (Nat.le_of_ble_eq_true rfl) (fun r2 σ1 h => ?_)
    refine r_istore C dX8_arrivesAtSwitch_128 (Nat.le_of_ble_eq_true rfl) rfl ?_
    refine r_bipush C dX8_arrivesAtSwitch_130 bi_6 ?_
    refine r_istore C dX8_arrivesAtSwitch_132 (Nat.le_of_ble_eq_true rfl) rfl ?_
    refine r_sub [2, 3, 4, 5, 6, 7, 1, 0] rfl ?_
    obtain ⟨n7, h⟩ := h
    refine l134 _ _ _ _ _ _ _ (fun σ8 h => ?_) n7 _ _ h
    exact r_return C dX8_arrivesAtSwitch_223 ⟨rfl, h⟩
  unfold S_X8_arrivesAtSwitch at h
  show G g p l e R s m args below meth c (QV Q) 9 0 [(0, .ref (gad g 8 0)), (1, .int x1), (2, .int x2), (3, .int x3), (4, .int x4), (5, .int x5)] [] σ
  refine r_aload_n C dX8_arrivesAtSwitch_0 rfl 0 rfl ?_
  refine gf_8_42 C dX8_arrivesAtSwitch_1 (cn_8 (by decide)) ?_
  refine r_bipush C dX8_arrivesAtSwitch_4 bi_79 ?_
  refine r_iload_n C dX8_arrivesAtSwitch_6 rfl 1 rfl ?_
  refine r_iadd C dX8_arrivesAtSwitch_7 ?_
  obtain ⟨h0, h⟩ := h
  refine r_iaload C dX8_arrivesAtSwitch_8 ak_61 (cn_61 (by decide)) al_61 h0 ?_
  refine r_iconst C dX8_arrivesAtSwitch_9 ic_1 ?_
  refine r_icmp_ne (tgt := 31) C dX8_arrivesAtSwitch_10 rfl (fun q => ?_) (fun q => ?_)
  · have h := h.1 q
    refine r_iload_n C dX8_arrivesAtSwitch_31 rfl 2 rfl ?_
    refine r_bipush C dX8_arrivesAtSwitch_32 bi_6 ?_
    refine r_icmp_ge (tgt := 123) C dX8_arrivesAtSwitch_34 rfl (fun q => ?_) (fun q => ?_)
    · have h := h.1 q
      exact j123 _ _ _ _ _ _ h
    · have h := h.2 q
      refine r_aload_n C dX8_arrivesAtSwitch_37 rfl 0 rfl ?_
      refine r_iload_n C dX8_arrivesAtSwitch_38 rfl 3 rfl ?_
      refine r_iconst C dX8_arrivesAtSwitch_39 ic_2 ?_
      refine r_callVi [] C dX8_arrivesAtSwitch_40 w_8_221 (ok_X8_linkOf l g _ _ _ _ h) (Nat.le_of_ble_eq_true rfl) rfl rfl ak_8 (cn_8 (by decide)) rfl rfl (Nat.le_of_ble_eq_true rfl) (fun r10 σ9 h => ?_)
      refine r_aload_n C dX8_arrivesAtSwitch_43 rfl 0 rfl ?_
      refine r_iload_n C dX8_arrivesAtSwitch_44 rfl 3 rfl ?_
      refine r_iconst C dX8_arrivesAtSwitch_45 ic_1 ?_
      refine r_callVi [.int _] C dX8_arrivesAtSwitch_46 w_8_221 (ok_X8_linkOf l g _ _ _ _ h) (Nat.le_of_ble_eq_true rfl) rfl rfl ak_8 (cn_8 (by decide)) rfl rfl (Nat.le_of_ble_eq_true rfl) (fun r12 σ11 h => ?_)
      refine r_imul C dX8_arrivesAtSwitch_49 ?_
      refine r_istore C dX8_arrivesAtSwitch_50 (Nat.le_of_ble_eq_true rfl) rfl ?_
      refine r_bipush C dX8_arrivesAtSwitch_52 bi_41 ?_
      refine r_bipush C dX8_arrivesAtSwitch_54 bi_8 ?_
      refine r_iload_n C dX8_arrivesAtSwitch_56 rfl 2 rfl ?_
      refine r_imul C dX8_arrivesAtSwitch_57 ?_
      refine r_iadd C dX8_arrivesAtSwitch_58 ?_
      refine r_iload_n C dX8_arrivesAtSwitch_59 rfl 4 rfl ?_
      refine r_iadd C dX8_arrivesAtSwitch_60 ?_
      refine r_istore C dX8_arrivesAtSwitch_61 (Nat.le_of_ble_eq_true rfl) rfl ?_
      refine r_iload C dX8_arrivesAtSwitch_63 1 rfl ?_
      refine r_aload_n C dX8_arrivesAtSwitch_65 rfl 2 rfl ?_
      refine gf_8_42 C dX8_arrivesAtSwitch_66 (cn_8 (by decide)) ?_
      refine r_iload C dX8_arrivesAtSwitch_69 0 rfl ?_
      obtain ⟨h0, h⟩ := h
      refine r_iaload C dX8_arrivesAtSwitch_71 ak_61 (cn_61 (by decide)) al_61 h0 ?_
      refine r_icmp_le (tgt := 111) C dX8_arrivesAtSwitch_72 rfl (fun q => ?_) (fun q => ?_)
      · have h := h.1 q
        refine r_aload_n C dX8_arrivesAtSwitch_111 rfl 2 rfl ?_
        refine gf_8_42 C dX8_arrivesAtSwitch_112 (cn_8 (by decide)) ?_
        refine r_iload C dX8_arrivesAtSwitch_115 0 rfl ?_
        refine r_dup2 C dX8_arrivesAtSwitch_117 rfl rfl ?_
        obtain ⟨h0, h⟩ := h
        refine r_iaload C dX8_arrivesAtSwitch_118 ak_61 (cn_61 (by decide)) al_61 h0 ?_
        refine r_iload C dX8_arrivesAtSwitch_119 1 rfl ?_
        refine r_isub C dX8_arrivesAtSwitch_121 ?_
        obtain ⟨h0, h⟩ := h
        refine r_iastore C dX8_arrivesAtSwitch_122 ak_61 (cn_61 (by decide)) al_61 h0 ?_
        have h := h _ rfl
        refine r_sub [2, 3, 4, 5, 6, 7] rfl ?_
        exact j123 _ _ _ _ _ _ h
      · have h := h.2 q
        refine r_aload_n C dX8_arrivesAtSwitch_75 rfl 2 rfl ?_
        refine gf_8_42 C dX8_arrivesAtSwitch_76 (cn_8 (by decide)) ?_
        refine r_bipush C dX8_arrivesAtSwitch_79 bi_73 ?_
        refine r_iconst C dX8_arrivesAtSwitch_81 ic_3 ?_
        refine r_iload_n C dX8_arrivesAtSwitch_82 rfl 3 rfl ?_
        refine r_imul C dX8_arrivesAtSwitch_83 ?_
        refine r_iadd C dX8_arrivesAtSwitch_84 ?_
        refine r_iconst C dX8_arrivesAtSwitch_85 ic_2 ?_
        refine r_iadd C dX8_arrivesAtSwitch_86 ?_
        refine r_dup2 C dX8_arrivesAtSwitch_87 rfl rfl ?_
        obtain ⟨h0, h⟩ := h
        refine r_iaload C dX8_arrivesAtSwitch_88 ak_61 (cn_61 (by decide)) al_61 h0 ?_
        refine r_iconst C dX8_arrivesAtSwitch_89 ic_1 ?_
        refine r_iadd C dX8_arrivesAtSwitch_90 ?_
        obtain ⟨h0, h⟩ := h
        refine r_iastore C dX8_arrivesAtSwitch_91 ak_61 (cn_61 (by decide)) al_61 h0 ?_
        have h := h _ rfl
        refine r_aload_n C dX8_arrivesAtSwitch_92 rfl 2 rfl ?_
        refine gf_8_42 C dX8_arrivesAtSwitch_93 (cn_8 (by decide)) ?_
        refine r_bipush C dX8_arrivesAtSwitch_96 bi_57 ?_
        refine r_bipush C dX8_arrivesAtSwitch_98 bi_8 ?_
        refine r_iload_n C dX8_arrivesAtSwitch_100 rfl 3 rfl ?_
        refine r_imul C dX8_arrivesAtSwitch_101 ?_
        refine r_iadd C dX8_arrivesAtSwitch_102 ?_
        refine r_iload_n C dX8_arrivesAtSwitch_103 rfl 5 rfl ?_
        refine r_iadd C dX8_arrivesAtSwitch_104 ?_
        refine r_dup2 C dX8_arrivesAtSwitch_105 rfl rfl ?_
        obtain ⟨h0, h⟩ := h
        refine r_iaload C dX8_arrivesAtSwitch_106 ak_61 (cn_61 (by decide)) al_61 h0 ?_
        refine r_iconst C dX8_arrivesAtSwitch_107 ic_1 ?_
        refine r_iadd C dX8_arrivesAtSwitch_108 ?_
        obtain ⟨h0, h⟩ := h
        refine r_iastore C dX8_arrivesAtSwitch_109 ak_61 (cn_61 (by decide)) al_61 h0 ?_
        have h := h _ rfl
        exact r_return C dX8_arrivesAtSwitch_110 ⟨rfl, h⟩
  · have h := h.2 q
    refine r_aload_n C dX8_arrivesAtSwitch_13 rfl 0 rfl ?_
    refine gf_8_42 C dX8_arrivesAtSwitch_14 (cn_8 (by decide)) ?_
    refine r_bipush C dX8_arrivesAtSwitch_17 bi_73 ?_
    refine r_iconst C dX8_arrivesAtSwitch_19 ic_3 ?_
    refine r_iload_n C dX8_arrivesAtSwitch_20 rfl 1 rfl ?_
    refine r_imul C dX8_arrivesAtSwitch_21 ?_
    refine r_iadd C dX8_arrivesAtSwitch_22 ?_
    refine r_iconst C dX8_arrivesAtSwitch_23 ic_1 ?_
    refine r_iadd C dX8_arrivesAtSwitch_24 ?_
    refine r_dup2 C dX8_arrivesAtSwitch_25 rfl rfl ?_
    obtain ⟨h0, h⟩ := h
    refine r_iaload C dX8_arrivesAtSwitch_26 ak_61 (cn_61 (by decide)) al_61 h0 ?_
    refine r_iconst C dX8_arrivesAtSwitch_27 ic_1 ?_
    refine r_iadd C dX8_arrivesAtSwitch_28 ?_
    obtain ⟨h0, h⟩ := h
    refine r_iastore C dX8_arrivesAtSwitch_29 ak_61 (cn_61 (by decide)) al_61 h0 ?_
    have h := h _ rfl
    exact r_return C dX8_arrivesAtSwitch_30 ⟨rfl, h⟩
def S_X8_isWhole (x1 : Int32) (x2 : Int32) (x3 : Int32) (σ : Hp) (Q : Int32 → Hp → Prop) : Prop :=
  vp_in ((x1 + 8) + x2) 1809 ∧ (((gI σ 61 0 (ix ((x1 + 8) + x2))) = (-2) → Q 1 σ) ∧ (¬ (gI σ 61 0 (ix ((x1 + 8) + x2))) = (-2) → ((x3 = 0 → Q 1 σ) ∧ (¬ x3 = 0 → S_X8_behind (gI σ 61 0 (ix ((x1 + 8) + x2))) σ (fun r2 σ1 => ((x3 = r2 → Q 1 σ1) ∧ (¬ x3 = r2 → S_X8_behind (gI σ 61 0 (ix ((x1 + 8) + x2))) σ1 (fun r4 σ3 => S_X8_behind r4 σ3 (fun r6 σ5 => ((¬ x3 = r6 → Q 0 σ5) ∧ (x3 = r6 → Q 1 σ5)))))))))))
set_option maxHeartbeats 2000000 in
set_option maxRecDepth 20000 in
theorem ok_X8_isWhole (l : Launch) (g : Gm) (x1 : Int32) (x2 : Int32) (x3 : Int32) (σ : Hp) (Q : Int32 → Hp → Prop) (h : S_X8_isWhole x1 x2 x3 σ Q) : Ct l g yX8_isWhole cX8_isWhole 5 (some .boolean) 1 [.ref (gad g 8 0), .int x1, .int x2, .int x3] σ (QI Q) := by
  refine Ct.of (by decide +kernel) (Nat.le_of_ble_eq_true rfl) ?_
  intro p e R s m args below meth c C
  have C : Cx g p R s m args meth c cX8_isWhole 5 RX8 (some .boolean) 1 := C
  unfold S_X8_isWhole at h
  show G g p l e R s m args below meth c (QI Q) 5 0 [(0, .ref (gad g 8 0)), (1, .int x1), (2, .int x2), (3, .int x3)] [] σ
  refine r_aload_n C dX8_isWhole_0 rfl 0 rfl ?_
  refine gf_8_42 C dX8_isWhole_1 (cn_8 (by decide)) ?_
  refine r_iload_n C dX8_isWhole_4 rfl 1 rfl ?_
  refine r_bipush C dX8_isWhole_5 bi_8 ?_
  refine r_iadd C dX8_isWhole_7 ?_
  refine r_iload_n C dX8_isWhole_8 rfl 2 rfl ?_
  refine r_iadd C dX8_isWhole_9 ?_
  obtain ⟨h0, h⟩ := h
  refine r_iaload C dX8_isWhole_10 ak_61 (cn_61 (by decide)) al_61 h0 ?_
  refine r_istore C dX8_isWhole_11 (Nat.le_of_ble_eq_true rfl) rfl ?_
  refine r_iload C dX8_isWhole_13 0 rfl ?_
  refine r_bipush C dX8_isWhole_15 bi_m2 ?_
  refine r_icmp_eq (tgt := 45) C dX8_isWhole_17 rfl (fun q => ?_) (fun q => ?_)
  · have h := h.1 q
    refine r_iconst C dX8_isWhole_45 ic_1 ?_
    refine r_goto (tgt := 50) C dX8_isWhole_46 rfl ?_
    exact r_zreturn C dX8_isWhole_50 zb1.1 ⟨_, rfl, h⟩
  · have h := h.2 q
    refine r_iload_n C dX8_isWhole_20 rfl 4 rfl ?_
    refine r_if_eq (tgt := 45) C dX8_isWhole_21 rfl (fun q => ?_) (fun q => ?_)
    · have h := h.1 q
      refine r_iconst C dX8_isWhole_45 ic_1 ?_
      refine r_goto (tgt := 50) C dX8_isWhole_46 rfl ?_
      exact r_zreturn C dX8_isWhole_50 zb1.1 ⟨_, rfl, h⟩
    · have h := h.2 q
      refine r_iload_n C dX8_isWhole_24 rfl 4 rfl ?_
      refine r_iload C dX8_isWhole_25 0 rfl ?_
      refine r_callSi [.int _] C dX8_isWhole_27 w_8_262 (ok_X8_behind l g _ _ _ h) (Nat.le_of_ble_eq_true rfl) rfl rfl (Nat.le_of_ble_eq_true rfl) (fun r2 σ1 h => ?_)
      refine r_icmp_eq (tgt := 45) C dX8_isWhole_30 rfl (fun q => ?_) (fun q => ?_)
      · have h := h.1 q
        refine r_iconst C dX8_isWhole_45 ic_1 ?_
        refine r_goto (tgt := 50) C dX8_isWhole_46 rfl ?_
        exact r_zreturn C dX8_isWhole_50 zb1.1 ⟨_, rfl, h⟩
      · have h := h.2 q
        refine r_iload_n C dX8_isWhole_33 rfl 4 rfl ?_
        refine r_iload C dX8_isWhole_34 0 rfl ?_
        refine r_callSi [.int _] C dX8_isWhole_36 w_8_262 (ok_X8_behind l g _ _ _ h) (Nat.le_of_ble_eq_true rfl) rfl rfl (Nat.le_of_ble_eq_true rfl) (fun r4 σ3 h => ?_)
        refine r_callSi [.int _] C dX8_isWhole_39 w_8_262 (ok_X8_behind l g _ _ _ h) (Nat.le_of_ble_eq_true rfl) rfl rfl (Nat.le_of_ble_eq_true rfl) (fun r6 σ5 h => ?_)
        refine r_icmp_ne (tgt := 49) C dX8_isWhole_42 rfl (fun q => ?_) (fun q => ?_)
        · have h := h.1 q
          refine r_iconst C dX8_isWhole_49 ic_0 ?_
          exact r_zreturn C dX8_isWhole_50 zb0.1 ⟨_, rfl, h⟩
        · have h := h.2 q
          refine r_iconst C dX8_isWhole_45 ic_1 ?_
          refine r_goto (tgt := 50) C dX8_isWhole_46 rfl ?_
          exact r_zreturn C dX8_isWhole_50 zb1.1 ⟨_, rfl, h⟩
def S_X8_ahead (x0 : Int32) (x1 : Int32) (σ : Hp) (Q : Int32 → Hp → Prop) : Prop :=
  ((¬ x1 = 0 → ((¬ x0 = 0 → Q (jrem ((x1 - x0) + 255) 255) σ) ∧ (x0 = 0 → Q x1 σ))) ∧ (x1 = 0 → Q 0 σ))
set_option maxHeartbeats 2000000 in
set_option maxRecDepth 20000 in
theorem ok_X8_ahead (l : Launch) (g : Gm) (x0 : Int32) (x1 : Int32) (σ : Hp) (Q : Int32 → Hp → Prop) (h : S_X8_ahead x0 x1 σ Q) : Ct l g yX8_ahead cX8_ahead 2 (some .int) 0 [.int x0, .int x1] σ (QI Q) := by
  refine Ct.of (by decide +kernel) (Nat.le_of_ble_eq_true rfl) ?_
  intro p e R s m args below meth c C
  have C : Cx g p R s m args meth c cX8_ahead 2 RX8 (some .int) 0 := C
  unfold S_X8_ahead at h
  show G g p l e R s m args below meth c (QI Q) 2 0 [(0, .int x0), (1, .int x1)] [] σ
  refine r_iload_n C dX8_ahead_0 rfl 1 rfl ?_
  refine r_if_ne (tgt := 8) C dX8_ahead_1 rfl (fun q => ?_) (fun q => ?_)
  · have h := h.1 q
    refine r_iload_n C dX8_ahead_8 rfl 0 rfl ?_
    refine r_if_ne (tgt := 16) C dX8_ahead_9 rfl (fun q => ?_) (fun q => ?_)
    · have h := h.1 q
      refine r_iload_n C dX8_ahead_16 rfl 1 rfl ?_
      refine r_iload_n C dX8_ahead_17 rfl 0 rfl ?_
      refine r_isub C dX8_ahead_18 ?_
      refine r_sipush C dX8_ahead_19 si_255 ?_
      refine r_iadd C dX8_ahead_22 ?_
      refine r_sipush C dX8_ahead_23 si_255 ?_
      refine r_irem C dX8_ahead_26 (by decide) ?_
      exact r_ireturn C dX8_ahead_27 ⟨_, rfl, h⟩
    · have h := h.2 q
      refine r_iload_n C dX8_ahead_12 rfl 1 rfl ?_
      refine r_goto (tgt := 27) C dX8_ahead_13 rfl ?_
      exact r_ireturn C dX8_ahead_27 ⟨_, rfl, h⟩
  · have h := h.2 q
    refine r_iconst C dX8_ahead_4 ic_0 ?_
    refine r_goto (tgt := 27) C dX8_ahead_5 rfl ?_
    exact r_ireturn C dX8_ahead_27 ⟨_, rfl, h⟩
def J_X8_isTaken_54 (Q : Int32 → Hp → Prop) (y2 : Int32) (y3 : Int32) (σ : Hp) : Prop :=
  S_X8_ahead y3 y2 σ (fun r2 σ1 => vp_in 3 7 ∧ S_X8_in r2 1 (gI σ1 53 0 (ix 3)) σ1 (fun r4 σ3 => zb r4 ∧ Q r4 σ3))
def S_X8_isTaken (x1 : Int32) (x2 : Int32) (σ : Hp) (Q : Int32 → Hp → Prop) : Prop :=
  vp_in (x1 + 3) 1809 ∧ vp_in (x1 + 0) 1809 ∧ (((gI σ 61 0 (ix (x1 + 0))) = 0 → Q 1 σ) ∧ (¬ (gI σ 61 0 (ix (x1 + 0))) = 0 → vp_in 0 1809 ∧ vp_in (x1 + 4) 1809 ∧ vp_in 4 7 ∧ (((gI σ 53 0 (ix 4)) < ((gI σ 61 0 (ix 0)) - (gI σ 61 0 (ix (x1 + 4)))) → Q 1 σ) ∧ (¬ (gI σ 53 0 (ix 4)) < ((gI σ 61 0 (ix 0)) - (gI σ 61 0 (ix (x1 + 4)))) → ((¬ x2 = 0 → J_X8_isTaken_54 Q x2 (gI σ 61 0 (ix (x1 + 3))) σ) ∧ (x2 = 0 → (((gI σ 61 0 (ix (x1 + 3))) = 0 → J_X8_isTaken_54 Q x2 (gI σ 61 0 (ix (x1 + 3))) σ) ∧ (¬ (gI σ 61 0 (ix (x1 + 3))) = 0 → Q 1 σ))))))))
set_option maxHeartbeats 2000000 in
set_option maxRecDepth 20000 in
theorem ok_X8_isTaken (l : Launch) (g : Gm) (x1 : Int32) (x2 : Int32) (σ : Hp) (Q : Int32 → Hp → Prop) (h : S_X8_isTaken x1 x2 σ Q) : Ct l g yX8_isTaken cX8_isTaken 4 (some .boolean) 1 [.ref (gad g 8 0), .int x1, .int x2] σ (QI Q) := by
  refine Ct.of (by decide +kernel) (Nat.le_of_ble_eq_true rfl) ?_
  intro p e R s m args below meth c C
  have C : Cx g p R s m args meth c cX8_isTaken 4 RX8 (some .boolean) 1 := C
  have j54 : ∀ (y2 : Int32) (y3 : Int32) (σ : Hp), J_X8_isTaken_54 Q y2 y3 σ → G g p l e R s m args below meth c (QI Q) 4 54 [(0, .ref (gad g 8 0)), (2, .int y2), (3, .int y3)] [] σ := by
    intro y2 y3 σ h
    unfold J_X8_isTaken_54 at h
    refine r_iload_n C dX8_isTaken_54 rfl 2 rfl ?_
    refine r_iload_n C dX8_isTaken_55 rfl 1 rfl ?_
    refine r_callSi [] C dX8_isTaken_56 w_8_271 (ok_X8_ahead l g _ _ _ _ h) (Nat.le_of_ble_eq_true rfl) rfl rfl (Nat.le_of_ble_eq_true rfl) (fun r2 σ1 h => ?_)
    refine r_iconst C dX8_isTaken_59 ic_1 ?_
    refine r_aload_n C dX8_isTaken_60 rfl 0 rfl ?_
    refine gf_8_17 C dX8_isTaken_61 (cn_8 (by decide)) ?_
    refine r_iconst C dX8_isTaken_64 ic_3 ?_
    obtain ⟨h0, h⟩ := h
    refine r_iaload C dX8_isTaken_65 ak_53 (cn_53 (by decide)) al_53 h0 ?_
    refine r_callSi [] C dX8_isTaken_66 w_8_80 (ok_X8_in l g _ _ _ _ _ h) (Nat.le_of_ble_eq_true rfl) rfl rfl (Nat.le_of_ble_eq_true rfl) (fun r4 σ3 h => ?_)
    obtain ⟨h0, h⟩ := h
    exact r_zreturn C dX8_isTaken_69 h0.1 ⟨_, rfl, h⟩
  unfold S_X8_isTaken at h
  show G g p l e R s m args below meth c (QI Q) 4 0 [(0, .ref (gad g 8 0)), (1, .int x1), (2, .int x2)] [] σ
  refine r_aload_n C dX8_isTaken_0 rfl 0 rfl ?_
  refine gf_8_42 C dX8_isTaken_1 (cn_8 (by decide)) ?_
  refine r_iload_n C dX8_isTaken_4 rfl 1 rfl ?_
  refine r_iconst C dX8_isTaken_5 ic_3 ?_
  refine r_iadd C dX8_isTaken_6 ?_
  obtain ⟨h0, h⟩ := h
  refine r_iaload C dX8_isTaken_7 ak_61 (cn_61 (by decide)) al_61 h0 ?_
  refine r_istore_n C dX8_isTaken_8 rfl (Nat.le_of_ble_eq_true rfl) rfl ?_
  refine r_aload_n C dX8_isTaken_9 rfl 1 rfl ?_
  refine gf_8_42 C dX8_isTaken_10 (cn_8 (by decide)) ?_
  refine r_iload_n C dX8_isTaken_13 rfl 2 rfl ?_
  refine r_iconst C dX8_isTaken_14 ic_0 ?_
  refine r_iadd C dX8_isTaken_15 ?_
  obtain ⟨h0, h⟩ := h
  refine r_iaload C dX8_isTaken_16 ak_61 (cn_61 (by decide)) al_61 h0 ?_
  refine r_if_eq (tgt := 52) C dX8_isTaken_17 rfl (fun q => ?_) (fun q => ?_)
  · have h := h.1 q
    refine r_iconst C dX8_isTaken_52 ic_1 ?_
    exact r_zreturn C dX8_isTaken_53 zb1.1 ⟨_, rfl, h⟩
  · have h := h.2 q
    refine r_aload_n C dX8_isTaken_20 rfl 1 rfl ?_
    refine gf_8_42 C dX8_isTaken_21 (cn_8 (by decide)) ?_
    refine r_iconst C dX8_isTaken_24 ic_0 ?_
    obtain ⟨h0, h⟩ := h
    refine r_iaload C dX8_isTaken_25 ak_61 (cn_61 (by decide)) al_61 h0 ?_
    refine r_aload_n C dX8_isTaken_26 rfl 1 rfl ?_
    refine gf_8_42 C dX8_isTaken_27 (cn_8 (by decide)) ?_
    refine r_iload_n C dX8_isTaken_30 rfl 2 rfl ?_
    refine r_iconst C dX8_isTaken_31 ic_4 ?_
    refine r_iadd C dX8_isTaken_32 ?_
    obtain ⟨h0, h⟩ := h
    refine r_iaload C dX8_isTaken_33 ak_61 (cn_61 (by decide)) al_61 h0 ?_
    refine r_isub C dX8_isTaken_34 ?_
    refine r_aload_n C dX8_isTaken_35 rfl 1 rfl ?_
    refine gf_8_17 C dX8_isTaken_36 (cn_8 (by decide)) ?_
    refine r_iconst C dX8_isTaken_39 ic_4 ?_
    obtain ⟨h0, h⟩ := h
    refine r_iaload C dX8_isTaken_40 ak_53 (cn_53 (by decide)) al_53 h0 ?_
    refine r_icmp_gt (tgt := 52) C dX8_isTaken_41 rfl (fun q => ?_) (fun q => ?_)
    · have h := h.1 q
      refine r_iconst C dX8_isTaken_52 ic_1 ?_
      exact r_zreturn C dX8_isTaken_53 zb1.1 ⟨_, rfl, h⟩
    · have h := h.2 q
      refine r_iload_n C dX8_isTaken_44 rfl 3 rfl ?_
      refine r_if_ne (tgt := 54) C dX8_isTaken_45 rfl (fun q => ?_) (fun q => ?_)
      · have h := h.1 q
        refine r_sub [1, 3, 0] rfl ?_
        exact j54 _ _ _ h
      · have h := h.2 q
        refine r_iload_n C dX8_isTaken_48 rfl 0 rfl ?_
        refine r_if_eq (tgt := 54) C dX8_isTaken_49 rfl (fun q => ?_) (fun q => ?_)
        · have h := h.1 q
          refine r_sub [1, 3, 0] rfl ?_
          exact j54 _ _ _ h
        · have h := h.2 q
          refine r_iconst C dX8_isTaken_52 ic_1 ?_
          exact r_zreturn C dX8_isTaken_53 zb1.1 ⟨_, rfl, h⟩
def L_X8_takes_161 (Q : Hp → Prop) (K198 : Hp → Prop) (y1 : Int32) (y3 : Int32) : Nat → Int32 → Hp → Prop
  | 0, _, _ => False
  | n + 1, y6, σ =>
  ((y6 ≤ 0 → K198 σ) ∧ (¬ y6 ≤ 0 → vp_in (((y1 + 10) + y6) - 1) 1809 ∧ vp_in ((y1 + 10) + y6) 1809 ∧ ∀ σ7, σ7 = sI σ 61 0 (ix ((y1 + 10) + y6)) (gI σ 61 0 (ix (((y1 + 10) + y6) - 1))) → L_X8_takes_161 Q K198 y1 y3 n (y6 + (-1)) σ7))
def J_X8_takes_156 (Q : Hp → Prop) (y1 : Int32) (y3 : Int32) (z0 : Int32) (z1 : Int32) (σ : Hp) : Prop :=
  vp_in z1 1809 ∧ ∀ σ6, σ6 = sI σ 61 0 (ix z1) z0 → (∃ n8, L_X8_takes_161 Q (fun σ9 => vp_in (y1 + 10) 1809 ∧ ∀ σ10, σ10 = sI σ9 61 0 (ix (y1 + 10)) y3 → ∀ σ11, σ11 = sI σ10 8 0 28 ((gI σ10 8 0 28) + 1) → Q σ11) y1 y3 n8 9 σ6)
def J_X8_takes_142 (Q : Hp → Prop) (y1 : Int32) (y3 : Int32) (y5 : Int32) (z0 : Int32) (σ : Hp) : Prop :=
  J_X8_takes_156 Q y1 y3 y5 z0 σ
def J_X8_takes_105 (Q : Hp → Prop) (y1 : Int32) (y3 : Int32) (y5 : Int32) (z0 : Int32) (z1 : Int32) (σ : Hp) : Prop :=
  vp_in z1 1809 ∧ ∀ σ5, σ5 = sI σ 61 0 (ix z1) z0 → vp_in (y1 + 7) 1809 ∧ (((gI σ5 61 0 (ix (y1 + 7))) = (-2) → J_X8_takes_142 Q y1 y3 y5 (y1 + 7) σ5) ∧ (¬ (gI σ5 61 0 (ix (y1 + 7))) = (-2) → vp_in (y1 + 7) 1809 ∧ (((gI σ5 61 0 (ix (y1 + 7))) ≤ y5 → vp_in (y1 + 7) 1809 ∧ J_X8_takes_156 Q y1 y3 (gI σ5 61 0 (ix (y1 + 7))) (y1 + 7) σ5) ∧ (¬ (gI σ5 61 0 (ix (y1 + 7))) ≤ y5 → J_X8_takes_142 Q y1 y3 y5 (y1 + 7) σ5))))
def J_X8_takes_91 (Q : Hp → Prop) (y1 : Int32) (y3 : Int32) (y5 : Int32) (z0 : Int32) (σ : Hp) : Prop :=
  J_X8_takes_105 Q y1 y3 y5 y5 z0 σ
def S_X8_takes (x1 : Int32) (x2 : Int32) (x3 : Int32) (x4 : Int32) (σ : Hp) (Q : Hp → Prop) : Prop :=
  vp_in 0 1809 ∧ vp_in (x1 + 0) 1809 ∧ vp_in (x1 + 0) 1809 ∧ ∀ σ1, σ1 = sI σ 61 0 (ix (x1 + 0)) ((gI σ 61 0 (ix (x1 + 0))) + 1) → vp_in (x1 + 3) 1809 ∧ ∀ σ2, σ2 = sI σ1 61 0 (ix (x1 + 3)) x3 → vp_in 0 1809 ∧ vp_in (x1 + 4) 1809 ∧ ∀ σ3, σ3 = sI σ2 61 0 (ix (x1 + 4)) (gI σ2 61 0 (ix 0)) → vp_in (x1 + 5) 1809 ∧ ∀ σ4, σ4 = sI σ3 61 0 (ix (x1 + 5)) x2 → vp_in (x1 + 6) 1809 ∧ (((gI σ4 61 0 (ix (x1 + 6))) = (-2) → J_X8_takes_91 Q x1 x3 ((gI σ 61 0 (ix 0)) - x4) (x1 + 6) σ4) ∧ (¬ (gI σ4 61 0 (ix (x1 + 6))) = (-2) → vp_in (x1 + 6) 1809 ∧ ((((gI σ 61 0 (ix 0)) - x4) ≤ (gI σ4 61 0 (ix (x1 + 6))) → vp_in (x1 + 6) 1809 ∧ J_X8_takes_105 Q x1 x3 ((gI σ 61 0 (ix 0)) - x4) (gI σ4 61 0 (ix (x1 + 6))) (x1 + 6) σ4) ∧ (¬ ((gI σ 61 0 (ix 0)) - x4) ≤ (gI σ4 61 0 (ix (x1 + 6))) → J_X8_takes_91 Q x1 x3 ((gI σ 61 0 (ix 0)) - x4) (x1 + 6) σ4))))
set_option maxHeartbeats 2000000 in
set_option maxRecDepth 20000 in
theorem ok_X8_takes (l : Launch) (g : Gm) (x1 : Int32) (x2 : Int32) (x3 : Int32) (x4 : Int32) (σ : Hp) (Q : Hp → Prop) (h : S_X8_takes x1 x2 x3 x4 σ Q) : Ct l g yX8_takes cX8_takes 7 none 0 [.ref (gad g 8 0), .int x1, .int x2, .int x3, .int x4] σ (QV Q) := by
  refine Ct.of (by decide +kernel) (Nat.le_of_ble_eq_true rfl) ?_
  intro p e R s m args below meth c C
  have C : Cx g p R s m args meth c cX8_takes 7 RX8 none 0 := C
  have l161 : ∀ (K198 : Hp → Prop) (y1 : Int32) (y3 : Int32) (hK198 : ∀ (σ : Hp), K198 σ → G g p l e R s m args below meth c (QV Q) 7 198 [(0, .ref (gad g 8 0)), (1, .int y1), (3, .int y3)] [] σ) (n : Nat) (y6 : Int32) (σ : Hp), L_X8_takes_161 Q K198 y1 y3 n y6 σ → G g p l e R s m args below meth c (QV Q) 7 161 [(0, .ref (gad g 8 0)), (1, .int y1), (3, .int y3), (6, .int y6)] [] σ := by
    intro K198 y1 y3 hK198 n
    induction n with
    | zero => intro y6 σ h; exact False.elim h
    | succ n ih =>
      intro y6 σ h
      unfold L_X8_takes_161 at h
      refine r_iload C dX8_takes_161 3 rfl ?_
      refine r_if_le (tgt := 198) C dX8_takes_163 rfl (fun q => ?_) (fun q => ?_)
      · have h := h.1 q
        refine r_sub [0, 1, 2] rfl ?_
        exact hK198 _ h
      · have h := h.2 q
        refine r_aload_n C dX8_takes_166 rfl 0 rfl ?_
        refine gf_8_42 C dX8_takes_167 (cn_8 (by decide)) ?_
        refine r_iload_n C dX8_takes_170 rfl 1 rfl ?_
        refine r_bipush C dX8_takes_171 bi_10 ?_
        refine r_iadd C dX8_takes_173 ?_
        refine r_iload C dX8_takes_174 3 rfl ?_
        refine r_iadd C dX8_takes_176 ?_
        refine r_aload_n C dX8_takes_177 rfl 0 rfl ?_
        refine gf_8_42 C dX8_takes_178 (cn_8 (by decide)) ?_
        refine r_iload_n C dX8_takes_181 rfl 1 rfl ?_
        refine r_bipush C dX8_takes_182 bi_10 ?_
        refine r_iadd C dX8_takes_184 ?_
        refine r_iload C dX8_takes_185 3 rfl ?_
        refine r_iadd C dX8_takes_187 ?_
        refine r_iconst C dX8_takes_188 ic_1 ?_
        refine r_isub C dX8_takes_189 ?_
        obtain ⟨h0, h⟩ := h
        refine r_iaload C dX8_takes_190 ak_61 (cn_61 (by decide)) al_61 h0 ?_
        obtain ⟨h0, h⟩ := h
        refine r_iastore C dX8_takes_191 ak_61 (cn_61 (by decide)) al_61 h0 ?_
        have h := h _ rfl
        refine r_iinc (v := y6 + (-1)) C dX8_takes_192 3 rfl rfl (Nat.le_of_ble_eq_true rfl) rfl ?_
        refine r_goto (tgt := 161) C dX8_takes_195 rfl ?_
        refine r_sub [1, 2, 3, 0] rfl ?_
        exact ih _ _ h
  have j156 : ∀ (y1 : Int32) (y3 : Int32) (z0 : Int32) (z1 : Int32) (σ : Hp), J_X8_takes_156 Q y1 y3 z0 z1 σ → G g p l e R s m args below meth c (QV Q) 7 156 [(0, .ref (gad g 8 0)), (1, .int y1), (3, .int y3)] [.int z0, .int z1, .ref (gad g 61 0)] σ := by
    intro y1 y3 z0 z1 σ h
    unfold J_X8_takes_156 at h
    obtain ⟨h0, h⟩ := h
    refine r_iastore C dX8_takes_156 ak_61 (cn_61 (by decide)) al_61 h0 ?_
    have h := h _ rfl
    refine r_bipush C dX8_takes_157 bi_9 ?_
    refine r_istore C dX8_takes_159 (Nat.le_of_ble_eq_true rfl) rfl ?_
    refine r_sub [1, 2, 3, 0] rfl ?_
    obtain ⟨n8, h⟩ := h
    refine l161 _ _ _ (fun σ9 h => ?_) n8 _ _ h
    refine r_aload_n C dX8_takes_198 rfl 0 rfl ?_
    refine gf_8_42 C dX8_takes_199 (cn_8 (by decide)) ?_
    refine r_iload_n C dX8_takes_202 rfl 1 rfl ?_
    refine r_bipush C dX8_takes_203 bi_10 ?_
    refine r_iadd C dX8_takes_205 ?_
    refine r_iload_n C dX8_takes_206 rfl 2 rfl ?_
    obtain ⟨h0, h⟩ := h
    refine r_iastore C dX8_takes_207 ak_61 (cn_61 (by decide)) al_61 h0 ?_
    have h := h _ rfl
    refine r_aload_n C dX8_takes_208 rfl 0 rfl ?_
    refine r_dup C dX8_takes_209 rfl ?_
    refine gf_8_274 C dX8_takes_210 (cn_8 (by decide)) ?_
    refine r_iconst C dX8_takes_213 ic_1 ?_
    refine r_iadd C dX8_takes_214 ?_
    refine pf_8_274 C dX8_takes_215 (cn_8 (by decide)) ?_
    have h := h _ rfl
    exact r_return C dX8_takes_218 ⟨rfl, h⟩
  have j142 : ∀ (y1 : Int32) (y3 : Int32) (y5 : Int32) (z0 : Int32) (σ : Hp), J_X8_takes_142 Q y1 y3 y5 z0 σ → G g p l e R s m args below meth c (QV Q) 7 142 [(0, .ref (gad g 8 0)), (1, .int y1), (3, .int y3), (5, .int y5)] [.int z0, .ref (gad g 61 0)] σ := by
    intro y1 y3 y5 z0 σ h
    unfold J_X8_takes_142 at h
    refine r_iload C dX8_takes_142 3 rfl ?_
    refine r_goto (tgt := 156) C dX8_takes_144 rfl ?_
    refine r_sub [0, 1, 2] rfl ?_
    exact j156 _ _ _ _ _ h
  have j105 : ∀ (y1 : Int32) (y3 : Int32) (y5 : Int32) (z0 : Int32) (z1 : Int32) (σ : Hp), J_X8_takes_105 Q y1 y3 y5 z0 z1 σ → G g p l e R s m args below meth c (QV Q) 7 105 [(0, .ref (gad g 8 0)), (1, .int y1), (3, .int y3), (5, .int y5)] [.int z0, .int z1, .ref (gad g 61 0)] σ := by
    intro y1 y3 y5 z0 z1 σ h
    unfold J_X8_takes_105 at h
    obtain ⟨h0, h⟩ := h
    refine r_iastore C dX8_takes_105 ak_61 (cn_61 (by decide)) al_61 h0 ?_
    have h := h _ rfl
    refine r_aload_n C dX8_takes_106 rfl 0 rfl ?_
    refine gf_8_42 C dX8_takes_107 (cn_8 (by decide)) ?_
    refine r_iload_n C dX8_takes_110 rfl 1 rfl ?_
    refine r_bipush C dX8_takes_111 bi_7 ?_
    refine r_iadd C dX8_takes_113 ?_
    refine r_aload_n C dX8_takes_114 rfl 0 rfl ?_
    refine gf_8_42 C dX8_takes_115 (cn_8 (by decide)) ?_
    refine r_iload_n C dX8_takes_118 rfl 1 rfl ?_
    refine r_bipush C dX8_takes_119 bi_7 ?_
    refine r_iadd C dX8_takes_121 ?_
    obtain ⟨h0, h⟩ := h
    refine r_iaload C dX8_takes_122 ak_61 (cn_61 (by decide)) al_61 h0 ?_
    refine r_bipush C dX8_takes_123 bi_m2 ?_
    refine r_icmp_eq (tgt := 142) C dX8_takes_125 rfl (fun q => ?_) (fun q => ?_)
    · have h := h.1 q
      exact j142 _ _ _ _ _ h
    · have h := h.2 q
      refine r_iload C dX8_takes_128 3 rfl ?_
      refine r_aload_n C dX8_takes_130 rfl 0 rfl ?_
      refine gf_8_42 C dX8_takes_131 (cn_8 (by decide)) ?_
      refine r_iload_n C dX8_takes_134 rfl 1 rfl ?_
      refine r_bipush C dX8_takes_135 bi_7 ?_
      refine r_iadd C dX8_takes_137 ?_
      obtain ⟨h0, h⟩ := h
      refine r_iaload C dX8_takes_138 ak_61 (cn_61 (by decide)) al_61 h0 ?_
      refine r_icmp_ge (tgt := 147) C dX8_takes_139 rfl (fun q => ?_) (fun q => ?_)
      · have h := h.1 q
        refine r_aload_n C dX8_takes_147 rfl 0 rfl ?_
        refine gf_8_42 C dX8_takes_148 (cn_8 (by decide)) ?_
        refine r_iload_n C dX8_takes_151 rfl 1 rfl ?_
        refine r_bipush C dX8_takes_152 bi_7 ?_
        refine r_iadd C dX8_takes_154 ?_
        obtain ⟨h0, h⟩ := h
        refine r_iaload C dX8_takes_155 ak_61 (cn_61 (by decide)) al_61 h0 ?_
        refine r_sub [0, 1, 2] rfl ?_
        exact j156 _ _ _ _ _ h
      · have h := h.2 q
        exact j142 _ _ _ _ _ h
  have j91 : ∀ (y1 : Int32) (y3 : Int32) (y5 : Int32) (z0 : Int32) (σ : Hp), J_X8_takes_91 Q y1 y3 y5 z0 σ → G g p l e R s m args below meth c (QV Q) 7 91 [(0, .ref (gad g 8 0)), (1, .int y1), (3, .int y3), (5, .int y5)] [.int z0, .ref (gad g 61 0)] σ := by
    intro y1 y3 y5 z0 σ h
    unfold J_X8_takes_91 at h
    refine r_iload C dX8_takes_91 3 rfl ?_
    refine r_goto (tgt := 105) C dX8_takes_93 rfl ?_
    exact j105 _ _ _ _ _ _ h
  unfold S_X8_takes at h
  show G g p l e R s m args below meth c (QV Q) 7 0 [(0, .ref (gad g 8 0)), (1, .int x1), (2, .int x2), (3, .int x3), (4, .int x4)] [] σ
  refine r_aload_n C dX8_takes_0 rfl 0 rfl ?_
  refine gf_8_42 C dX8_takes_1 (cn_8 (by decide)) ?_
  refine r_iconst C dX8_takes_4 ic_0 ?_
  obtain ⟨h0, h⟩ := h
  refine r_iaload C dX8_takes_5 ak_61 (cn_61 (by decide)) al_61 h0 ?_
  refine r_iload C dX8_takes_6 4 rfl ?_
  refine r_isub C dX8_takes_8 ?_
  refine r_istore C dX8_takes_9 (Nat.le_of_ble_eq_true rfl) rfl ?_
  refine r_aload_n C dX8_takes_11 rfl 1 rfl ?_
  refine gf_8_42 C dX8_takes_12 (cn_8 (by decide)) ?_
  refine r_iload_n C dX8_takes_15 rfl 2 rfl ?_
  refine r_iconst C dX8_takes_16 ic_0 ?_
  refine r_iadd C dX8_takes_17 ?_
  refine r_dup2 C dX8_takes_18 rfl rfl ?_
  obtain ⟨h0, h⟩ := h
  refine r_iaload C dX8_takes_19 ak_61 (cn_61 (by decide)) al_61 h0 ?_
  refine r_iconst C dX8_takes_20 ic_1 ?_
  refine r_iadd C dX8_takes_21 ?_
  obtain ⟨h0, h⟩ := h
  refine r_iastore C dX8_takes_22 ak_61 (cn_61 (by decide)) al_61 h0 ?_
  have h := h _ rfl
  refine r_aload_n C dX8_takes_23 rfl 1 rfl ?_
  refine gf_8_42 C dX8_takes_24 (cn_8 (by decide)) ?_
  refine r_iload_n C dX8_takes_27 rfl 2 rfl ?_
  refine r_iconst C dX8_takes_28 ic_3 ?_
  refine r_iadd C dX8_takes_29 ?_
  refine r_iload_n C dX8_takes_30 rfl 4 rfl ?_
  obtain ⟨h0, h⟩ := h
  refine r_iastore C dX8_takes_31 ak_61 (cn_61 (by decide)) al_61 h0 ?_
  have h := h _ rfl
  refine r_aload_n C dX8_takes_32 rfl 1 rfl ?_
  refine gf_8_42 C dX8_takes_33 (cn_8 (by decide)) ?_
  refine r_iload_n C dX8_takes_36 rfl 2 rfl ?_
  refine r_iconst C dX8_takes_37 ic_4 ?_
  refine r_iadd C dX8_takes_38 ?_
  refine r_aload_n C dX8_takes_39 rfl 1 rfl ?_
  refine gf_8_42 C dX8_takes_40 (cn_8 (by decide)) ?_
  refine r_iconst C dX8_takes_43 ic_0 ?_
  obtain ⟨h0, h⟩ := h
  refine r_iaload C dX8_takes_44 ak_61 (cn_61 (by decide)) al_61 h0 ?_
  obtain ⟨h0, h⟩ := h
  refine r_iastore C dX8_takes_45 ak_61 (cn_61 (by decide)) al_61 h0 ?_
  have h := h _ rfl
  refine r_aload_n C dX8_takes_46 rfl 1 rfl ?_
  refine gf_8_42 C dX8_takes_47 (cn_8 (by decide)) ?_
  refine r_iload_n C dX8_takes_50 rfl 2 rfl ?_
  refine r_iconst C dX8_takes_51 ic_5 ?_
  refine r_iadd C dX8_takes_52 ?_
  refine r_iload_n C dX8_takes_53 rfl 3 rfl ?_
  obtain ⟨h0, h⟩ := h
  refine r_iastore C dX8_takes_54 ak_61 (cn_61 (by decide)) al_61 h0 ?_
  have h := h _ rfl
  refine r_aload_n C dX8_takes_55 rfl 1 rfl ?_
  refine gf_8_42 C dX8_takes_56 (cn_8 (by decide)) ?_
  refine r_iload_n C dX8_takes_59 rfl 2 rfl ?_
  refine r_bipush C dX8_takes_60 bi_6 ?_
  refine r_iadd C dX8_takes_62 ?_
  refine r_aload_n C dX8_takes_63 rfl 1 rfl ?_
  refine gf_8_42 C dX8_takes_64 (cn_8 (by decide)) ?_
  refine r_iload_n C dX8_takes_67 rfl 2 rfl ?_
  refine r_bipush C dX8_takes_68 bi_6 ?_
  refine r_iadd C dX8_takes_70 ?_
  obtain ⟨h0, h⟩ := h
  refine r_iaload C dX8_takes_71 ak_61 (cn_61 (by decide)) al_61 h0 ?_
  refine r_bipush C dX8_takes_72 bi_m2 ?_
  refine r_icmp_eq (tgt := 91) C dX8_takes_74 rfl (fun q => ?_) (fun q => ?_)
  · have h := h.1 q
    refine r_sub [1, 2, 4, 0] rfl ?_
    exact j91 _ _ _ _ _ h
  · have h := h.2 q
    refine r_iload C dX8_takes_77 0 rfl ?_
    refine r_aload_n C dX8_takes_79 rfl 1 rfl ?_
    refine gf_8_42 C dX8_takes_80 (cn_8 (by decide)) ?_
    refine r_iload_n C dX8_takes_83 rfl 2 rfl ?_
    refine r_bipush C dX8_takes_84 bi_6 ?_
    refine r_iadd C dX8_takes_86 ?_
    obtain ⟨h0, h⟩ := h
    refine r_iaload C dX8_takes_87 ak_61 (cn_61 (by decide)) al_61 h0 ?_
    refine r_icmp_le (tgt := 96) C dX8_takes_88 rfl (fun q => ?_) (fun q => ?_)
    · have h := h.1 q
      refine r_aload_n C dX8_takes_96 rfl 1 rfl ?_
      refine gf_8_42 C dX8_takes_97 (cn_8 (by decide)) ?_
      refine r_iload_n C dX8_takes_100 rfl 2 rfl ?_
      refine r_bipush C dX8_takes_101 bi_6 ?_
      refine r_iadd C dX8_takes_103 ?_
      obtain ⟨h0, h⟩ := h
      refine r_iaload C dX8_takes_104 ak_61 (cn_61 (by decide)) al_61 h0 ?_
      refine r_sub [1, 2, 4, 0] rfl ?_
      exact j105 _ _ _ _ _ _ h
    · have h := h.2 q
      refine r_sub [1, 2, 4, 0] rfl ?_
      exact j91 _ _ _ _ _ h
def L_X8_arrivesAtEnd_3 (Q : Hp → Prop) (K20 : Int32 → Hp → Prop) (y1 : Int32) (y2 : Int32) (y3 : Int32) (y4 : Int32) (y5 : Int32) : Nat → Int32 → Hp → Prop
  | 0, _, _ => False
  | n + 1, y6, σ =>
  S_X8_receiverOf y3 y6 σ (fun r2 σ1 => ((r2 = y2 → K20 y6 σ1) ∧ (¬ r2 = y2 → L_X8_arrivesAtEnd_3 Q K20 y1 y2 y3 y4 y5 n (y6 + 1) σ1)))
def S_X8_arrivesAtEnd (x1 : Int32) (x2 : Int32) (x3 : Int32) (x4 : Int32) (x5 : Int32) (σ : Hp) (Q : Hp → Prop) : Prop :=
  (∃ n3, L_X8_arrivesAtEnd_3 Q (fun w5 σ4 => S_X8_hearAt x3 w5 σ4 (fun r7 σ6 => S_X8_isWhole r7 x1 x4 σ6 (fun r9 σ8 => vp_in ((r7 + 8) + x1) 1809 ∧ ∀ σ10, σ10 = sI σ8 61 0 (ix ((r7 + 8) + x1)) x4 → ((¬ r9 = 0 → S_X8_isTaken r7 x4 σ10 (fun r12 σ11 => ((r12 = 0 → vp_in (r7 + 2) 1809 ∧ vp_in (r7 + 2) 1809 ∧ ∀ σ13, σ13 = sI σ11 61 0 (ix (r7 + 2)) ((gI σ11 61 0 (ix (r7 + 2))) + 1) → Q σ13) ∧ (¬ r12 = 0 → S_X8_takes r7 x1 x4 x5 σ11 (fun σ14 => Q σ14))))) ∧ (r9 = 0 → vp_in (r7 + 1) 1809 ∧ vp_in (r7 + 1) 1809 ∧ ∀ σ15, σ15 = sI σ10 61 0 (ix (r7 + 1)) ((gI σ10 61 0 (ix (r7 + 1))) + 1) → Q σ15))))) x1 x2 x3 x4 x5 n3 0 σ)
set_option maxHeartbeats 2000000 in
set_option maxRecDepth 20000 in
theorem ok_X8_arrivesAtEnd (l : Launch) (g : Gm) (x1 : Int32) (x2 : Int32) (x3 : Int32) (x4 : Int32) (x5 : Int32) (σ : Hp) (Q : Hp → Prop) (h : S_X8_arrivesAtEnd x1 x2 x3 x4 x5 σ Q) : Ct l g yX8_arrivesAtEnd cX8_arrivesAtEnd 9 none 2 [.ref (gad g 8 0), .int x1, .int x2, .int x3, .int x4, .int x5] σ (QV Q) := by
  refine Ct.of (by decide +kernel) (Nat.le_of_ble_eq_true rfl) ?_
  intro p e R s m args below meth c C
  have C : Cx g p R s m args meth c cX8_arrivesAtEnd 9 RX8 none 2 := C
  have l3 : ∀ (K20 : Int32 → Hp → Prop) (y1 : Int32) (y2 : Int32) (y3 : Int32) (y4 : Int32) (y5 : Int32) (hK20 : ∀ (v6 : Int32) (σ : Hp), K20 v6 σ → G g p l e R s m args below meth c (QV Q) 9 20 [(0, .ref (gad g 8 0)), (1, .int y1), (3, .int y3), (4, .int y4), (5, .int y5), (6, .int v6)] [] σ) (n : Nat) (y6 : Int32) (σ : Hp), L_X8_arrivesAtEnd_3 Q K20 y1 y2 y3 y4 y5 n y6 σ → G g p l e R s m args below meth c (QV Q) 9 3 [(0, .ref (gad g 8 0)), (1, .int y1), (2, .int y2), (3, .int y3), (4, .int y4), (5, .int y5), (6, .int y6)] [] σ := by
    intro K20 y1 y2 y3 y4 y5 hK20 n
    induction n with
    | zero => intro y6 σ h; exact False.elim h
    | succ n ih =>
      intro y6 σ h
      unfold L_X8_arrivesAtEnd_3 at h
      refine r_aload_n C dX8_arrivesAtEnd_3 rfl 0 rfl ?_
      refine r_iload_n C dX8_arrivesAtEnd_4 rfl 3 rfl ?_
      refine r_iload C dX8_arrivesAtEnd_5 6 rfl ?_
      refine r_callVi [] C dX8_arrivesAtEnd_7 w_8_230 (ok_X8_receiverOf l g _ _ _ _ h) (Nat.le_of_ble_eq_true rfl) rfl rfl ak_8 (cn_8 (by decide)) rfl rfl (Nat.le_of_ble_eq_true rfl) (fun r2 σ1 h => ?_)
      refine r_iload_n C dX8_arrivesAtEnd_10 rfl 2 rfl ?_
      refine r_icmp_eq (tgt := 20) C dX8_arrivesAtEnd_11 rfl (fun q => ?_) (fun q => ?_)
      · have h := h.1 q
        refine r_sub [0, 1, 3, 4, 5, 6] rfl ?_
        exact hK20 _ _ h
      · have h := h.2 q
        refine r_iinc (v := y6 + 1) C dX8_arrivesAtEnd_14 6 rfl rfl (Nat.le_of_ble_eq_true rfl) rfl ?_
        refine r_goto (tgt := 3) C dX8_arrivesAtEnd_17 rfl ?_
        refine r_sub [1, 2, 3, 4, 5, 6, 0] rfl ?_
        exact ih _ _ h
  unfold S_X8_arrivesAtEnd at h
  show G g p l e R s m args below meth c (QV Q) 9 0 [(0, .ref (gad g 8 0)), (1, .int x1), (2, .int x2), (3, .int x3), (4, .int x4), (5, .int x5)] [] σ
  refine r_iconst C dX8_arrivesAtEnd_0 ic_0 ?_
  refine r_istore C dX8_arrivesAtEnd_1 (Nat.le_of_ble_eq_true rfl) rfl ?_
  refine r_sub [1, 2, 3, 4, 5, 6, 0] rfl ?_
  obtain ⟨n3, h⟩ := h
  refine l3 _ _ _ _ _ _ (fun w5 σ4 h => ?_) n3 _ _ h
  refine r_iload_n C dX8_arrivesAtEnd_20 rfl 2 rfl ?_
  refine r_iload C dX8_arrivesAtEnd_21 5 rfl ?_
  refine r_callSi [] C dX8_arrivesAtEnd_23 w_8_252 (ok_X8_hearAt l g _ _ _ _ h) (Nat.le_of_ble_eq_true rfl) rfl rfl (Nat.le_of_ble_eq_true rfl) (fun r7 σ6 h => ?_)
  refine r_istore C dX8_arrivesAtEnd_26 (Nat.le_of_ble_eq_true rfl) rfl ?_
  refine r_aload_n C dX8_arrivesAtEnd_28 rfl 1 rfl ?_
  refine r_iload C dX8_arrivesAtEnd_29 0 rfl ?_
  refine r_iload_n C dX8_arrivesAtEnd_31 rfl 2 rfl ?_
  refine r_iload C dX8_arrivesAtEnd_32 4 rfl ?_
  refine r_callVi [] C dX8_arrivesAtEnd_34 w_8_277 (ok_X8_isWhole l g _ _ _ _ _ h) (Nat.le_of_ble_eq_true rfl) rfl rfl ak_8 (cn_8 (by decide)) rfl rfl (Nat.le_of_ble_eq_true rfl) (fun r9 σ8 h => ?_)
  refine r_istore C dX8_arrivesAtEnd_37 (Nat.le_of_ble_eq_true rfl) rfl ?_
  refine r_aload_n C dX8_arrivesAtEnd_39 rfl 2 rfl ?_
  refine gf_8_42 C dX8_arrivesAtEnd_40 (cn_8 (by decide)) ?_
  refine r_iload C dX8_arrivesAtEnd_43 1 rfl ?_
  refine r_bipush C dX8_arrivesAtEnd_45 bi_8 ?_
  refine r_iadd C dX8_arrivesAtEnd_47 ?_
  refine r_iload_n C dX8_arrivesAtEnd_48 rfl 3 rfl ?_
  refine r_iadd C dX8_arrivesAtEnd_49 ?_
  refine r_iload C dX8_arrivesAtEnd_50 5 rfl ?_
  obtain ⟨h0, h⟩ := h
  refine r_iastore C dX8_arrivesAtEnd_52 ak_61 (cn_61 (by decide)) al_61 h0 ?_
  have h := h _ rfl
  refine r_iload C dX8_arrivesAtEnd_53 0 rfl ?_
  refine r_if_ne (tgt := 74) C dX8_arrivesAtEnd_55 rfl (fun q => ?_) (fun q => ?_)
  · have h := h.1 q
    refine r_aload_n C dX8_arrivesAtEnd_74 rfl 2 rfl ?_
    refine r_iload C dX8_arrivesAtEnd_75 1 rfl ?_
    refine r_iload C dX8_arrivesAtEnd_77 5 rfl ?_
    refine r_callVi [] C dX8_arrivesAtEnd_79 w_8_280 (ok_X8_isTaken l g _ _ _ _ h) (Nat.le_of_ble_eq_true rfl) rfl rfl ak_8 (cn_8 (by decide)) rfl rfl (Nat.le_of_ble_eq_true rfl) (fun r12 σ11 h => ?_)
    refine r_if_eq (tgt := 99) C dX8_arrivesAtEnd_82 rfl (fun q => ?_) (fun q => ?_)
    · have h := h.1 q
      refine r_aload_n C dX8_arrivesAtEnd_99 rfl 2 rfl ?_
      refine gf_8_42 C dX8_arrivesAtEnd_100 (cn_8 (by decide)) ?_
      refine r_iload C dX8_arrivesAtEnd_103 1 rfl ?_
      refine r_iconst C dX8_arrivesAtEnd_105 ic_2 ?_
      refine r_iadd C dX8_arrivesAtEnd_106 ?_
      refine r_dup2 C dX8_arrivesAtEnd_107 rfl rfl ?_
      obtain ⟨h0, h⟩ := h
      refine r_iaload C dX8_arrivesAtEnd_108 ak_61 (cn_61 (by decide)) al_61 h0 ?_
      refine r_iconst C dX8_arrivesAtEnd_109 ic_1 ?_
      refine r_iadd C dX8_arrivesAtEnd_110 ?_
      obtain ⟨h0, h⟩ := h
      refine r_iastore C dX8_arrivesAtEnd_111 ak_61 (cn_61 (by decide)) al_61 h0 ?_
      have h := h _ rfl
      exact r_return C dX8_arrivesAtEnd_112 ⟨rfl, h⟩
    · have h := h.2 q
      refine r_aload_n C dX8_arrivesAtEnd_85 rfl 2 rfl ?_
      refine r_iload C dX8_arrivesAtEnd_86 1 rfl ?_
      refine r_iload_n C dX8_arrivesAtEnd_88 rfl 3 rfl ?_
      refine r_iload C dX8_arrivesAtEnd_89 5 rfl ?_
      refine r_iload C dX8_arrivesAtEnd_91 6 rfl ?_
      refine r_callVv [] C dX8_arrivesAtEnd_93 w_8_283 (ok_X8_takes l g _ _ _ _ _ _ h) (Nat.le_of_ble_eq_true rfl) rfl rfl ak_8 (cn_8 (by decide)) rfl rfl (Nat.le_of_ble_eq_true rfl) (fun σ14 h => ?_)
      refine r_goto (tgt := 112) C dX8_arrivesAtEnd_96 rfl ?_
      exact r_return C dX8_arrivesAtEnd_112 ⟨rfl, h⟩
  · have h := h.2 q
    refine r_aload_n C dX8_arrivesAtEnd_58 rfl 2 rfl ?_
    refine gf_8_42 C dX8_arrivesAtEnd_59 (cn_8 (by decide)) ?_
    refine r_iload C dX8_arrivesAtEnd_62 1 rfl ?_
    refine r_iconst C dX8_arrivesAtEnd_64 ic_1 ?_
    refine r_iadd C dX8_arrivesAtEnd_65 ?_
    refine r_dup2 C dX8_arrivesAtEnd_66 rfl rfl ?_
    obtain ⟨h0, h⟩ := h
    refine r_iaload C dX8_arrivesAtEnd_67 ak_61 (cn_61 (by decide)) al_61 h0 ?_
    refine r_iconst C dX8_arrivesAtEnd_68 ic_1 ?_
    refine r_iadd C dX8_arrivesAtEnd_69 ?_
    obtain ⟨h0, h⟩ := h
    refine r_iastore C dX8_arrivesAtEnd_70 ak_61 (cn_61 (by decide)) al_61 h0 ?_
    have h := h _ rfl
    refine r_goto (tgt := 112) C dX8_arrivesAtEnd_71 rfl ?_
    exact r_return C dX8_arrivesAtEnd_112 ⟨rfl, h⟩
def L_X8_leaves_65 (Q : Hp → Prop) (K110 : Hp → Prop) (y1 : Int32) (y2 : Int32) (y3 : Int32) (y4 : Int32) (y5 : Int32) (y6 : Int32) : Nat → Int32 → Hp → Prop
  | 0, _, _ => False
  | n + 1, y7, σ =>
  vp_in (y3 + 0) 1809 ∧ (((3 * (gI σ 61 0 (ix (y3 + 0)))) ≤ y7 → K110 σ) ∧ (¬ (3 * (gI σ 61 0 (ix (y3 + 0)))) ≤ y7 → vp_in (((y3 + 3) + y7) + 3) 1809 ∧ vp_in ((y3 + 3) + y7) 1809 ∧ ∀ σ5, σ5 = sI σ 61 0 (ix ((y3 + 3) + y7)) (gI σ 61 0 (ix (((y3 + 3) + y7) + 3))) → L_X8_leaves_65 Q K110 y1 y2 y3 y4 y5 y6 n (y7 + 1) σ5))
def S_X8_leaves (x1 : Int32) (x2 : Int32) (σ : Hp) (Q : Hp → Prop) : Prop :=
  S_X8_portAt x1 x2 σ (fun r2 σ1 => vp_in (r2 + 3) 1809 ∧ vp_in ((r2 + 3) + 1) 1809 ∧ vp_in ((r2 + 3) + 2) 1809 ∧ vp_in (r2 + 0) 1809 ∧ vp_in (r2 + 0) 1809 ∧ ∀ σ3, σ3 = sI σ1 61 0 (ix (r2 + 0)) ((gI σ1 61 0 (ix (r2 + 0))) - 1) → vp_in (r2 + 1) 1809 ∧ ∀ σ4, σ4 = sI σ3 61 0 (ix (r2 + 1)) (-2) → (∃ n6, L_X8_leaves_65 Q (fun σ7 => S_X8_in x2 6 11 σ7 (fun r9 σ8 => ((r9 = 0 → S_X8_arrivesAtSwitch x1 x2 (gI σ1 61 0 (ix (r2 + 3))) (gI σ1 61 0 (ix ((r2 + 3) + 1))) (gI σ1 61 0 (ix ((r2 + 3) + 2))) σ8 (fun σ10 => Q σ10)) ∧ (¬ r9 = 0 → S_X8_arrivesAtEnd x1 (x2 - 6) (gI σ1 61 0 (ix (r2 + 3))) (gI σ1 61 0 (ix ((r2 + 3) + 1))) (gI σ1 61 0 (ix ((r2 + 3) + 2))) σ8 (fun σ11 => Q σ11))))) x1 x2 r2 (gI σ1 61 0 (ix (r2 + 3))) (gI σ1 61 0 (ix ((r2 + 3) + 1))) (gI σ1 61 0 (ix ((r2 + 3) + 2))) n6 0 σ4))
set_option maxHeartbeats 2000000 in
set_option maxRecDepth 20000 in
theorem ok_X8_leaves (l : Launch) (g : Gm) (x1 : Int32) (x2 : Int32) (σ : Hp) (Q : Hp → Prop) (h : S_X8_leaves x1 x2 σ Q) : Ct l g yX8_leaves cX8_leaves 8 none 4 [.ref (gad g 8 0), .int x1, .int x2] σ (QV Q) := by
  refine Ct.of (by decide +kernel) (Nat.le_of_ble_eq_true rfl) ?_
  intro p e R s m args below meth c C
  have C : Cx g p R s m args meth c cX8_leaves 8 RX8 none 4 := C
  have l65 : ∀ (K110 : Hp → Prop) (y1 : Int32) (y2 : Int32) (y3 : Int32) (y4 : Int32) (y5 : Int32) (y6 : Int32) (hK110 : ∀ (σ : Hp), K110 σ → G g p l e R s m args below meth c (QV Q) 8 110 [(0, .ref (gad g 8 0)), (1, .int y1), (2, .int y2), (4, .int y4), (5, .int y5), (6, .int y6)] [] σ) (n : Nat) (y7 : Int32) (σ : Hp), L_X8_leaves_65 Q K110 y1 y2 y3 y4 y5 y6 n y7 σ → G g p l e R s m args below meth c (QV Q) 8 65 [(0, .ref (gad g 8 0)), (1, .int y1), (2, .int y2), (3, .int y3), (4, .int y4), (5, .int y5), (6, .int y6), (7, .int y7)] [] σ := by
    intro K110 y1 y2 y3 y4 y5 y6 hK110 n
    induction n with
    | zero => intro y7 σ h; exact False.elim h
    | succ n ih =>
      intro y7 σ h
      unfold L_X8_leaves_65 at h
      refine r_iload C dX8_leaves_65 7 rfl ?_
      refine r_iconst C dX8_leaves_67 ic_3 ?_
      refine r_aload_n C dX8_leaves_68 rfl 0 rfl ?_
      refine gf_8_42 C dX8_leaves_69 (cn_8 (by decide)) ?_
      refine r_iload_n C dX8_leaves_72 rfl 3 rfl ?_
      refine r_iconst C dX8_leaves_73 ic_0 ?_
      refine r_iadd C dX8_leaves_74 ?_
      obtain ⟨h0, h⟩ := h
      refine r_iaload C dX8_leaves_75 ak_61 (cn_61 (by decide)) al_61 h0 ?_
      refine r_imul C dX8_leaves_76 ?_
      refine r_icmp_ge (tgt := 110) C dX8_leaves_77 rfl (fun q => ?_) (fun q => ?_)
      · have h := h.1 q
        refine r_sub [0, 1, 2, 4, 5, 6] rfl ?_
        exact hK110 _ h
      · have h := h.2 q
        refine r_aload_n C dX8_leaves_80 rfl 0 rfl ?_
        refine gf_8_42 C dX8_leaves_81 (cn_8 (by decide)) ?_
        refine r_iload_n C dX8_leaves_84 rfl 3 rfl ?_
        refine r_iconst C dX8_leaves_85 ic_3 ?_
        refine r_iadd C dX8_leaves_86 ?_
        refine r_iload C dX8_leaves_87 7 rfl ?_
        refine r_iadd C dX8_leaves_89 ?_
        refine r_aload_n C dX8_leaves_90 rfl 0 rfl ?_
        refine gf_8_42 C dX8_leaves_91 (cn_8 (by decide)) ?_
        refine r_iload_n C dX8_leaves_94 rfl 3 rfl ?_
        refine r_iconst C dX8_leaves_95 ic_3 ?_
        refine r_iadd C dX8_leaves_96 ?_
        refine r_iload C dX8_leaves_97 7 rfl ?_
        refine r_iadd C dX8_leaves_99 ?_
        refine r_iconst C dX8_leaves_100 ic_3 ?_
        refine r_iadd C dX8_leaves_101 ?_
        obtain ⟨h0, h⟩ := h
        refine r_iaload C dX8_leaves_102 ak_61 (cn_61 (by decide)) al_61 h0 ?_
        obtain ⟨h0, h⟩ := h
        refine r_iastore C dX8_leaves_103 ak_61 (cn_61 (by decide)) al_61 h0 ?_
        have h := h _ rfl
        refine r_iinc (v := y7 + 1) C dX8_leaves_104 7 rfl rfl (Nat.le_of_ble_eq_true rfl) rfl ?_
        refine r_goto (tgt := 65) C dX8_leaves_107 rfl ?_
        refine r_sub [1, 2, 3, 4, 5, 6, 7, 0] rfl ?_
        exact ih _ _ h
  unfold S_X8_leaves at h
  show G g p l e R s m args below meth c (QV Q) 8 0 [(0, .ref (gad g 8 0)), (1, .int x1), (2, .int x2)] [] σ
  refine r_iload_n C dX8_leaves_0 rfl 1 rfl ?_
  refine r_iload_n C dX8_leaves_1 rfl 2 rfl ?_
  refine r_callSi [] C dX8_leaves_2 w_8_255 (ok_X8_portAt l g _ _ _ _ h) (Nat.le_of_ble_eq_true rfl) rfl rfl (Nat.le_of_ble_eq_true rfl) (fun r2 σ1 h => ?_)
  refine r_istore_n C dX8_leaves_5 rfl (Nat.le_of_ble_eq_true rfl) rfl ?_
  refine r_aload_n C dX8_leaves_6 rfl 1 rfl ?_
  refine gf_8_42 C dX8_leaves_7 (cn_8 (by decide)) ?_
  refine r_iload_n C dX8_leaves_10 rfl 0 rfl ?_
  refine r_iconst C dX8_leaves_11 ic_3 ?_
  refine r_iadd C dX8_leaves_12 ?_
  obtain ⟨h0, h⟩ := h
  refine r_iaload C dX8_leaves_13 ak_61 (cn_61 (by decide)) al_61 h0 ?_
  refine r_istore C dX8_leaves_14 (Nat.le_of_ble_eq_true rfl) rfl ?_
  refine r_aload_n C dX8_leaves_16 rfl 2 rfl ?_
  refine gf_8_42 C dX8_leaves_17 (cn_8 (by decide)) ?_
  refine r_iload_n C dX8_leaves_20 rfl 1 rfl ?_
  refine r_iconst C dX8_leaves_21 ic_3 ?_
  refine r_iadd C dX8_leaves_22 ?_
  refine r_iconst C dX8_leaves_23 ic_1 ?_
  refine r_iadd C dX8_leaves_24 ?_
  obtain ⟨h0, h⟩ := h
  refine r_iaload C dX8_leaves_25 ak_61 (cn_61 (by decide)) al_61 h0 ?_
  refine r_istore C dX8_leaves_26 (Nat.le_of_ble_eq_true rfl) rfl ?_
  refine r_aload_n C dX8_leaves_28 rfl 3 rfl ?_
  refine gf_8_42 C dX8_leaves_29 (cn_8 (by decide)) ?_
  refine r_iload_n C dX8_leaves_32 rfl 2 rfl ?_
  refine r_iconst C dX8_leaves_33 ic_3 ?_
  refine r_iadd C dX8_leaves_34 ?_
  refine r_iconst C dX8_leaves_35 ic_2 ?_
  refine r_iadd C dX8_leaves_36 ?_
  obtain ⟨h0, h⟩ := h
  refine r_iaload C dX8_leaves_37 ak_61 (cn_61 (by decide)) al_61 h0 ?_
  refine r_istore C dX8_leaves_38 (Nat.le_of_ble_eq_true rfl) rfl ?_
  refine r_aload_n C dX8_leaves_40 rfl 4 rfl ?_
  refine gf_8_42 C dX8_leaves_41 (cn_8 (by decide)) ?_
  refine r_iload_n C dX8_leaves_44 rfl 3 rfl ?_
  refine r_iconst C dX8_leaves_45 ic_0 ?_
  refine r_iadd C dX8_leaves_46 ?_
  refine r_dup2 C dX8_leaves_47 rfl rfl ?_
  obtain ⟨h0, h⟩ := h
  refine r_iaload C dX8_leaves_48 ak_61 (cn_61 (by decide)) al_61 h0 ?_
  refine r_iconst C dX8_leaves_49 ic_1 ?_
  refine r_isub C dX8_leaves_50 ?_
  obtain ⟨h0, h⟩ := h
  refine r_iastore C dX8_leaves_51 ak_61 (cn_61 (by decide)) al_61 h0 ?_
  have h := h _ rfl
  refine r_aload_n C dX8_leaves_52 rfl 4 rfl ?_
  refine gf_8_42 C dX8_leaves_53 (cn_8 (by decide)) ?_
  refine r_iload_n C dX8_leaves_56 rfl 3 rfl ?_
  refine r_iconst C dX8_leaves_57 ic_1 ?_
  refine r_iadd C dX8_leaves_58 ?_
  refine r_bipush C dX8_leaves_59 bi_m2 ?_
  obtain ⟨h0, h⟩ := h
  refine r_iastore C dX8_leaves_61 ak_61 (cn_61 (by decide)) al_61 h0 ?_
  have h := h _ rfl
  refine r_iconst C dX8_leaves_62 ic_0 ?_
  refine r_istore C dX8_leaves_63 (Nat.le_of_ble_eq_true rfl) rfl ?_
  refine r_sub [5, 6, 7, 4, 3, 2, 1, 0] rfl ?_
  obtain ⟨n6, h⟩ := h
  refine l65 _ _ _ _ _ _ _ (fun σ7 h => ?_) n6 _ _ h
  refine r_iload_n C dX8_leaves_110 rfl 2 rfl ?_
  refine r_bipush C dX8_leaves_111 bi_6 ?_
  refine r_bipush C dX8_leaves_113 bi_11 ?_
  refine r_callSi [] C dX8_leaves_115 w_8_80 (ok_X8_in l g _ _ _ _ _ h) (Nat.le_of_ble_eq_true rfl) rfl rfl (Nat.le_of_ble_eq_true rfl) (fun r9 σ8 h => ?_)
  refine r_if_eq (tgt := 139) C dX8_leaves_118 rfl (fun q => ?_) (fun q => ?_)
  · have h := h.1 q
    refine r_aload_n C dX8_leaves_139 rfl 0 rfl ?_
    refine r_iload_n C dX8_leaves_140 rfl 1 rfl ?_
    refine r_iload_n C dX8_leaves_141 rfl 2 rfl ?_
    refine r_iload C dX8_leaves_142 3 rfl ?_
    refine r_iload C dX8_leaves_144 4 rfl ?_
    refine r_iload C dX8_leaves_146 5 rfl ?_
    refine r_callVv [] C dX8_leaves_148 w_8_291 (ok_X8_arrivesAtSwitch l g _ _ _ _ _ _ _ h) (Nat.le_of_ble_eq_true rfl) rfl rfl ak_8 (cn_8 (by decide)) rfl rfl (Nat.le_of_ble_eq_true rfl) (fun σ10 h => ?_)
    exact r_return C dX8_leaves_151 ⟨rfl, h⟩
  · have h := h.2 q
    refine r_aload_n C dX8_leaves_121 rfl 0 rfl ?_
    refine r_iload_n C dX8_leaves_122 rfl 1 rfl ?_
    refine r_iload_n C dX8_leaves_123 rfl 2 rfl ?_
    refine r_bipush C dX8_leaves_124 bi_6 ?_
    refine r_isub C dX8_leaves_126 ?_
    refine r_iload C dX8_leaves_127 3 rfl ?_
    refine r_iload C dX8_leaves_129 4 rfl ?_
    refine r_iload C dX8_leaves_131 5 rfl ?_
    refine r_callVv [] C dX8_leaves_133 w_8_287 (ok_X8_arrivesAtEnd l g _ _ _ _ _ _ _ h) (Nat.le_of_ble_eq_true rfl) rfl rfl ak_8 (cn_8 (by decide)) rfl rfl (Nat.le_of_ble_eq_true rfl) (fun σ11 h => ?_)
    refine r_goto (tgt := 151) C dX8_leaves_136 rfl ?_
    exact r_return C dX8_leaves_151 ⟨rfl, h⟩
def S_X8_sends (x1 : Int32) (x2 : Int32) (σ : Hp) (Q : Hp → Prop) : Prop :=
  S_X8_portAt x1 x2 σ (fun r2 σ1 => vp_in (r2 + 1) 1809 ∧ ((¬ (gI σ1 61 0 (ix (r2 + 1))) = (-2) → Q σ1) ∧ ((gI σ1 61 0 (ix (r2 + 1))) = (-2) → vp_in (r2 + 0) 1809 ∧ ((¬ (gI σ1 61 0 (ix (r2 + 0))) = 0 → vp_in (r2 + 3) 1809 ∧ vp_in 0 1809 ∧ S_X8_linkOf (gI σ1 61 0 (ix (r2 + 3))) 2 σ1 (fun r4 σ3 => vp_in (r2 + 1) 1809 ∧ ∀ σ5, σ5 = sI σ3 61 0 (ix (r2 + 1)) ((gI σ1 61 0 (ix 0)) + r4) → vp_in 0 1809 ∧ vp_in ((r2 + 3) + 2) 1809 ∧ (((6 : Int32) ≤ x2 → Q σ5) ∧ (¬ (6 : Int32) ≤ x2 → S_X8_linkAt (gI σ1 61 0 (ix (r2 + 3))) 4 σ5 (fun r7 σ6 => vp_in r7 1809 ∧ ((((gI σ5 61 0 (ix 0)) - (gI σ5 61 0 (ix ((r2 + 3) + 2)))) ≤ (gI σ6 61 0 (ix r7)) → Q σ6) ∧ (¬ ((gI σ5 61 0 (ix 0)) - (gI σ5 61 0 (ix ((r2 + 3) + 2)))) ≤ (gI σ6 61 0 (ix r7)) → S_X8_linkAt (gI σ1 61 0 (ix (r2 + 3))) 4 σ6 (fun r9 σ8 => vp_in r9 1809 ∧ ∀ σ10, σ10 = sI σ8 61 0 (ix r9) ((gI σ5 61 0 (ix 0)) - (gI σ5 61 0 (ix ((r2 + 3) + 2)))) → Q σ10)))))))) ∧ ((gI σ1 61 0 (ix (r2 + 0))) = 0 → Q σ1)))))
set_option maxHeartbeats 2000000 in
set_option maxRecDepth 20000 in
theorem ok_X8_sends (l : Launch) (g : Gm) (x1 : Int32) (x2 : Int32) (σ : Hp) (Q : Hp → Prop) (h : S_X8_sends x1 x2 σ Q) : Ct l g yX8_sends cX8_sends 6 none 1 [.ref (gad g 8 0), .int x1, .int x2] σ (QV Q) := by
  refine Ct.of (by decide +kernel) (Nat.le_of_ble_eq_true rfl) ?_
  intro p e R s m args below meth c C
  have C : Cx g p R s m args meth c cX8_sends 6 RX8 none 1 := C
  unfold S_X8_sends at h
  show G g p l e R s m args below meth c (QV Q) 6 0 [(0, .ref (gad g 8 0)), (1, .int x1), (2, .int x2)] [] σ
  refine r_iload_n C dX8_sends_0 rfl 1 rfl ?_
  refine r_iload_n C dX8_sends_1 rfl 2 rfl ?_
  refine r_callSi [] C dX8_sends_2 w_8_255 (ok_X8_portAt l g _ _ _ _ h) (Nat.le_of_ble_eq_true rfl) rfl rfl (Nat.le_of_ble_eq_true rfl) (fun r2 σ1 h => ?_)
  refine r_istore_n C dX8_sends_5 rfl (Nat.le_of_ble_eq_true rfl) rfl ?_
  refine r_aload_n C dX8_sends_6 rfl 1 rfl ?_
  refine gf_8_42 C dX8_sends_7 (cn_8 (by decide)) ?_
  refine r_iload_n C dX8_sends_10 rfl 0 rfl ?_
  refine r_iconst C dX8_sends_11 ic_1 ?_
  refine r_iadd C dX8_sends_12 ?_
  obtain ⟨h0, h⟩ := h
  refine r_iaload C dX8_sends_13 ak_61 (cn_61 (by decide)) al_61 h0 ?_
  refine r_bipush C dX8_sends_14 bi_m2 ?_
  refine r_icmp_ne (tgt := 30) C dX8_sends_16 rfl (fun q => ?_) (fun q => ?_)
  · have h := h.1 q
    exact r_return C dX8_sends_30 ⟨rfl, h⟩
  · have h := h.2 q
    refine r_aload_n C dX8_sends_19 rfl 1 rfl ?_
    refine gf_8_42 C dX8_sends_20 (cn_8 (by decide)) ?_
    refine r_iload_n C dX8_sends_23 rfl 0 rfl ?_
    refine r_iconst C dX8_sends_24 ic_0 ?_
    refine r_iadd C dX8_sends_25 ?_
    obtain ⟨h0, h⟩ := h
    refine r_iaload C dX8_sends_26 ak_61 (cn_61 (by decide)) al_61 h0 ?_
    refine r_if_ne (tgt := 31) C dX8_sends_27 rfl (fun q => ?_) (fun q => ?_)
    · have h := h.1 q
      refine r_aload_n C dX8_sends_31 rfl 1 rfl ?_
      refine gf_8_42 C dX8_sends_32 (cn_8 (by decide)) ?_
      refine r_iload_n C dX8_sends_35 rfl 0 rfl ?_
      refine r_iconst C dX8_sends_36 ic_3 ?_
      refine r_iadd C dX8_sends_37 ?_
      obtain ⟨h0, h⟩ := h
      refine r_iaload C dX8_sends_38 ak_61 (cn_61 (by decide)) al_61 h0 ?_
      refine r_istore C dX8_sends_39 (Nat.le_of_ble_eq_true rfl) rfl ?_
      refine r_aload_n C dX8_sends_41 rfl 2 rfl ?_
      refine gf_8_42 C dX8_sends_42 (cn_8 (by decide)) ?_
      refine r_iload_n C dX8_sends_45 rfl 1 rfl ?_
      refine r_iconst C dX8_sends_46 ic_1 ?_
      refine r_iadd C dX8_sends_47 ?_
      refine r_aload_n C dX8_sends_48 rfl 2 rfl ?_
      refine gf_8_42 C dX8_sends_49 (cn_8 (by decide)) ?_
      refine r_iconst C dX8_sends_52 ic_0 ?_
      obtain ⟨h0, h⟩ := h
      refine r_iaload C dX8_sends_53 ak_61 (cn_61 (by decide)) al_61 h0 ?_
      refine r_aload_n C dX8_sends_54 rfl 2 rfl ?_
      refine r_iload C dX8_sends_55 0 rfl ?_
      refine r_iconst C dX8_sends_57 ic_2 ?_
      refine r_callVi [.int _, .int _, .ref (gad g 61 0)] C dX8_sends_58 w_8_221 (ok_X8_linkOf l g _ _ _ _ h) (Nat.le_of_ble_eq_true rfl) rfl rfl ak_8 (cn_8 (by decide)) rfl rfl (Nat.le_of_ble_eq_true rfl) (fun r4 σ3 h => ?_)
      refine r_iadd C dX8_sends_61 ?_
      obtain ⟨h0, h⟩ := h
      refine r_iastore C dX8_sends_62 ak_61 (cn_61 (by decide)) al_61 h0 ?_
      have h := h _ rfl
      refine r_aload_n C dX8_sends_63 rfl 2 rfl ?_
      refine gf_8_42 C dX8_sends_64 (cn_8 (by decide)) ?_
      refine r_iconst C dX8_sends_67 ic_0 ?_
      obtain ⟨h0, h⟩ := h
      refine r_iaload C dX8_sends_68 ak_61 (cn_61 (by decide)) al_61 h0 ?_
      refine r_aload_n C dX8_sends_69 rfl 2 rfl ?_
      refine gf_8_42 C dX8_sends_70 (cn_8 (by decide)) ?_
      refine r_iload_n C dX8_sends_73 rfl 1 rfl ?_
      refine r_iconst C dX8_sends_74 ic_3 ?_
      refine r_iadd C dX8_sends_75 ?_
      refine r_iconst C dX8_sends_76 ic_2 ?_
      refine r_iadd C dX8_sends_77 ?_
      obtain ⟨h0, h⟩ := h
      refine r_iaload C dX8_sends_78 ak_61 (cn_61 (by decide)) al_61 h0 ?_
      refine r_isub C dX8_sends_79 ?_
      refine r_istore C dX8_sends_80 (Nat.le_of_ble_eq_true rfl) rfl ?_
      refine r_iload_n C dX8_sends_82 rfl 5 rfl ?_
      refine r_bipush C dX8_sends_83 bi_6 ?_
      refine r_icmp_ge (tgt := 117) C dX8_sends_85 rfl (fun q => ?_) (fun q => ?_)
      · have h := h.1 q
        exact r_return C dX8_sends_117 ⟨rfl, h⟩
      · have h := h.2 q
        refine r_iload C dX8_sends_88 0 rfl ?_
        refine r_aload_n C dX8_sends_90 rfl 3 rfl ?_
        refine gf_8_42 C dX8_sends_91 (cn_8 (by decide)) ?_
        refine r_iload C dX8_sends_94 1 rfl ?_
        refine r_iconst C dX8_sends_96 ic_4 ?_
        refine r_callSi [.ref (gad g 61 0), .int _] C dX8_sends_97 w_8_246 (ok_X8_linkAt l g _ _ _ _ h) (Nat.le_of_ble_eq_true rfl) rfl rfl (Nat.le_of_ble_eq_true rfl) (fun r7 σ6 h => ?_)
        obtain ⟨h0, h⟩ := h
        refine r_iaload C dX8_sends_100 ak_61 (cn_61 (by decide)) al_61 h0 ?_
        refine r_icmp_le (tgt := 117) C dX8_sends_101 rfl (fun q => ?_) (fun q => ?_)
        · have h := h.1 q
          exact r_return C dX8_sends_117 ⟨rfl, h⟩
        · have h := h.2 q
          refine r_aload_n C dX8_sends_104 rfl 3 rfl ?_
          refine gf_8_42 C dX8_sends_105 (cn_8 (by decide)) ?_
          refine r_iload C dX8_sends_108 1 rfl ?_
          refine r_iconst C dX8_sends_110 ic_4 ?_
          refine r_callSi [.ref (gad g 61 0)] C dX8_sends_111 w_8_246 (ok_X8_linkAt l g _ _ _ _ h) (Nat.le_of_ble_eq_true rfl) rfl rfl (Nat.le_of_ble_eq_true rfl) (fun r9 σ8 h => ?_)
          refine r_iload C dX8_sends_114 0 rfl ?_
          obtain ⟨h0, h⟩ := h
          refine r_iastore C dX8_sends_116 ak_61 (cn_61 (by decide)) al_61 h0 ?_
          have h := h _ rfl
          exact r_return C dX8_sends_117 ⟨rfl, h⟩
    · have h := h.2 q
      exact r_return C dX8_sends_30 ⟨rfl, h⟩
