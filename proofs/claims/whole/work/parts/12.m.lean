def S_X5_arriveAtEnd (S : Nat) (P : Nat) (x2 : Int32) (x3 : Int32) (σ : Hp) (Q : Hp → Prop) : Prop :=
  vp_in x3 384 ∧ S_X2_earAt P (gI σ 34 S (ix x3)) ((jrem x2 16) - 6) σ (fun r2 σ1 => ((r2 = (-1) → Q σ1) ∧ (¬ r2 = (-1) → vp_in x3 384 ∧ vp_in x3 384 ∧ S_X0_hear S P r2 (x2 / 16) (gI σ1 35 S (ix x3)) (gI σ1 36 S (ix x3)) (gI σ1 5 S 0) σ1 (fun σ3 => Q σ3))))
set_option maxHeartbeats 2000000 in
set_option maxRecDepth 20000 in
theorem ok_X5_arriveAtEnd (l : Launch) (g : Gm) (S : Nat) (P : Nat) (hS : S < 3) (hP : P < 2) (x2 : Int32) (x3 : Int32) (σ : Hp) (Q : Hp → Prop) (h : S_X5_arriveAtEnd S P x2 x3 σ Q) : Ct l g yX5_arriveAtEnd cX5_arriveAtEnd 5 none 3 [.ref (gad g 5 S), .ref (gad g 2 P), .int x2, .int x3] σ (QV Q) := by
  refine Ct.of (by decide +kernel) (Nat.le_of_ble_eq_true rfl) ?_
  intro p e R s m args below meth c C
  have C : Cx g p R s m args meth c cX5_arriveAtEnd 5 RX5 none 3 := C
  unfold S_X5_arriveAtEnd at h
  show G g p l e R s m args below meth c (QV Q) 5 0 [(0, .ref (gad g 5 S)), (1, .ref (gad g 2 P)), (2, .int x2), (3, .int x3)] [] σ
  refine r_aload_n C dX5_arriveAtEnd_0 rfl 1 rfl ?_
  refine r_aload_n C dX5_arriveAtEnd_1 rfl 0 rfl ?_
  refine gf_5_46 C dX5_arriveAtEnd_2 (cn_5 hS) ?_
  refine gf_5_156 C dX5_arriveAtEnd_5 (cn_3 hS) ?_
  refine r_iload_n C dX5_arriveAtEnd_8 rfl 3 rfl ?_
  obtain ⟨h0, h⟩ := h
  refine r_iaload C dX5_arriveAtEnd_9 ak_34 (cn_34 hS) al_34 h0 ?_
  refine r_iload_n C dX5_arriveAtEnd_10 rfl 2 rfl ?_
  refine r_bipush C dX5_arriveAtEnd_11 bi_16 ?_
  refine r_irem C dX5_arriveAtEnd_13 (by decide) ?_
  refine r_bipush C dX5_arriveAtEnd_14 bi_6 ?_
  refine r_isub C dX5_arriveAtEnd_16 ?_
  refine r_callVi [] C dX5_arriveAtEnd_17 w_5_159 (ok_X2_earAt l g P hP _ _ _ _ h) (Nat.le_of_ble_eq_true rfl) rfl rfl ak_2 (cn_2 hP) rfl rfl (Nat.le_of_ble_eq_true rfl) (fun r2 σ1 h => ?_)
  refine r_istore C dX5_arriveAtEnd_20 (Nat.le_of_ble_eq_true rfl) rfl ?_
  refine r_iload C dX5_arriveAtEnd_22 0 rfl ?_
  refine r_iconst C dX5_arriveAtEnd_24 ic_m1 ?_
  refine r_icmp_eq (tgt := 64) C dX5_arriveAtEnd_25 rfl (fun q => ?_) (fun q => ?_)
  · have h := h.1 q
    exact r_return C dX5_arriveAtEnd_64 ⟨rfl, h⟩
  · have h := h.2 q
    refine r_aload_n C dX5_arriveAtEnd_28 rfl 1 rfl ?_
    refine gf_5_53 C dX5_arriveAtEnd_29 (cn_5 hS) ?_
    refine r_aload_n C dX5_arriveAtEnd_32 rfl 2 rfl ?_
    refine r_iload C dX5_arriveAtEnd_33 0 rfl ?_
    refine r_iload_n C dX5_arriveAtEnd_35 rfl 3 rfl ?_
    refine r_bipush C dX5_arriveAtEnd_36 bi_16 ?_
    refine r_idiv C dX5_arriveAtEnd_38 (by decide) ?_
    refine r_aload_n C dX5_arriveAtEnd_39 rfl 1 rfl ?_
    refine gf_5_46 C dX5_arriveAtEnd_40 (cn_5 hS) ?_
    refine gf_5_162 C dX5_arriveAtEnd_43 (cn_3 hS) ?_
    refine r_iload_n C dX5_arriveAtEnd_46 rfl 4 rfl ?_
    obtain ⟨h0, h⟩ := h
    refine r_iaload C dX5_arriveAtEnd_47 ak_35 (cn_35 hS) al_35 h0 ?_
    refine r_aload_n C dX5_arriveAtEnd_48 rfl 1 rfl ?_
    refine gf_5_46 C dX5_arriveAtEnd_49 (cn_5 hS) ?_
    refine gf_5_163 C dX5_arriveAtEnd_52 (cn_3 hS) ?_
    refine r_iload_n C dX5_arriveAtEnd_55 rfl 4 rfl ?_
    obtain ⟨h0, h⟩ := h
    refine r_iaload C dX5_arriveAtEnd_56 ak_36 (cn_36 hS) al_36 h0 ?_
    refine r_aload_n C dX5_arriveAtEnd_57 rfl 1 rfl ?_
    refine gf_5_9 C dX5_arriveAtEnd_58 (cn_5 hS) ?_
    refine r_callVv [] C dX5_arriveAtEnd_61 w_5_164 (ok_X0_hear l g S P hS hP _ _ _ _ _ _ _ h) (Nat.le_of_ble_eq_true rfl) rfl rfl ak_0 (cn_0 hS) rfl rfl (Nat.le_of_ble_eq_true rfl) (fun σ3 h => ?_)
    exact r_return C dX5_arriveAtEnd_64 ⟨rfl, h⟩
def J_X5_deliver_66 (Q : Hp → Prop) (kb : Int32 → Hp → Prop) (K72 : Hp → Prop) (S : Nat) (P : Nat) (y2 : Int32) (σ : Hp) : Prop :=
  kb (y2 + 1) σ
def L_X5_deliver_2 (Q : Hp → Prop) (K72 : Hp → Prop) (S : Nat) (P : Nat) : Nat → Int32 → Hp → Prop
  | 0, _, _ => False
  | n + 1, y2, σ =>
  (((32 : Int32) ≤ y2 → K72 σ) ∧ (¬ (32 : Int32) ≤ y2 → vp_in y2 32 ∧ ((¬ (gI σ 32 S (ix y2)) = (gI σ 5 S 0) → J_X5_deliver_66 Q (L_X5_deliver_2 Q K72 S P n) K72 S P y2 σ) ∧ ((gI σ 32 S (ix y2)) = (gI σ 5 S 0) → S_X3_slot S y2 0 σ (fun r2 σ1 => S_X3_removeFirst S y2 σ1 (fun σ3 => S_X5_leadsToEnd y2 σ3 (fun r5 σ4 => ((r5 = 0 → S_X5_arriveAtSwitch S P y2 r2 σ4 (fun σ6 => J_X5_deliver_66 Q (L_X5_deliver_2 Q K72 S P n) K72 S P y2 σ6)) ∧ (¬ r5 = 0 → S_X5_arriveAtEnd S P y2 r2 σ4 (fun σ7 => J_X5_deliver_66 Q (L_X5_deliver_2 Q K72 S P n) K72 S P y2 σ7))))))))))
def S_X5_deliver (S : Nat) (P : Nat) (σ : Hp) (Q : Hp → Prop) : Prop :=
  (∃ n8, L_X5_deliver_2 Q (fun σ9 => Q σ9) S P n8 0 σ)
set_option maxHeartbeats 2000000 in
set_option maxRecDepth 20000 in
theorem ok_X5_deliver (l : Launch) (g : Gm) (S : Nat) (P : Nat) (hS : S < 3) (hP : P < 2) (σ : Hp) (Q : Hp → Prop) (h : S_X5_deliver S P σ Q) : Ct l g yX5_deliver cX5_deliver 4 none 4 [.ref (gad g 5 S), .ref (gad g 2 P)] σ (QV Q) := by
  refine Ct.of (by decide +kernel) (Nat.le_of_ble_eq_true rfl) ?_
  intro p e R s m args below meth c C
  have C : Cx g p R s m args meth c cX5_deliver 4 RX5 none 4 := C
  have j66 : ∀ (kb : Int32 → Hp → Prop) (K72 : Hp → Prop) (y2 : Int32) (hkb : ∀ (v2 : Int32) (σ : Hp), kb v2 σ → G g p l e R s m args below meth c (QV Q) 4 2 [(0, .ref (gad g 5 S)), (1, .ref (gad g 2 P)), (2, .int v2)] [] σ) (hK72 : ∀ (σ : Hp), K72 σ → G g p l e R s m args below meth c (QV Q) 4 72 [] [] σ) (σ : Hp), J_X5_deliver_66 Q kb K72 S P y2 σ → G g p l e R s m args below meth c (QV Q) 4 66 [(0, .ref (gad g 5 S)), (1, .ref (gad g 2 P)), (2, .int y2)] [] σ := by
    intro kb K72 y2 hkb hK72 σ h
    unfold J_X5_deliver_66 at h
    refine r_iinc (v := y2 + 1) C dX5_deliver_66 2 rfl rfl (Nat.le_of_ble_eq_true rfl) rfl ?_
    refine r_goto (tgt := 2) C dX5_deliver_69 rfl ?_
    refine r_sub [1, 2, 0] rfl ?_
    exact hkb _ _ h
  have l2 : ∀ (K72 : Hp → Prop) (hK72 : ∀ (σ : Hp), K72 σ → G g p l e R s m args below meth c (QV Q) 4 72 [] [] σ) (n : Nat) (y2 : Int32) (σ : Hp), L_X5_deliver_2 Q K72 S P n y2 σ → G g p l e R s m args below meth c (QV Q) 4 2 [(0, .ref (gad g 5 S)), (1, .ref (gad g 2 P)), (2, .int y2)] [] σ := by
    intro K72 hK72 n
    induction n with
    | zero => intro y2 σ h; exact False.elim h
    | succ n ih =>
      intro y2 σ h
      unfold L_X5_deliver_2 at h
      refine r_iload_n C dX5_deliver_2 rfl 2 rfl ?_
      refine r_bipush C dX5_deliver_3 bi_32 ?_
      refine r_icmp_ge (tgt := 72) C dX5_deliver_5 rfl (fun q => ?_) (fun q => ?_)
      · have h := h.1 q
        refine r_sub [] rfl ?_
        exact hK72 _ h
      · have h := h.2 q
        refine r_aload_n C dX5_deliver_8 rfl 0 rfl ?_
        refine gf_5_46 C dX5_deliver_9 (cn_5 hS) ?_
        refine gf_5_135 C dX5_deliver_12 (cn_3 hS) ?_
        refine r_iload_n C dX5_deliver_15 rfl 2 rfl ?_
        obtain ⟨h0, h⟩ := h
        refine r_iaload C dX5_deliver_16 ak_32 (cn_32 hS) al_32 h0 ?_
        refine r_aload_n C dX5_deliver_17 rfl 0 rfl ?_
        refine gf_5_9 C dX5_deliver_18 (cn_5 hS) ?_
        refine r_icmp_ne (tgt := 66) C dX5_deliver_21 rfl (fun q => ?_) (fun q => ?_)
        · have h := h.1 q
          exact j66 _ _ _ ih hK72 _ h
        · have h := h.2 q
          refine r_aload_n C dX5_deliver_24 rfl 0 rfl ?_
          refine gf_5_46 C dX5_deliver_25 (cn_5 hS) ?_
          refine r_iload_n C dX5_deliver_28 rfl 2 rfl ?_
          refine r_iconst C dX5_deliver_29 ic_0 ?_
          refine r_callVi [] C dX5_deliver_30 w_5_138 (ok_X3_slot l g S hS _ _ _ _ h) (Nat.le_of_ble_eq_true rfl) rfl rfl ak_3 (cn_3 hS) rfl rfl (Nat.le_of_ble_eq_true rfl) (fun r2 σ1 h => ?_)
          refine r_istore_n C dX5_deliver_33 rfl (Nat.le_of_ble_eq_true rfl) rfl ?_
          refine r_aload_n C dX5_deliver_34 rfl 1 rfl ?_
          refine gf_5_46 C dX5_deliver_35 (cn_5 hS) ?_
          refine r_iload_n C dX5_deliver_38 rfl 3 rfl ?_
          refine r_callVv [] C dX5_deliver_39 w_5_141 (ok_X3_removeFirst l g S hS _ _ _ h) (Nat.le_of_ble_eq_true rfl) rfl rfl ak_3 (cn_3 hS) rfl rfl (Nat.le_of_ble_eq_true rfl) (fun σ3 h => ?_)
          refine r_iload_n C dX5_deliver_42 rfl 3 rfl ?_
          refine r_callSi [] C dX5_deliver_43 w_5_145 (ok_X5_leadsToEnd l g _ _ _ h) (Nat.le_of_ble_eq_true rfl) rfl rfl (Nat.le_of_ble_eq_true rfl) (fun r5 σ4 h => ?_)
          refine r_if_eq (tgt := 59) C dX5_deliver_46 rfl (fun q => ?_) (fun q => ?_)
          · have h := h.1 q
            refine r_aload_n C dX5_deliver_59 rfl 1 rfl ?_
            refine r_aload_n C dX5_deliver_60 rfl 2 rfl ?_
            refine r_iload_n C dX5_deliver_61 rfl 3 rfl ?_
            refine r_iload_n C dX5_deliver_62 rfl 0 rfl ?_
            refine r_callVv [] C dX5_deliver_63 w_5_153 (ok_X5_arriveAtSwitch l g S P hS hP _ _ _ _ h) (Nat.le_of_ble_eq_true rfl) rfl rfl ak_5 (cn_5 hS) rfl rfl (Nat.le_of_ble_eq_true rfl) (fun σ6 h => ?_)
            refine r_sub [1, 2, 3] rfl ?_
            exact j66 _ _ _ ih hK72 _ h
          · have h := h.2 q
            refine r_aload_n C dX5_deliver_49 rfl 1 rfl ?_
            refine r_aload_n C dX5_deliver_50 rfl 2 rfl ?_
            refine r_iload_n C dX5_deliver_51 rfl 3 rfl ?_
            refine r_iload_n C dX5_deliver_52 rfl 0 rfl ?_
            refine r_callVv [] C dX5_deliver_53 w_5_149 (ok_X5_arriveAtEnd l g S P hS hP _ _ _ _ h) (Nat.le_of_ble_eq_true rfl) rfl rfl ak_5 (cn_5 hS) rfl rfl (Nat.le_of_ble_eq_true rfl) (fun σ7 h => ?_)
            refine r_goto (tgt := 66) C dX5_deliver_56 rfl ?_
            refine r_sub [1, 2, 3] rfl ?_
            exact j66 _ _ _ ih hK72 _ h
  unfold S_X5_deliver at h
  show G g p l e R s m args below meth c (QV Q) 4 0 [(0, .ref (gad g 5 S)), (1, .ref (gad g 2 P))] [] σ
  refine r_iconst C dX5_deliver_0 ic_0 ?_
  refine r_istore_n C dX5_deliver_1 rfl (Nat.le_of_ble_eq_true rfl) rfl ?_
  refine r_sub [1, 2, 0] rfl ?_
  obtain ⟨n8, h⟩ := h
  refine l2 _ (fun σ9 h => ?_) n8 _ _ h
  exact r_return C dX5_deliver_72 ⟨rfl, h⟩
def J_X5_bear_82 (Q : Int32 → Hp → Prop) (kb : Int32 → Int32 → Hp → Prop) (K90 : Int32 → Hp → Prop) (S : Nat) (P : Nat) (y2 : Int32) (y4 : Int32) (z0 : Int32) (z1 : Int32) (σ : Hp) : Prop :=
  kb (z1 + z0) (y4 + 1) σ
def J_X5_bear_69 (Q : Int32 → Hp → Prop) (kb : Int32 → Int32 → Hp → Prop) (K90 : Int32 → Hp → Prop) (S : Nat) (P : Nat) (y2 : Int32) (y3 : Int32) (y4 : Int32) (y5 : Int32) (z0 : Int32) (z1 : Int32) (z2 : Int32) (σ : Hp) : Prop :=
  vp_in z2 6 ∧ ∀ σ3, σ3 = sI σ 39 S (ix z2) (z1 + z0) → ((y5 = 0 → J_X5_bear_82 Q kb K90 S P y2 y4 1 y3 σ3) ∧ (¬ y5 = 0 → J_X5_bear_82 Q kb K90 S P y2 y4 0 y3 σ3))
def L_X5_bear_5 (Q : Int32 → Hp → Prop) (K90 : Int32 → Hp → Prop) (S : Nat) (P : Nat) (y2 : Int32) : Nat → Int32 → Int32 → Hp → Prop
  | 0, _, _, _ => False
  | n + 1, y3, y4, σ =>
  (((2 : Int32) ≤ y4 → K90 y3 σ) ∧ (¬ (2 : Int32) ≤ y4 → vp_in y2 8 ∧ vp_in y2 8 ∧ S_X3_admits S (gI σ 2 P 1) ((y4 * 16) + (gI σ 25 P (ix y2))) y2 (gI σ 42 S (ix y2)) (gI σ 5 S 0) σ (fun r2 σ1 => vp_in ((y4 * 3) + 0) 6 ∧ ((r2 = 0 → J_X5_bear_69 Q (L_X5_bear_5 Q K90 S P y2 n) K90 S P y2 y3 y4 r2 1 (gI σ1 39 S (ix ((y4 * 3) + 0))) ((y4 * 3) + 0) σ1) ∧ (¬ r2 = 0 → J_X5_bear_69 Q (L_X5_bear_5 Q K90 S P y2 n) K90 S P y2 y3 y4 r2 0 (gI σ1 39 S (ix ((y4 * 3) + 0))) ((y4 * 3) + 0) σ1)))))
def S_X5_bear (S : Nat) (P : Nat) (x2 : Int32) (σ : Hp) (Q : Int32 → Hp → Prop) : Prop :=
  (∃ n4, L_X5_bear_5 Q (fun w6 σ5 => vp_in x2 8 ∧ S_X7_numberBehind (gI σ5 42 S (ix x2)) σ5 (fun r8 σ7 => vp_in x2 8 ∧ ∀ σ9, σ9 = sI σ7 42 S (ix x2) r8 → vp_in x2 8 ∧ vp_in x2 8 ∧ ∀ σ10, σ10 = sI σ9 43 S (ix x2) ((gI σ9 43 S (ix x2)) + 1) → Q w6 σ10)) S P x2 n4 0 0 σ)
set_option maxHeartbeats 2000000 in
set_option maxRecDepth 20000 in
theorem ok_X5_bear (l : Launch) (g : Gm) (S : Nat) (P : Nat) (hS : S < 3) (hP : P < 2) (x2 : Int32) (σ : Hp) (Q : Int32 → Hp → Prop) (h : S_X5_bear S P x2 σ Q) : Ct l g yX5_bear cX5_bear 6 (some .int) 2 [.ref (gad g 5 S), .ref (gad g 2 P), .int x2] σ (QI Q) := by
  refine Ct.of (by decide +kernel) (Nat.le_of_ble_eq_true rfl) ?_
  intro p e R s m args below meth c C
  have C : Cx g p R s m args meth c cX5_bear 6 RX5 (some .int) 2 := C
  have j82 : ∀ (kb : Int32 → Int32 → Hp → Prop) (K90 : Int32 → Hp → Prop) (y2 : Int32) (y4 : Int32) (z0 : Int32) (z1 : Int32) (hkb : ∀ (v3 : Int32) (v4 : Int32) (σ : Hp), kb v3 v4 σ → G g p l e R s m args below meth c (QI Q) 6 5 [(0, .ref (gad g 5 S)), (1, .ref (gad g 2 P)), (2, .int y2), (3, .int v3), (4, .int v4)] [] σ) (hK90 : ∀ (v3 : Int32) (σ : Hp), K90 v3 σ → G g p l e R s m args below meth c (QI Q) 6 90 [(0, .ref (gad g 5 S)), (2, .int y2), (3, .int v3)] [] σ) (σ : Hp), J_X5_bear_82 Q kb K90 S P y2 y4 z0 z1 σ → G g p l e R s m args below meth c (QI Q) 6 82 [(0, .ref (gad g 5 S)), (1, .ref (gad g 2 P)), (2, .int y2), (4, .int y4)] [.int z0, .int z1] σ := by
    intro kb K90 y2 y4 z0 z1 hkb hK90 σ h
    unfold J_X5_bear_82 at h
    refine r_iadd C dX5_bear_82 ?_
    refine r_istore_n C dX5_bear_83 rfl (Nat.le_of_ble_eq_true rfl) rfl ?_
    refine r_iinc (v := y4 + 1) C dX5_bear_84 4 rfl rfl (Nat.le_of_ble_eq_true rfl) rfl ?_
    refine r_goto (tgt := 5) C dX5_bear_87 rfl ?_
    refine r_sub [2, 3, 4, 1, 0] rfl ?_
    exact hkb _ _ _ h
  have j69 : ∀ (kb : Int32 → Int32 → Hp → Prop) (K90 : Int32 → Hp → Prop) (y2 : Int32) (y3 : Int32) (y4 : Int32) (y5 : Int32) (z0 : Int32) (z1 : Int32) (z2 : Int32) (hkb : ∀ (v3 : Int32) (v4 : Int32) (σ : Hp), kb v3 v4 σ → G g p l e R s m args below meth c (QI Q) 6 5 [(0, .ref (gad g 5 S)), (1, .ref (gad g 2 P)), (2, .int y2), (3, .int v3), (4, .int v4)] [] σ) (hK90 : ∀ (v3 : Int32) (σ : Hp), K90 v3 σ → G g p l e R s m args below meth c (QI Q) 6 90 [(0, .ref (gad g 5 S)), (2, .int y2), (3, .int v3)] [] σ) (σ : Hp), J_X5_bear_69 Q kb K90 S P y2 y3 y4 y5 z0 z1 z2 σ → G g p l e R s m args below meth c (QI Q) 6 69 [(0, .ref (gad g 5 S)), (1, .ref (gad g 2 P)), (2, .int y2), (3, .int y3), (4, .int y4), (5, .int y5)] [.int z0, .int z1, .int z2, .ref (gad g 39 S)] σ := by
    intro kb K90 y2 y3 y4 y5 z0 z1 z2 hkb hK90 σ h
    unfold J_X5_bear_69 at h
    refine r_iadd C dX5_bear_69 ?_
    obtain ⟨h0, h⟩ := h
    refine r_iastore C dX5_bear_70 ak_39 (cn_39 hS) al_39 h0 ?_
    have h := h _ rfl
    refine r_iload_n C dX5_bear_71 rfl 3 rfl ?_
    refine r_iload C dX5_bear_72 5 rfl ?_
    refine r_if_eq (tgt := 81) C dX5_bear_74 rfl (fun q => ?_) (fun q => ?_)
    · have h := h.1 q
      refine r_iconst C dX5_bear_81 ic_1 ?_
      refine r_sub [0, 1, 2, 4] rfl ?_
      exact j82 _ _ _ _ _ _ hkb hK90 _ h
    · have h := h.2 q
      refine r_iconst C dX5_bear_77 ic_0 ?_
      refine r_goto (tgt := 82) C dX5_bear_78 rfl ?_
      refine r_sub [0, 1, 2, 4] rfl ?_
      exact j82 _ _ _ _ _ _ hkb hK90 _ h
  have l5 : ∀ (K90 : Int32 → Hp → Prop) (y2 : Int32) (hK90 : ∀ (v3 : Int32) (σ : Hp), K90 v3 σ → G g p l e R s m args below meth c (QI Q) 6 90 [(0, .ref (gad g 5 S)), (2, .int y2), (3, .int v3)] [] σ) (n : Nat) (y3 : Int32) (y4 : Int32) (σ : Hp), L_X5_bear_5 Q K90 S P y2 n y3 y4 σ → G g p l e R s m args below meth c (QI Q) 6 5 [(0, .ref (gad g 5 S)), (1, .ref (gad g 2 P)), (2, .int y2), (3, .int y3), (4, .int y4)] [] σ := by
    intro K90 y2 hK90 n
    induction n with
    | zero => intro y3 y4 σ h; exact False.elim h
    | succ n ih =>
      intro y3 y4 σ h
      unfold L_X5_bear_5 at h
      refine r_iload C dX5_bear_5 4 rfl ?_
      refine r_iconst C dX5_bear_7 ic_2 ?_
      refine r_icmp_ge (tgt := 90) C dX5_bear_8 rfl (fun q => ?_) (fun q => ?_)
      · have h := h.1 q
        refine r_sub [0, 2, 3] rfl ?_
        exact hK90 _ _ h
      · have h := h.2 q
        refine r_aload_n C dX5_bear_11 rfl 0 rfl ?_
        refine gf_5_46 C dX5_bear_12 (cn_5 hS) ?_
        refine r_aload_n C dX5_bear_15 rfl 1 rfl ?_
        refine gf_5_188 C dX5_bear_16 (cn_2 hP) ?_
        refine r_iload C dX5_bear_19 4 rfl ?_
        refine r_bipush C dX5_bear_21 bi_16 ?_
        refine r_imul C dX5_bear_23 ?_
        refine r_aload_n C dX5_bear_24 rfl 1 rfl ?_
        refine gf_5_94 C dX5_bear_25 (cn_2 hP) ?_
        refine r_iload_n C dX5_bear_28 rfl 2 rfl ?_
        obtain ⟨h0, h⟩ := h
        refine r_iaload C dX5_bear_29 ak_25 (cn_25 hP) al_25 h0 ?_
        refine r_iadd C dX5_bear_30 ?_
        refine r_iload_n C dX5_bear_31 rfl 2 rfl ?_
        refine r_aload_n C dX5_bear_32 rfl 0 rfl ?_
        refine gf_5_28 C dX5_bear_33 (cn_5 hS) ?_
        refine r_iload_n C dX5_bear_36 rfl 2 rfl ?_
        obtain ⟨h0, h⟩ := h
        refine r_iaload C dX5_bear_37 ak_42 (cn_42 hS) al_42 h0 ?_
        refine r_aload_n C dX5_bear_38 rfl 0 rfl ?_
        refine gf_5_9 C dX5_bear_39 (cn_5 hS) ?_
        refine r_callVi [] C dX5_bear_42 w_5_191 (ok_X3_admits l g S hS _ _ _ _ _ _ _ h) (Nat.le_of_ble_eq_true rfl) rfl rfl ak_3 (cn_3 hS) rfl rfl (Nat.le_of_ble_eq_true rfl) (fun r2 σ1 h => ?_)
        refine r_istore C dX5_bear_45 (Nat.le_of_ble_eq_true rfl) rfl ?_
        refine r_aload_n C dX5_bear_47 rfl 1 rfl ?_
        refine gf_5_19 C dX5_bear_48 (cn_5 hS) ?_
        refine r_iload C dX5_bear_51 5 rfl ?_
        refine r_iconst C dX5_bear_53 ic_3 ?_
        refine r_imul C dX5_bear_54 ?_
        refine r_iconst C dX5_bear_55 ic_0 ?_
        refine r_iadd C dX5_bear_56 ?_
        refine r_dup2 C dX5_bear_57 rfl rfl ?_
        obtain ⟨h0, h⟩ := h
        refine r_iaload C dX5_bear_58 ak_39 (cn_39 hS) al_39 h0 ?_
        refine r_iload C dX5_bear_59 0 rfl ?_
        refine r_if_eq (tgt := 68) C dX5_bear_61 rfl (fun q => ?_) (fun q => ?_)
        · have h := h.1 q
          refine r_iconst C dX5_bear_68 ic_1 ?_
          refine r_sub [1, 2, 3, 4, 5, 0] rfl ?_
          exact j69 _ _ _ _ _ _ _ _ _ ih hK90 _ h
        · have h := h.2 q
          refine r_iconst C dX5_bear_64 ic_0 ?_
          refine r_goto (tgt := 69) C dX5_bear_65 rfl ?_
          refine r_sub [1, 2, 3, 4, 5, 0] rfl ?_
          exact j69 _ _ _ _ _ _ _ _ _ ih hK90 _ h
  unfold S_X5_bear at h
  show G g p l e R s m args below meth c (QI Q) 6 0 [(0, .ref (gad g 5 S)), (1, .ref (gad g 2 P)), (2, .int x2)] [] σ
  refine r_iconst C dX5_bear_0 ic_0 ?_
  refine r_istore_n C dX5_bear_1 rfl (Nat.le_of_ble_eq_true rfl) rfl ?_
  refine r_iconst C dX5_bear_2 ic_0 ?_
  refine r_istore C dX5_bear_3 (Nat.le_of_ble_eq_true rfl) rfl ?_
  refine r_sub [2, 3, 4, 1, 0] rfl ?_
  obtain ⟨n4, h⟩ := h
  refine l5 _ _ (fun w6 σ5 h => ?_) n4 _ _ _ h
  refine r_aload_n C dX5_bear_90 rfl 0 rfl ?_
  refine gf_5_28 C dX5_bear_91 (cn_5 hS) ?_
  refine r_iload_n C dX5_bear_94 rfl 1 rfl ?_
  refine r_aload_n C dX5_bear_95 rfl 0 rfl ?_
  refine gf_5_28 C dX5_bear_96 (cn_5 hS) ?_
  refine r_iload_n C dX5_bear_99 rfl 1 rfl ?_
  obtain ⟨h0, h⟩ := h
  refine r_iaload C dX5_bear_100 ak_42 (cn_42 hS) al_42 h0 ?_
  refine r_callNi [.int _, .ref (gad g 42 S)] C dX5_bear_101 w_5_198 (ok_X7_numberBehind l g _ _ _ h) (Nat.le_of_ble_eq_true rfl) rfl rfl (Nat.le_of_ble_eq_true rfl) (fun r8 σ7 h => ?_)
  obtain ⟨h0, h⟩ := h
  refine r_iastore C dX5_bear_104 ak_42 (cn_42 hS) al_42 h0 ?_
  have h := h _ rfl
  refine r_aload_n C dX5_bear_105 rfl 0 rfl ?_
  refine gf_5_31 C dX5_bear_106 (cn_5 hS) ?_
  refine r_iload_n C dX5_bear_109 rfl 1 rfl ?_
  refine r_dup2 C dX5_bear_110 rfl rfl ?_
  obtain ⟨h0, h⟩ := h
  refine r_iaload C dX5_bear_111 ak_43 (cn_43 hS) al_43 h0 ?_
  refine r_iconst C dX5_bear_112 ic_1 ?_
  refine r_iadd C dX5_bear_113 ?_
  obtain ⟨h0, h⟩ := h
  refine r_iastore C dX5_bear_114 ak_43 (cn_43 hS) al_43 h0 ?_
  have h := h _ rfl
  refine r_iload_n C dX5_bear_115 rfl 2 rfl ?_
  exact r_ireturn C dX5_bear_116 ⟨_, rfl, h⟩
def J_X5_release_66 (Q : Hp → Prop) (kb : Int32 → Hp → Prop) (K72 : Hp → Prop) (S : Nat) (P : Nat) (y2 : Int32) (σ : Hp) : Prop :=
  kb (y2 + 1) σ
def L_X5_release_2 (Q : Hp → Prop) (K72 : Hp → Prop) (S : Nat) (P : Nat) : Nat → Int32 → Hp → Prop
  | 0, _, _ => False
  | n + 1, y2, σ =>
  (((gI σ 2 P 6) ≤ y2 → K72 σ) ∧ (¬ (gI σ 2 P 6) ≤ y2 → vp_in y2 8 ∧ (((gI σ 40 S (ix y2)) ≤ 0 → J_X5_release_66 Q (L_X5_release_2 Q K72 S P n) K72 S P y2 σ) ∧ (¬ (gI σ 40 S (ix y2)) ≤ 0 → vp_in y2 8 ∧ (((gI σ 5 S 0) < (gI σ 41 S (ix y2)) → J_X5_release_66 Q (L_X5_release_2 Q K72 S P n) K72 S P y2 σ) ∧ (¬ (gI σ 5 S 0) < (gI σ 41 S (ix y2)) → vp_in y2 8 ∧ vp_in y2 8 ∧ ∀ σ1, σ1 = sI σ 40 S (ix y2) ((gI σ 40 S (ix y2)) - 1) → S_X5_bear S P y2 σ1 (fun r3 σ2 => vp_in y2 8 ∧ vp_in y2 8 ∧ ∀ σ4, σ4 = sI σ2 41 S (ix y2) ((gI σ2 5 S 0) + (gI σ2 26 P (ix y2))) → J_X5_release_66 Q (L_X5_release_2 Q K72 S P n) K72 S P y2 σ4)))))))
def S_X5_release (S : Nat) (P : Nat) (σ : Hp) (Q : Hp → Prop) : Prop :=
  (∃ n5, L_X5_release_2 Q (fun σ6 => Q σ6) S P n5 0 σ)
set_option maxHeartbeats 2000000 in
set_option maxRecDepth 20000 in
theorem ok_X5_release (l : Launch) (g : Gm) (S : Nat) (P : Nat) (hS : S < 3) (hP : P < 2) (σ : Hp) (Q : Hp → Prop) (h : S_X5_release S P σ Q) : Ct l g yX5_release cX5_release 3 none 3 [.ref (gad g 5 S), .ref (gad g 2 P)] σ (QV Q) := by
  refine Ct.of (by decide +kernel) (Nat.le_of_ble_eq_true rfl) ?_
  intro p e R s m args below meth c C
  have C : Cx g p R s m args meth c cX5_release 3 RX5 none 3 := C
  have j66 : ∀ (kb : Int32 → Hp → Prop) (K72 : Hp → Prop) (y2 : Int32) (hkb : ∀ (v2 : Int32) (σ : Hp), kb v2 σ → G g p l e R s m args below meth c (QV Q) 3 2 [(0, .ref (gad g 5 S)), (1, .ref (gad g 2 P)), (2, .int v2)] [] σ) (hK72 : ∀ (σ : Hp), K72 σ → G g p l e R s m args below meth c (QV Q) 3 72 [] [] σ) (σ : Hp), J_X5_release_66 Q kb K72 S P y2 σ → G g p l e R s m args below meth c (QV Q) 3 66 [(0, .ref (gad g 5 S)), (1, .ref (gad g 2 P)), (2, .int y2)] [] σ := by
    intro kb K72 y2 hkb hK72 σ h
    unfold J_X5_release_66 at h
    refine r_iinc (v := y2 + 1) C dX5_release_66 2 rfl rfl (Nat.le_of_ble_eq_true rfl) rfl ?_
    refine r_goto (tgt := 2) C dX5_release_69 rfl ?_
    refine r_sub [1, 2, 0] rfl ?_
    exact hkb _ _ h
  have l2 : ∀ (K72 : Hp → Prop) (hK72 : ∀ (σ : Hp), K72 σ → G g p l e R s m args below meth c (QV Q) 3 72 [] [] σ) (n : Nat) (y2 : Int32) (σ : Hp), L_X5_release_2 Q K72 S P n y2 σ → G g p l e R s m args below meth c (QV Q) 3 2 [(0, .ref (gad g 5 S)), (1, .ref (gad g 2 P)), (2, .int y2)] [] σ := by
    intro K72 hK72 n
    induction n with
    | zero => intro y2 σ h; exact False.elim h
    | succ n ih =>
      intro y2 σ h
      unfold L_X5_release_2 at h
      refine r_iload_n C dX5_release_2 rfl 2 rfl ?_
      refine r_aload_n C dX5_release_3 rfl 1 rfl ?_
      refine gf_5_63 C dX5_release_4 (cn_2 hP) ?_
      refine r_icmp_ge (tgt := 72) C dX5_release_7 rfl (fun q => ?_) (fun q => ?_)
      · have h := h.1 q
        refine r_sub [] rfl ?_
        exact hK72 _ h
      · have h := h.2 q
        refine r_aload_n C dX5_release_10 rfl 0 rfl ?_
        refine gf_5_22 C dX5_release_11 (cn_5 hS) ?_
        refine r_iload_n C dX5_release_14 rfl 2 rfl ?_
        obtain ⟨h0, h⟩ := h
        refine r_iaload C dX5_release_15 ak_40 (cn_40 hS) al_40 h0 ?_
        refine r_if_le (tgt := 66) C dX5_release_16 rfl (fun q => ?_) (fun q => ?_)
        · have h := h.1 q
          exact j66 _ _ _ ih hK72 _ h
        · have h := h.2 q
          refine r_aload_n C dX5_release_19 rfl 0 rfl ?_
          refine gf_5_25 C dX5_release_20 (cn_5 hS) ?_
          refine r_iload_n C dX5_release_23 rfl 2 rfl ?_
          obtain ⟨h0, h⟩ := h
          refine r_iaload C dX5_release_24 ak_41 (cn_41 hS) al_41 h0 ?_
          refine r_aload_n C dX5_release_25 rfl 0 rfl ?_
          refine gf_5_9 C dX5_release_26 (cn_5 hS) ?_
          refine r_icmp_gt (tgt := 66) C dX5_release_29 rfl (fun q => ?_) (fun q => ?_)
          · have h := h.1 q
            exact j66 _ _ _ ih hK72 _ h
          · have h := h.2 q
            refine r_aload_n C dX5_release_32 rfl 0 rfl ?_
            refine gf_5_22 C dX5_release_33 (cn_5 hS) ?_
            refine r_iload_n C dX5_release_36 rfl 2 rfl ?_
            refine r_dup2 C dX5_release_37 rfl rfl ?_
            obtain ⟨h0, h⟩ := h
            refine r_iaload C dX5_release_38 ak_40 (cn_40 hS) al_40 h0 ?_
            refine r_iconst C dX5_release_39 ic_1 ?_
            refine r_isub C dX5_release_40 ?_
            obtain ⟨h0, h⟩ := h
            refine r_iastore C dX5_release_41 ak_40 (cn_40 hS) al_40 h0 ?_
            have h := h _ rfl
            refine r_aload_n C dX5_release_42 rfl 0 rfl ?_
            refine r_aload_n C dX5_release_43 rfl 1 rfl ?_
            refine r_iload_n C dX5_release_44 rfl 2 rfl ?_
            refine r_callVi [] C dX5_release_45 w_5_195 (ok_X5_bear l g S P hS hP _ _ _ h) (Nat.le_of_ble_eq_true rfl) rfl rfl ak_5 (cn_5 hS) rfl rfl (Nat.le_of_ble_eq_true rfl) (fun r3 σ2 h => ?_)
            refine r_pop C dX5_release_48 rfl ?_
            refine r_aload_n C dX5_release_49 rfl 0 rfl ?_
            refine gf_5_25 C dX5_release_50 (cn_5 hS) ?_
            refine r_iload_n C dX5_release_53 rfl 2 rfl ?_
            refine r_aload_n C dX5_release_54 rfl 0 rfl ?_
            refine gf_5_9 C dX5_release_55 (cn_5 hS) ?_
            refine r_aload_n C dX5_release_58 rfl 1 rfl ?_
            refine gf_5_185 C dX5_release_59 (cn_2 hP) ?_
            refine r_iload_n C dX5_release_62 rfl 2 rfl ?_
            obtain ⟨h0, h⟩ := h
            refine r_iaload C dX5_release_63 ak_26 (cn_26 hP) al_26 h0 ?_
            refine r_iadd C dX5_release_64 ?_
            obtain ⟨h0, h⟩ := h
            refine r_iastore C dX5_release_65 ak_41 (cn_41 hS) al_41 h0 ?_
            have h := h _ rfl
            exact j66 _ _ _ ih hK72 _ h
  unfold S_X5_release at h
  show G g p l e R s m args below meth c (QV Q) 3 0 [(0, .ref (gad g 5 S)), (1, .ref (gad g 2 P))] [] σ
  refine r_iconst C dX5_release_0 ic_0 ?_
  refine r_istore_n C dX5_release_1 rfl (Nat.le_of_ble_eq_true rfl) rfl ?_
  refine r_sub [1, 2, 0] rfl ?_
  obtain ⟨n5, h⟩ := h
  refine l2 _ (fun σ6 h => ?_) n5 _ _ h
  exact r_return C dX5_release_72 ⟨rfl, h⟩
def J_X5_beginSending_113 (Q : Hp → Prop) (kb : Int32 → Hp → Prop) (K119 : Hp → Prop) (S : Nat) (P : Nat) (y2 : Int32) (σ : Hp) : Prop :=
  kb (y2 + 1) σ
def L_X5_beginSending_2 (Q : Hp → Prop) (K119 : Hp → Prop) (S : Nat) (P : Nat) : Nat → Int32 → Hp → Prop
  | 0, _, _ => False
  | n + 1, y2, σ =>
  (((32 : Int32) ≤ y2 → K119 σ) ∧ (¬ (32 : Int32) ≤ y2 → vp_in y2 32 ∧ (((gI σ 30 S (ix y2)) ≤ 0 → J_X5_beginSending_113 Q (L_X5_beginSending_2 Q K119 S P n) K119 S P y2 σ) ∧ (¬ (gI σ 30 S (ix y2)) ≤ 0 → S_X3_sends S y2 σ (fun r2 σ1 => ((¬ r2 = 0 → J_X5_beginSending_113 Q (L_X5_beginSending_2 Q K119 S P n) K119 S P y2 σ1) ∧ (r2 = 0 → S_X3_slot S y2 0 σ1 (fun r4 σ3 => vp_in r4 384 ∧ vp_in (gI σ3 34 S (ix r4)) 8 ∧ vp_in y2 32 ∧ ∀ σ5, σ5 = sI σ3 32 S (ix y2) ((gI σ3 5 S 0) + (gI σ3 27 P (ix (gI σ3 34 S (ix r4))))) → (((6 : Int32) ≤ (jrem y2 16) → J_X5_beginSending_113 Q (L_X5_beginSending_2 Q K119 S P n) K119 S P y2 σ5) ∧ (¬ (6 : Int32) ≤ (jrem y2 16) → vp_in (gI σ3 34 S (ix r4)) 8 ∧ vp_in r4 384 ∧ vp_in (gI σ3 34 S (ix r4)) 8 ∧ ∀ σ6, σ6 = sI σ5 44 S (ix (gI σ3 34 S (ix r4))) (if (gI σ5 44 S (ix (gI σ3 34 S (ix r4)))) < ((gI σ5 5 S 0) - (gI σ5 36 S (ix r4))) then ((gI σ5 5 S 0) - (gI σ5 36 S (ix r4))) else (gI σ5 44 S (ix (gI σ3 34 S (ix r4))))) → J_X5_beginSending_113 Q (L_X5_beginSending_2 Q K119 S P n) K119 S P y2 σ6))))))))))
def S_X5_beginSending (S : Nat) (P : Nat) (σ : Hp) (Q : Hp → Prop) : Prop :=
  (∃ n7, L_X5_beginSending_2 Q (fun σ8 => Q σ8) S P n7 0 σ)
set_option maxHeartbeats 2000000 in
set_option maxRecDepth 20000 in
theorem ok_X5_beginSending (l : Launch) (g : Gm) (S : Nat) (P : Nat) (hS : S < 3) (hP : P < 2) (σ : Hp) (Q : Hp → Prop) (h : S_X5_beginSending S P σ Q) : Ct l g yX5_beginSending cX5_beginSending 5 none 1 [.ref (gad g 5 S), .ref (gad g 2 P)] σ (QV Q) := by
  refine Ct.of (by decide +kernel) (Nat.le_of_ble_eq_true rfl) ?_
  intro p e R s m args below meth c C
  have C : Cx g p R s m args meth c cX5_beginSending 5 RX5 none 1 := C
  have j113 : ∀ (kb : Int32 → Hp → Prop) (K119 : Hp → Prop) (y2 : Int32) (hkb : ∀ (v2 : Int32) (σ : Hp), kb v2 σ → G g p l e R s m args below meth c (QV Q) 5 2 [(0, .ref (gad g 5 S)), (1, .ref (gad g 2 P)), (2, .int v2)] [] σ) (hK119 : ∀ (σ : Hp), K119 σ → G g p l e R s m args below meth c (QV Q) 5 119 [] [] σ) (σ : Hp), J_X5_beginSending_113 Q kb K119 S P y2 σ → G g p l e R s m args below meth c (QV Q) 5 113 [(0, .ref (gad g 5 S)), (1, .ref (gad g 2 P)), (2, .int y2)] [] σ := by
    intro kb K119 y2 hkb hK119 σ h
    unfold J_X5_beginSending_113 at h
    refine r_iinc (v := y2 + 1) C dX5_beginSending_113 2 rfl rfl (Nat.le_of_ble_eq_true rfl) rfl ?_
    refine r_goto (tgt := 2) C dX5_beginSending_116 rfl ?_
    refine r_sub [1, 2, 0] rfl ?_
    exact hkb _ _ h
  have l2 : ∀ (K119 : Hp → Prop) (hK119 : ∀ (σ : Hp), K119 σ → G g p l e R s m args below meth c (QV Q) 5 119 [] [] σ) (n : Nat) (y2 : Int32) (σ : Hp), L_X5_beginSending_2 Q K119 S P n y2 σ → G g p l e R s m args below meth c (QV Q) 5 2 [(0, .ref (gad g 5 S)), (1, .ref (gad g 2 P)), (2, .int y2)] [] σ := by
    intro K119 hK119 n
    induction n with
    | zero => intro y2 σ h; exact False.elim h
    | succ n ih =>
      intro y2 σ h
      unfold L_X5_beginSending_2 at h
      refine r_iload_n C dX5_beginSending_2 rfl 2 rfl ?_
      refine r_bipush C dX5_beginSending_3 bi_32 ?_
      refine r_icmp_ge (tgt := 119) C dX5_beginSending_5 rfl (fun q => ?_) (fun q => ?_)
      · have h := h.1 q
        refine r_sub [] rfl ?_
        exact hK119 _ h
      · have h := h.2 q
        refine r_aload_n C dX5_beginSending_8 rfl 0 rfl ?_
        refine gf_5_46 C dX5_beginSending_9 (cn_5 hS) ?_
        refine gf_5_201 C dX5_beginSending_12 (cn_3 hS) ?_
        refine r_iload_n C dX5_beginSending_15 rfl 2 rfl ?_
        obtain ⟨h0, h⟩ := h
        refine r_iaload C dX5_beginSending_16 ak_30 (cn_30 hS) al_30 h0 ?_
        refine r_if_le (tgt := 113) C dX5_beginSending_17 rfl (fun q => ?_) (fun q => ?_)
        · have h := h.1 q
          exact j113 _ _ _ ih hK119 _ h
        · have h := h.2 q
          refine r_aload_n C dX5_beginSending_20 rfl 0 rfl ?_
          refine gf_5_46 C dX5_beginSending_21 (cn_5 hS) ?_
          refine r_iload_n C dX5_beginSending_24 rfl 2 rfl ?_
          refine r_callVi [] C dX5_beginSending_25 w_5_204 (ok_X3_sends l g S hS _ _ _ h) (Nat.le_of_ble_eq_true rfl) rfl rfl ak_3 (cn_3 hS) rfl rfl (Nat.le_of_ble_eq_true rfl) (fun r2 σ1 h => ?_)
          refine r_if_ne (tgt := 113) C dX5_beginSending_28 rfl (fun q => ?_) (fun q => ?_)
          · have h := h.1 q
            exact j113 _ _ _ ih hK119 _ h
          · have h := h.2 q
            refine r_aload_n C dX5_beginSending_31 rfl 0 rfl ?_
            refine gf_5_46 C dX5_beginSending_32 (cn_5 hS) ?_
            refine r_iload_n C dX5_beginSending_35 rfl 2 rfl ?_
            refine r_iconst C dX5_beginSending_36 ic_0 ?_
            refine r_callVi [] C dX5_beginSending_37 w_5_138 (ok_X3_slot l g S hS _ _ _ _ h) (Nat.le_of_ble_eq_true rfl) rfl rfl ak_3 (cn_3 hS) rfl rfl (Nat.le_of_ble_eq_true rfl) (fun r4 σ3 h => ?_)
            refine r_istore_n C dX5_beginSending_40 rfl (Nat.le_of_ble_eq_true rfl) rfl ?_
            refine r_aload_n C dX5_beginSending_41 rfl 1 rfl ?_
            refine gf_5_46 C dX5_beginSending_42 (cn_5 hS) ?_
            refine gf_5_156 C dX5_beginSending_45 (cn_3 hS) ?_
            refine r_iload_n C dX5_beginSending_48 rfl 0 rfl ?_
            obtain ⟨h0, h⟩ := h
            refine r_iaload C dX5_beginSending_49 ak_34 (cn_34 hS) al_34 h0 ?_
            refine r_istore C dX5_beginSending_50 (Nat.le_of_ble_eq_true rfl) rfl ?_
            refine r_aload_n C dX5_beginSending_52 rfl 2 rfl ?_
            refine gf_5_46 C dX5_beginSending_53 (cn_5 hS) ?_
            refine gf_5_135 C dX5_beginSending_56 (cn_3 hS) ?_
            refine r_iload_n C dX5_beginSending_59 rfl 4 rfl ?_
            refine r_aload_n C dX5_beginSending_60 rfl 2 rfl ?_
            refine gf_5_9 C dX5_beginSending_61 (cn_5 hS) ?_
            refine r_aload_n C dX5_beginSending_64 rfl 3 rfl ?_
            refine gf_5_132 C dX5_beginSending_65 (cn_2 hP) ?_
            refine r_iload C dX5_beginSending_68 0 rfl ?_
            obtain ⟨h0, h⟩ := h
            refine r_iaload C dX5_beginSending_70 ak_27 (cn_27 hP) al_27 h0 ?_
            refine r_iadd C dX5_beginSending_71 ?_
            obtain ⟨h0, h⟩ := h
            refine r_iastore C dX5_beginSending_72 ak_32 (cn_32 hS) al_32 h0 ?_
            have h := h _ rfl
            refine r_iload_n C dX5_beginSending_73 rfl 4 rfl ?_
            refine r_bipush C dX5_beginSending_74 bi_16 ?_
            refine r_irem C dX5_beginSending_76 (by decide) ?_
            refine r_bipush C dX5_beginSending_77 bi_6 ?_
            refine r_icmp_ge (tgt := 113) C dX5_beginSending_79 rfl (fun q => ?_) (fun q => ?_)
            · have h := h.1 q
              refine r_sub [2, 3, 4] rfl ?_
              exact j113 _ _ _ ih hK119 _ h
            · have h := h.2 q
              refine r_aload_n C dX5_beginSending_82 rfl 2 rfl ?_
              refine gf_5_34 C dX5_beginSending_83 (cn_5 hS) ?_
              refine r_iload C dX5_beginSending_86 0 rfl ?_
              refine r_aload_n C dX5_beginSending_88 rfl 2 rfl ?_
              refine gf_5_34 C dX5_beginSending_89 (cn_5 hS) ?_
              refine r_iload C dX5_beginSending_92 0 rfl ?_
              obtain ⟨h0, h⟩ := h
              refine r_iaload C dX5_beginSending_94 ak_44 (cn_44 hS) al_44 h0 ?_
              refine r_aload_n C dX5_beginSending_95 rfl 2 rfl ?_
              refine gf_5_9 C dX5_beginSending_96 (cn_5 hS) ?_
              refine r_aload_n C dX5_beginSending_99 rfl 2 rfl ?_
              refine gf_5_46 C dX5_beginSending_100 (cn_5 hS) ?_
              refine gf_5_163 C dX5_beginSending_103 (cn_3 hS) ?_
              refine r_iload_n C dX5_beginSending_106 rfl 1 rfl ?_
              obtain ⟨h0, h⟩ := h
              refine r_iaload C dX5_beginSending_107 ak_36 (cn_36 hS) al_36 h0 ?_
              refine r_isub C dX5_beginSending_108 ?_
              refine r_max C dX5_beginSending_109 u4_157 u4_158 u1_10 u4_159 (by decide) (Nat.le_of_ble_eq_true rfl) ?_
              obtain ⟨h0, h⟩ := h
              refine r_iastore C dX5_beginSending_112 ak_44 (cn_44 hS) al_44 h0 ?_
              have h := h _ rfl
              refine r_sub [2, 3, 4] rfl ?_
              exact j113 _ _ _ ih hK119 _ h
  unfold S_X5_beginSending at h
  show G g p l e R s m args below meth c (QV Q) 5 0 [(0, .ref (gad g 5 S)), (1, .ref (gad g 2 P))] [] σ
  refine r_iconst C dX5_beginSending_0 ic_0 ?_
  refine r_istore_n C dX5_beginSending_1 rfl (Nat.le_of_ble_eq_true rfl) rfl ?_
  refine r_sub [1, 2, 0] rfl ?_
  obtain ⟨n7, h⟩ := h
  refine l2 _ (fun σ8 h => ?_) n7 _ _ h
  exact r_return C dX5_beginSending_119 ⟨rfl, h⟩
def J_X5_step_28 (Q : Hp → Prop) (S : Nat) (P : Nat) (y3 : Int32) (σ : Hp) : Prop :=
  ∀ σ3, σ3 = sI σ 5 S 0 ((gI σ 5 S 0) + y3) → S_X5_growCredit S P y3 σ3 (fun σ4 => S_X5_deliver S P σ4 (fun σ5 => S_X5_release S P σ5 (fun σ6 => S_X5_beginSending S P σ6 (fun σ7 => S_X3_noteMost S σ7 (fun σ8 => Q σ8)))))
def S_X5_step (S : Nat) (P : Nat) (x2 : Int32) (σ : Hp) (Q : Hp → Prop) : Prop :=
  S_X5_nextChange S P x2 σ (fun r2 σ1 => (((if 1 < (r2 - (gI σ1 5 S 0)) then (r2 - (gI σ1 5 S 0)) else 1) ≤ 1 → J_X5_step_28 Q S P (if 1 < (r2 - (gI σ1 5 S 0)) then (r2 - (gI σ1 5 S 0)) else 1) σ1) ∧ (¬ (if 1 < (r2 - (gI σ1 5 S 0)) then (r2 - (gI σ1 5 S 0)) else 1) ≤ 1 → S_X3_noteMost S σ1 (fun σ9 => J_X5_step_28 Q S P (if 1 < (r2 - (gI σ1 5 S 0)) then (r2 - (gI σ1 5 S 0)) else 1) σ9))))
set_option maxHeartbeats 2000000 in
set_option maxRecDepth 20000 in
theorem ok_X5_step (l : Launch) (g : Gm) (S : Nat) (P : Nat) (hS : S < 3) (hP : P < 2) (x2 : Int32) (σ : Hp) (Q : Hp → Prop) (h : S_X5_step S P x2 σ Q) : Ct l g yX5_step cX5_step 4 none 5 [.ref (gad g 5 S), .ref (gad g 2 P), .int x2] σ (QV Q) := by
  refine Ct.of (by decide +kernel) (Nat.le_of_ble_eq_true rfl) ?_
  intro p e R s m args below meth c C
  have C : Cx g p R s m args meth c cX5_step 4 RX5 none 5 := C
  have j28 : ∀ (y3 : Int32) (σ : Hp), J_X5_step_28 Q S P y3 σ → G g p l e R s m args below meth c (QV Q) 4 28 [(0, .ref (gad g 5 S)), (1, .ref (gad g 2 P)), (3, .int y3)] [] σ := by
    intro y3 σ h
    unfold J_X5_step_28 at h
    refine r_aload_n C dX5_step_28 rfl 0 rfl ?_
    refine r_dup C dX5_step_29 rfl ?_
    refine gf_5_9 C dX5_step_30 (cn_5 hS) ?_
    refine r_iload_n C dX5_step_33 rfl 2 rfl ?_
    refine r_iadd C dX5_step_34 ?_
    refine pf_5_9 C dX5_step_35 (cn_5 hS) ?_
    have h := h _ rfl
    refine r_aload_n C dX5_step_38 rfl 0 rfl ?_
    refine r_aload_n C dX5_step_39 rfl 1 rfl ?_
    refine r_iload_n C dX5_step_40 rfl 2 rfl ?_
    refine r_callVv [] C dX5_step_41 w_5_114 (ok_X5_growCredit l g S P hS hP _ _ _ h) (Nat.le_of_ble_eq_true rfl) rfl rfl ak_5 (cn_5 hS) rfl rfl (Nat.le_of_ble_eq_true rfl) (fun σ4 h => ?_)
    refine r_aload_n C dX5_step_44 rfl 0 rfl ?_
    refine r_aload_n C dX5_step_45 rfl 1 rfl ?_
    refine r_callVv [] C dX5_step_46 w_5_117 (ok_X5_deliver l g S P hS hP _ _ h) (Nat.le_of_ble_eq_true rfl) rfl rfl ak_5 (cn_5 hS) rfl rfl (Nat.le_of_ble_eq_true rfl) (fun σ5 h => ?_)
    refine r_aload_n C dX5_step_49 rfl 0 rfl ?_
    refine r_aload_n C dX5_step_50 rfl 1 rfl ?_
    refine r_callVv [] C dX5_step_51 w_5_121 (ok_X5_release l g S P hS hP _ _ h) (Nat.le_of_ble_eq_true rfl) rfl rfl ak_5 (cn_5 hS) rfl rfl (Nat.le_of_ble_eq_true rfl) (fun σ6 h => ?_)
    refine r_aload_n C dX5_step_54 rfl 0 rfl ?_
    refine r_aload_n C dX5_step_55 rfl 1 rfl ?_
    refine r_callVv [] C dX5_step_56 w_5_124 (ok_X5_beginSending l g S P hS hP _ _ h) (Nat.le_of_ble_eq_true rfl) rfl rfl ak_5 (cn_5 hS) rfl rfl (Nat.le_of_ble_eq_true rfl) (fun σ7 h => ?_)
    refine r_aload_n C dX5_step_59 rfl 0 rfl ?_
    refine gf_5_46 C dX5_step_60 (cn_5 hS) ?_
    refine r_callVv [] C dX5_step_63 w_5_111 (ok_X3_noteMost l g S hS _ _ h) (Nat.le_of_ble_eq_true rfl) rfl rfl ak_3 (cn_3 hS) rfl rfl (Nat.le_of_ble_eq_true rfl) (fun σ8 h => ?_)
    exact r_return C dX5_step_66 ⟨rfl, h⟩
  unfold S_X5_step at h
  show G g p l e R s m args below meth c (QV Q) 4 0 [(0, .ref (gad g 5 S)), (1, .ref (gad g 2 P)), (2, .int x2)] [] σ
  refine r_iconst C dX5_step_0 ic_1 ?_
  refine r_aload_n C dX5_step_1 rfl 0 rfl ?_
  refine r_aload_n C dX5_step_2 rfl 1 rfl ?_
  refine r_iload_n C dX5_step_3 rfl 2 rfl ?_
  refine r_callVi [.int _] C dX5_step_4 w_5_101 (ok_X5_nextChange l g S P hS hP _ _ _ h) (Nat.le_of_ble_eq_true rfl) rfl rfl ak_5 (cn_5 hS) rfl rfl (Nat.le_of_ble_eq_true rfl) (fun r2 σ1 h => ?_)
  refine r_aload_n C dX5_step_7 rfl 0 rfl ?_
  refine gf_5_9 C dX5_step_8 (cn_5 hS) ?_
  refine r_isub C dX5_step_11 ?_
  refine r_max C dX5_step_12 u4_157 u4_158 u1_10 u4_159 (by decide) (Nat.le_of_ble_eq_true rfl) ?_
  refine r_istore_n C dX5_step_15 rfl (Nat.le_of_ble_eq_true rfl) rfl ?_
  refine r_iload_n C dX5_step_16 rfl 0 rfl ?_
  refine r_iconst C dX5_step_17 ic_1 ?_
  refine r_icmp_le (tgt := 28) C dX5_step_18 rfl (fun q => ?_) (fun q => ?_)
  · have h := h.1 q
    refine r_sub [1, 2, 0] rfl ?_
    exact j28 _ _ h
  · have h := h.2 q
    refine r_aload_n C dX5_step_21 rfl 1 rfl ?_
    refine gf_5_46 C dX5_step_22 (cn_5 hS) ?_
    refine r_callVv [] C dX5_step_25 w_5_111 (ok_X3_noteMost l g S hS _ _ h) (Nat.le_of_ble_eq_true rfl) rfl rfl ak_3 (cn_3 hS) rfl rfl (Nat.le_of_ble_eq_true rfl) (fun σ9 h => ?_)
    refine r_sub [1, 2, 0] rfl ?_
    exact j28 _ _ h
def L_X5_advance_10 (Q : Hp → Prop) (K36 : Hp → Prop) (S : Nat) (P : Nat) (y2 : Int32) (y3 : Int32) : Nat → Int32 → Hp → Prop
  | 0, _, _ => False
  | n + 1, y4, σ =>
  ((y2 ≤ y4 → K36 σ) ∧ (¬ y2 ≤ y4 → ((y3 ≤ (gI σ 5 S 0) → K36 σ) ∧ (¬ y3 ≤ (gI σ 5 S 0) → S_X5_step S P y3 σ (fun σ1 => L_X5_advance_10 Q K36 S P y2 y3 n (y4 + 1) σ1)))))
def S_X5_advance (S : Nat) (P : Nat) (x2 : Int32) (σ : Hp) (Q : Hp → Prop) : Prop :=
  (∃ n2, L_X5_advance_10 Q (fun σ3 => Q σ3) S P x2 ((gI σ 5 S 0) + x2) n2 0 σ)
set_option maxHeartbeats 2000000 in
set_option maxRecDepth 20000 in
theorem ok_X5_advance (l : Launch) (g : Gm) (S : Nat) (P : Nat) (hS : S < 3) (hP : P < 2) (x2 : Int32) (σ : Hp) (Q : Hp → Prop) (h : S_X5_advance S P x2 σ Q) : Ct l g yX5_advance cX5_advance 5 none 6 [.ref (gad g 5 S), .ref (gad g 2 P), .int x2] σ (QV Q) := by
  refine Ct.of (by decide +kernel) (Nat.le_of_ble_eq_true rfl) ?_
  intro p e R s m args below meth c C
  have C : Cx g p R s m args meth c cX5_advance 5 RX5 none 6 := C
  have l10 : ∀ (K36 : Hp → Prop) (y2 : Int32) (y3 : Int32) (hK36 : ∀ (σ : Hp), K36 σ → G g p l e R s m args below meth c (QV Q) 5 36 [] [] σ) (n : Nat) (y4 : Int32) (σ : Hp), L_X5_advance_10 Q K36 S P y2 y3 n y4 σ → G g p l e R s m args below meth c (QV Q) 5 10 [(0, .ref (gad g 5 S)), (1, .ref (gad g 2 P)), (2, .int y2), (3, .int y3), (4, .int y4)] [] σ := by
    intro K36 y2 y3 hK36 n
    induction n with
    | zero => intro y4 σ h; exact False.elim h
    | succ n ih =>
      intro y4 σ h
      unfold L_X5_advance_10 at h
      refine r_iload C dX5_advance_10 4 rfl ?_
      refine r_iload_n C dX5_advance_12 rfl 2 rfl ?_
      refine r_icmp_ge (tgt := 36) C dX5_advance_13 rfl (fun q => ?_) (fun q => ?_)
      · have h := h.1 q
        refine r_sub [] rfl ?_
        exact hK36 _ h
      · have h := h.2 q
        refine r_aload_n C dX5_advance_16 rfl 0 rfl ?_
        refine gf_5_9 C dX5_advance_17 (cn_5 hS) ?_
        refine r_iload_n C dX5_advance_20 rfl 3 rfl ?_
        refine r_icmp_ge (tgt := 36) C dX5_advance_21 rfl (fun q => ?_) (fun q => ?_)
        · have h := h.1 q
          refine r_sub [] rfl ?_
          exact hK36 _ h
        · have h := h.2 q
          refine r_aload_n C dX5_advance_24 rfl 0 rfl ?_
          refine r_aload_n C dX5_advance_25 rfl 1 rfl ?_
          refine r_iload_n C dX5_advance_26 rfl 3 rfl ?_
          refine r_callVv [] C dX5_advance_27 w_5_97 (ok_X5_step l g S P hS hP _ _ _ h) (Nat.le_of_ble_eq_true rfl) rfl rfl ak_5 (cn_5 hS) rfl rfl (Nat.le_of_ble_eq_true rfl) (fun σ1 h => ?_)
          refine r_iinc (v := y4 + 1) C dX5_advance_30 4 rfl rfl (Nat.le_of_ble_eq_true rfl) rfl ?_
          refine r_goto (tgt := 10) C dX5_advance_33 rfl ?_
          refine r_sub [1, 2, 3, 4, 0] rfl ?_
          exact ih _ _ h
  unfold S_X5_advance at h
  show G g p l e R s m args below meth c (QV Q) 5 0 [(0, .ref (gad g 5 S)), (1, .ref (gad g 2 P)), (2, .int x2)] [] σ
  refine r_aload_n C dX5_advance_0 rfl 0 rfl ?_
  refine gf_5_9 C dX5_advance_1 (cn_5 hS) ?_
  refine r_iload_n C dX5_advance_4 rfl 2 rfl ?_
  refine r_iadd C dX5_advance_5 ?_
  refine r_istore_n C dX5_advance_6 rfl (Nat.le_of_ble_eq_true rfl) rfl ?_
  refine r_iconst C dX5_advance_7 ic_0 ?_
  refine r_istore C dX5_advance_8 (Nat.le_of_ble_eq_true rfl) rfl ?_
  refine r_sub [2, 3, 4, 1, 0] rfl ?_
  obtain ⟨n2, h⟩ := h
  refine l10 _ _ _ (fun σ3 h => ?_) n2 _ _ h
  exact r_return C dX5_advance_36 ⟨rfl, h⟩
def J_X6_lengthen_62 (Q : Hp → Prop) (P : Nat) (y1 : Int32) (y2 : Int32) (y3 : Int32) (y4 : Int32) (σ : Hp) : Prop :=
  vp_in ((y2 * 4) + y4) 96 ∧ ∀ σ1, σ1 = sI σ 47 P (ix ((y2 * 4) + y4)) y3 → vp_in y2 24 ∧ ∀ σ2, σ2 = sI σ1 48 P (ix y2) (y4 + 1) → vp_in y3 16 ∧ vp_in y3 16 ∧ ∀ σ3, σ3 = sI σ2 49 P (ix y3) ((gI σ2 49 P (ix y3)) ||| (1 <<< (y1 &&& 31))) → Q σ3
def S_X6_lengthen (P : Nat) (x1 : Int32) (x2 : Int32) (x3 : Int32) (σ : Hp) (Q : Hp → Prop) : Prop :=
  vp_in x2 24 ∧ (((gI σ 48 P (ix x2)) < 4 → (((gI σ 48 P (ix x2)) ≤ 0 → J_X6_lengthen_62 Q P x1 x2 x3 (gI σ 48 P (ix x2)) σ) ∧ (¬ (gI σ 48 P (ix x2)) ≤ 0 → S_X6_portAt P x2 ((gI σ 48 P (ix x2)) - 1) σ (fun r5 σ4 => vp_in ((x1 * 16) + r5) 128 ∧ vp_in ((x1 * 16) + r5) 128 ∧ ∀ σ6, σ6 = sI σ4 50 P (ix ((x1 * 16) + r5)) ((gI σ4 50 P (ix ((x1 * 16) + r5))) ||| (1 <<< (x3 &&& 31))) → vp_in ((x1 * 16) + x3) 128 ∧ ∀ σ7, σ7 = sI σ6 51 P (ix ((x1 * 16) + x3)) r5 → J_X6_lengthen_62 Q P x1 x2 x3 (gI σ 48 P (ix x2)) σ7)))) ∧ (¬ (gI σ 48 P (ix x2)) < 4 → Q σ))
set_option maxHeartbeats 2000000 in
set_option maxRecDepth 20000 in
theorem ok_X6_lengthen (l : Launch) (g : Gm) (P : Nat) (hP : P < 2) (x1 : Int32) (x2 : Int32) (x3 : Int32) (σ : Hp) (Q : Hp → Prop) (h : S_X6_lengthen P x1 x2 x3 σ Q) : Ct l g yX6_lengthen cX6_lengthen 6 none 1 [.ref (gad g 6 P), .int x1, .int x2, .int x3] σ (QV Q) := by
  refine Ct.of (by decide +kernel) (Nat.le_of_ble_eq_true rfl) ?_
  intro p e R s m args below meth c C
  have C : Cx g p R s m args meth c cX6_lengthen 6 RX6 none 1 := C
  have j62 : ∀ (y1 : Int32) (y2 : Int32) (y3 : Int32) (y4 : Int32) (σ : Hp), J_X6_lengthen_62 Q P y1 y2 y3 y4 σ → G g p l e R s m args below meth c (QV Q) 6 62 [(0, .ref (gad g 6 P)), (1, .int y1), (2, .int y2), (3, .int y3), (4, .int y4)] [] σ := by
    intro y1 y2 y3 y4 σ h
    unfold J_X6_lengthen_62 at h
    refine r_aload_n C dX6_lengthen_62 rfl 0 rfl ?_
    refine gf_6_9 C dX6_lengthen_63 (cn_6 hP) ?_
    refine r_iload_n C dX6_lengthen_66 rfl 2 rfl ?_
    refine r_iconst C dX6_lengthen_67 ic_4 ?_
    refine r_imul C dX6_lengthen_68 ?_
    refine r_iload C dX6_lengthen_69 4 rfl ?_
    refine r_iadd C dX6_lengthen_71 ?_
    refine r_iload_n C dX6_lengthen_72 rfl 3 rfl ?_
    obtain ⟨h0, h⟩ := h
    refine r_iastore C dX6_lengthen_73 ak_47 (cn_47 hP) al_47 h0 ?_
    have h := h _ rfl
    refine r_aload_n C dX6_lengthen_74 rfl 0 rfl ?_
    refine gf_6_15 C dX6_lengthen_75 (cn_6 hP) ?_
    refine r_iload_n C dX6_lengthen_78 rfl 2 rfl ?_
    refine r_iload C dX6_lengthen_79 4 rfl ?_
    refine r_iconst C dX6_lengthen_81 ic_1 ?_
    refine r_iadd C dX6_lengthen_82 ?_
    obtain ⟨h0, h⟩ := h
    refine r_iastore C dX6_lengthen_83 ak_48 (cn_48 hP) al_48 h0 ?_
    have h := h _ rfl
    refine r_aload_n C dX6_lengthen_84 rfl 0 rfl ?_
    refine gf_6_18 C dX6_lengthen_85 (cn_6 hP) ?_
    refine r_iload_n C dX6_lengthen_88 rfl 3 rfl ?_
    refine r_dup2 C dX6_lengthen_89 rfl rfl ?_
    obtain ⟨h0, h⟩ := h
    refine r_iaload C dX6_lengthen_90 ak_49 (cn_49 hP) al_49 h0 ?_
    refine r_iconst C dX6_lengthen_91 ic_1 ?_
    refine r_iload_n C dX6_lengthen_92 rfl 1 rfl ?_
    refine r_ishl C dX6_lengthen_93 ?_
    refine r_ior C dX6_lengthen_94 ?_
    obtain ⟨h0, h⟩ := h
    refine r_iastore C dX6_lengthen_95 ak_49 (cn_49 hP) al_49 h0 ?_
    have h := h _ rfl
    exact r_return C dX6_lengthen_96 ⟨rfl, h⟩
  unfold S_X6_lengthen at h
  show G g p l e R s m args below meth c (QV Q) 6 0 [(0, .ref (gad g 6 P)), (1, .int x1), (2, .int x2), (3, .int x3)] [] σ
  refine r_aload_n C dX6_lengthen_0 rfl 0 rfl ?_
  refine gf_6_15 C dX6_lengthen_1 (cn_6 hP) ?_
  refine r_iload_n C dX6_lengthen_4 rfl 2 rfl ?_
  obtain ⟨h0, h⟩ := h
  refine r_iaload C dX6_lengthen_5 ak_48 (cn_48 hP) al_48 h0 ?_
  refine r_istore C dX6_lengthen_6 (Nat.le_of_ble_eq_true rfl) rfl ?_
  refine r_iload C dX6_lengthen_8 0 rfl ?_
  refine r_iconst C dX6_lengthen_10 ic_4 ?_
  refine r_icmp_lt (tgt := 15) C dX6_lengthen_11 rfl (fun q => ?_) (fun q => ?_)
  · have h := h.1 q
    refine r_iload C dX6_lengthen_15 0 rfl ?_
    refine r_if_le (tgt := 62) C dX6_lengthen_17 rfl (fun q => ?_) (fun q => ?_)
    · have h := h.1 q
      refine r_sub [1, 2, 3, 4, 0] rfl ?_
      exact j62 _ _ _ _ _ h
    · have h := h.2 q
      refine r_aload_n C dX6_lengthen_20 rfl 1 rfl ?_
      refine r_iload_n C dX6_lengthen_21 rfl 3 rfl ?_
      refine r_iload C dX6_lengthen_22 0 rfl ?_
      refine r_iconst C dX6_lengthen_24 ic_1 ?_
      refine r_isub C dX6_lengthen_25 ?_
      refine r_callVi [] C dX6_lengthen_26 w_6_63 (ok_X6_portAt l g P hP _ _ _ _ h) (Nat.le_of_ble_eq_true rfl) rfl rfl ak_6 (cn_6 hP) rfl rfl (Nat.le_of_ble_eq_true rfl) (fun r5 σ4 h => ?_)
      refine r_istore C dX6_lengthen_29 (Nat.le_of_ble_eq_true rfl) rfl ?_
      refine r_aload_n C dX6_lengthen_31 rfl 2 rfl ?_
      refine gf_6_21 C dX6_lengthen_32 (cn_6 hP) ?_
      refine r_iload_n C dX6_lengthen_35 rfl 3 rfl ?_
      refine r_bipush C dX6_lengthen_36 bi_16 ?_
      refine r_imul C dX6_lengthen_38 ?_
      refine r_iload C dX6_lengthen_39 0 rfl ?_
      refine r_iadd C dX6_lengthen_41 ?_
      refine r_dup2 C dX6_lengthen_42 rfl rfl ?_
      obtain ⟨h0, h⟩ := h
      refine r_iaload C dX6_lengthen_43 ak_50 (cn_50 hP) al_50 h0 ?_
      refine r_iconst C dX6_lengthen_44 ic_1 ?_
      refine r_iload_n C dX6_lengthen_45 rfl 5 rfl ?_
      refine r_ishl C dX6_lengthen_46 ?_
      refine r_ior C dX6_lengthen_47 ?_
      obtain ⟨h0, h⟩ := h
      refine r_iastore C dX6_lengthen_48 ak_50 (cn_50 hP) al_50 h0 ?_
      have h := h _ rfl
      refine r_aload_n C dX6_lengthen_49 rfl 2 rfl ?_
      refine gf_6_24 C dX6_lengthen_50 (cn_6 hP) ?_
      refine r_iload_n C dX6_lengthen_53 rfl 3 rfl ?_
      refine r_bipush C dX6_lengthen_54 bi_16 ?_
      refine r_imul C dX6_lengthen_56 ?_
      refine r_iload_n C dX6_lengthen_57 rfl 5 rfl ?_
      refine r_iadd C dX6_lengthen_58 ?_
      refine r_iload C dX6_lengthen_59 0 rfl ?_
      obtain ⟨h0, h⟩ := h
      refine r_iastore C dX6_lengthen_61 ak_51 (cn_51 hP) al_51 h0 ?_
      have h := h _ rfl
      refine r_sub [2, 3, 4, 5, 1] rfl ?_
      exact j62 _ _ _ _ _ h
  · have h := h.2 q
    exact r_return C dX6_lengthen_14 ⟨rfl, h⟩
def L_X6_layOne_42 (Q : Hp → Prop) (K66 : Int32 → Hp → Prop) (P : Nat) (P2 : Nat) (y2 : Int32) (y3 : Int32) (y4 : Int32) (y6 : Int32) : Nat → Int32 → Hp → Prop
  | 0, _, _ => False
  | n + 1, y5, σ =>
  ((y6 ≤ y5 → K66 y5 σ) ∧ (¬ y6 ≤ y5 → S_X6_lengthen P y2 y3 (12 + y5) σ (fun σ2 => L_X6_layOne_42 Q K66 P P2 y2 y3 y4 y6 n (y5 + 1) σ2)))
def L_X6_layOne_66 (Q : Hp → Prop) (K92 : Hp → Prop) (P : Nat) (P2 : Nat) (y2 : Int32) (y3 : Int32) (y4 : Int32) (y6 : Int32) : Nat → Int32 → Hp → Prop
  | 0, _, _ => False
  | n + 1, y5, σ =>
  ((y5 ≤ y6 → K92 σ) ∧ (¬ y5 ≤ y6 → S_X6_lengthen P y2 y3 ((14 + y5) - 1) σ (fun σ6 => L_X6_layOne_66 Q K92 P P2 y2 y3 y4 y6 n (y5 + (-1)) σ6)))
def S_X6_layOne (P : Nat) (P2 : Nat) (x2 : Int32) (x3 : Int32) (σ : Hp) (Q : Hp → Prop) : Prop :=
  vp_in x3 24 ∧ vp_in x2 8 ∧ vp_in (gI σ 25 P2 (ix x2)) 6 ∧ vp_in (gI σ 29 P2 (ix x3)) 6 ∧ vp_in x2 8 ∧ S_X6_lengthen P x2 x3 (gI σ 25 P2 (ix x2)) σ (fun σ1 => (∃ n3, L_X6_layOne_42 Q (fun w5 σ4 => (∃ n7, L_X6_layOne_66 Q (fun σ8 => S_X6_lengthen P x2 x3 (6 + (gI σ 29 P2 (ix x3))) σ8 (fun σ9 => Q σ9)) P P2 x2 x3 (gI σ 29 P2 (ix x3)) (gI σ 22 P2 (ix (gI σ 29 P2 (ix x3)))) n7 w5 σ4)) P P2 x2 x3 (gI σ 29 P2 (ix x3)) (gI σ 22 P2 (ix (gI σ 29 P2 (ix x3)))) n3 (gI σ 22 P2 (ix (gI σ 25 P2 (ix x2)))) σ1))
set_option maxHeartbeats 2000000 in
set_option maxRecDepth 20000 in
theorem ok_X6_layOne (l : Launch) (g : Gm) (P : Nat) (P2 : Nat) (hP : P < 2) (hP2 : P2 < 2) (x2 : Int32) (x3 : Int32) (σ : Hp) (Q : Hp → Prop) (h : S_X6_layOne P P2 x2 x3 σ Q) : Ct l g yX6_layOne cX6_layOne 7 none 2 [.ref (gad g 6 P), .ref (gad g 2 P2), .int x2, .int x3] σ (QV Q) := by
  refine Ct.of (by decide +kernel) (Nat.le_of_ble_eq_true rfl) ?_
  intro p e R s m args below meth c C
  have C : Cx g p R s m args meth c cX6_layOne 7 RX6 none 2 := C
  have l42 : ∀ (K66 : Int32 → Hp → Prop) (y2 : Int32) (y3 : Int32) (y4 : Int32) (y6 : Int32) (hK66 : ∀ (v5 : Int32) (σ : Hp), K66 v5 σ → G g p l e R s m args below meth c (QV Q) 7 66 [(0, .ref (gad g 6 P)), (2, .int y2), (3, .int y3), (4, .int y4), (5, .int v5), (6, .int y6)] [] σ) (n : Nat) (y5 : Int32) (σ : Hp), L_X6_layOne_42 Q K66 P P2 y2 y3 y4 y6 n y5 σ → G g p l e R s m args below meth c (QV Q) 7 42 [(0, .ref (gad g 6 P)), (2, .int y2), (3, .int y3), (4, .int y4), (5, .int y5), (6, .int y6)] [] σ := by
    intro K66 y2 y3 y4 y6 hK66 n
    induction n with
    | zero => intro y5 σ h; exact False.elim h
    | succ n ih =>
      intro y5 σ h
      unfold L_X6_layOne_42 at h
      refine r_iload C dX6_layOne_42 4 rfl ?_
      refine r_iload C dX6_layOne_44 5 rfl ?_
      refine r_icmp_ge (tgt := 66) C dX6_layOne_46 rfl (fun q => ?_) (fun q => ?_)
      · have h := h.1 q
        exact hK66 _ _ h
      · have h := h.2 q
        refine r_aload_n C dX6_layOne_49 rfl 0 rfl ?_
        refine r_iload_n C dX6_layOne_50 rfl 1 rfl ?_
        refine r_iload_n C dX6_layOne_51 rfl 2 rfl ?_
        refine r_bipush C dX6_layOne_52 bi_12 ?_
        refine r_iload C dX6_layOne_54 4 rfl ?_
        refine r_iadd C dX6_layOne_56 ?_
        refine r_callVv [] C dX6_layOne_57 w_6_59 (ok_X6_lengthen l g P hP _ _ _ _ _ h) (Nat.le_of_ble_eq_true rfl) rfl rfl ak_6 (cn_6 hP) rfl rfl (Nat.le_of_ble_eq_true rfl) (fun σ2 h => ?_)
        refine r_iinc (v := y5 + 1) C dX6_layOne_60 4 rfl rfl (Nat.le_of_ble_eq_true rfl) rfl ?_
        refine r_goto (tgt := 42) C dX6_layOne_63 rfl ?_
        refine r_sub [1, 2, 3, 4, 0, 5] rfl ?_
        exact ih _ _ h
  have l66 : ∀ (K92 : Hp → Prop) (y2 : Int32) (y3 : Int32) (y4 : Int32) (y6 : Int32) (hK92 : ∀ (σ : Hp), K92 σ → G g p l e R s m args below meth c (QV Q) 7 92 [(0, .ref (gad g 6 P)), (2, .int y2), (3, .int y3), (4, .int y4)] [] σ) (n : Nat) (y5 : Int32) (σ : Hp), L_X6_layOne_66 Q K92 P P2 y2 y3 y4 y6 n y5 σ → G g p l e R s m args below meth c (QV Q) 7 66 [(0, .ref (gad g 6 P)), (2, .int y2), (3, .int y3), (4, .int y4), (5, .int y5), (6, .int y6)] [] σ := by
    intro K92 y2 y3 y4 y6 hK92 n
    induction n with
    | zero => intro y5 σ h; exact False.elim h
    | succ n ih =>
      intro y5 σ h
      unfold L_X6_layOne_66 at h
      refine r_iload C dX6_layOne_66 4 rfl ?_
      refine r_iload C dX6_layOne_68 5 rfl ?_
      refine r_icmp_le (tgt := 92) C dX6_layOne_70 rfl (fun q => ?_) (fun q => ?_)
      · have h := h.1 q
        refine r_sub [0, 1, 2, 3] rfl ?_
        exact hK92 _ h
      · have h := h.2 q
        refine r_aload_n C dX6_layOne_73 rfl 0 rfl ?_
        refine r_iload_n C dX6_layOne_74 rfl 1 rfl ?_
        refine r_iload_n C dX6_layOne_75 rfl 2 rfl ?_
        refine r_bipush C dX6_layOne_76 bi_14 ?_
        refine r_iload C dX6_layOne_78 4 rfl ?_
        refine r_iadd C dX6_layOne_80 ?_
        refine r_iconst C dX6_layOne_81 ic_1 ?_
        refine r_isub C dX6_layOne_82 ?_
        refine r_callVv [] C dX6_layOne_83 w_6_59 (ok_X6_lengthen l g P hP _ _ _ _ _ h) (Nat.le_of_ble_eq_true rfl) rfl rfl ak_6 (cn_6 hP) rfl rfl (Nat.le_of_ble_eq_true rfl) (fun σ6 h => ?_)
        refine r_iinc (v := y5 + (-1)) C dX6_layOne_86 4 rfl rfl (Nat.le_of_ble_eq_true rfl) rfl ?_
        refine r_goto (tgt := 66) C dX6_layOne_89 rfl ?_
        refine r_sub [1, 2, 3, 4, 0, 5] rfl ?_
        exact ih _ _ h
  unfold S_X6_layOne at h
  show G g p l e R s m args below meth c (QV Q) 7 0 [(0, .ref (gad g 6 P)), (1, .ref (gad g 2 P2)), (2, .int x2), (3, .int x3)] [] σ
  refine r_aload_n C dX6_layOne_0 rfl 1 rfl ?_
  refine gf_6_50 C dX6_layOne_1 (cn_2 hP2) ?_
  refine r_iload_n C dX6_layOne_4 rfl 3 rfl ?_
  obtain ⟨h0, h⟩ := h
  refine r_iaload C dX6_layOne_5 ak_29 (cn_29 hP2) al_29 h0 ?_
  refine r_istore C dX6_layOne_6 (Nat.le_of_ble_eq_true rfl) rfl ?_
  refine r_aload_n C dX6_layOne_8 rfl 2 rfl ?_
  refine gf_6_53 C dX6_layOne_9 (cn_2 hP2) ?_
  refine r_aload_n C dX6_layOne_12 rfl 2 rfl ?_
  refine gf_6_56 C dX6_layOne_13 (cn_2 hP2) ?_
  refine r_iload_n C dX6_layOne_16 rfl 3 rfl ?_
  obtain ⟨h0, h⟩ := h
  refine r_iaload C dX6_layOne_17 ak_25 (cn_25 hP2) al_25 h0 ?_
  obtain ⟨h0, h⟩ := h
  refine r_iaload C dX6_layOne_18 ak_22 (cn_22 hP2) al_22 h0 ?_
  refine r_istore C dX6_layOne_19 (Nat.le_of_ble_eq_true rfl) rfl ?_
  refine r_aload_n C dX6_layOne_21 rfl 3 rfl ?_
  refine gf_6_53 C dX6_layOne_22 (cn_2 hP2) ?_
  refine r_iload C dX6_layOne_25 1 rfl ?_
  obtain ⟨h0, h⟩ := h
  refine r_iaload C dX6_layOne_27 ak_22 (cn_22 hP2) al_22 h0 ?_
  refine r_istore C dX6_layOne_28 (Nat.le_of_ble_eq_true rfl) rfl ?_
  refine r_aload_n C dX6_layOne_30 rfl 3 rfl ?_
  refine r_iload_n C dX6_layOne_31 rfl 5 rfl ?_
  refine r_iload_n C dX6_layOne_32 rfl 6 rfl ?_
  refine r_aload_n C dX6_layOne_33 rfl 4 rfl ?_
  refine gf_6_56 C dX6_layOne_34 (cn_2 hP2) ?_
  refine r_iload_n C dX6_layOne_37 rfl 5 rfl ?_
  obtain ⟨h0, h⟩ := h
  refine r_iaload C dX6_layOne_38 ak_25 (cn_25 hP2) al_25 h0 ?_
  refine r_callVv [] C dX6_layOne_39 w_6_59 (ok_X6_lengthen l g P hP _ _ _ _ _ h) (Nat.le_of_ble_eq_true rfl) rfl rfl ak_6 (cn_6 hP) rfl rfl (Nat.le_of_ble_eq_true rfl) (fun σ1 h => ?_)
  refine r_sub [3, 5, 6, 2, 1, 0] rfl ?_
  obtain ⟨n3, h⟩ := h
  refine l42 _ _ _ _ _ (fun w5 σ4 h => ?_) n3 _ _ h
  obtain ⟨n7, h⟩ := h
  refine l66 _ _ _ _ _ (fun σ8 h => ?_) n7 _ _ h
  refine r_aload_n C dX6_layOne_92 rfl 0 rfl ?_
  refine r_iload_n C dX6_layOne_93 rfl 1 rfl ?_
  refine r_iload_n C dX6_layOne_94 rfl 2 rfl ?_
  refine r_bipush C dX6_layOne_95 bi_6 ?_
  refine r_iload C dX6_layOne_97 3 rfl ?_
  refine r_iadd C dX6_layOne_99 ?_
  refine r_callVv [] C dX6_layOne_100 w_6_59 (ok_X6_lengthen l g P hP _ _ _ _ _ h) (Nat.le_of_ble_eq_true rfl) rfl rfl ak_6 (cn_6 hP) rfl rfl (Nat.le_of_ble_eq_true rfl) (fun σ9 h => ?_)
  exact r_return C dX6_layOne_103 ⟨rfl, h⟩
def L_X6_lay_44 (Q : Hp → Prop) (K71 : Hp → Prop) (P : Nat) (P2 : Nat) (y2 : Int32) : Nat → Int32 → Hp → Prop
  | 0, _, _ => False
  | n + 1, y3, σ =>
  vp_in y2 8 ∧ (((gI σ 28 P2 (ix y2)) ≤ y3 → K71 σ) ∧ (¬ (gI σ 28 P2 (ix y2)) ≤ y3 → S_X7_earOf y2 y3 σ (fun r6 σ5 => S_X6_layOne P P2 y2 r6 σ5 (fun σ7 => L_X6_lay_44 Q K71 P P2 y2 n (y3 + 1) σ7))))
def L_X6_lay_34 (Q : Hp → Prop) (K77 : Hp → Prop) (P : Nat) (P2 : Nat) : Nat → Int32 → Hp → Prop
  | 0, _, _ => False
  | n + 1, y2, σ =>
  (((gI σ 2 P2 6) ≤ y2 → K77 σ) ∧ (¬ (gI σ 2 P2 6) ≤ y2 → (∃ n8, L_X6_lay_44 Q (fun σ9 => L_X6_lay_34 Q K77 P P2 n (y2 + 1) σ9) P P2 y2 n8 0 σ)))
def S_X6_lay (P : Nat) (P2 : Nat) (σ : Hp) (Q : Hp → Prop) : Prop :=
  S_J7_fill_53178 48 P 0 σ (fun σ1 => S_J7_fill_53178 49 P 0 σ1 (fun σ2 => S_J7_fill_53178 50 P 0 σ2 (fun σ3 => S_J7_fill_53178 51 P (-1) σ3 (fun σ4 => (∃ n10, L_X6_lay_34 Q (fun σ11 => Q σ11) P P2 n10 0 σ4)))))
set_option maxHeartbeats 2000000 in
set_option maxRecDepth 20000 in
theorem ok_X6_lay (l : Launch) (g : Gm) (P : Nat) (P2 : Nat) (hP : P < 2) (hP2 : P2 < 2) (σ : Hp) (Q : Hp → Prop) (h : S_X6_lay P P2 σ Q) : Ct l g yX6_lay cX6_lay 4 none 3 [.ref (gad g 6 P), .ref (gad g 2 P2)] σ (QV Q) := by
  refine Ct.of (by decide +kernel) (Nat.le_of_ble_eq_true rfl) ?_
  intro p e R s m args below meth c C
  have C : Cx g p R s m args meth c cX6_lay 4 RX6 none 3 := C
  have l44 : ∀ (K71 : Hp → Prop) (y2 : Int32) (hK71 : ∀ (σ : Hp), K71 σ → G g p l e R s m args below meth c (QV Q) 4 71 [(0, .ref (gad g 6 P)), (1, .ref (gad g 2 P2)), (2, .int y2)] [] σ) (n : Nat) (y3 : Int32) (σ : Hp), L_X6_lay_44 Q K71 P P2 y2 n y3 σ → G g p l e R s m args below meth c (QV Q) 4 44 [(0, .ref (gad g 6 P)), (1, .ref (gad g 2 P2)), (2, .int y2), (3, .int y3)] [] σ := by
    intro K71 y2 hK71 n
    induction n with
    | zero => intro y3 σ h; exact False.elim h
    | succ n ih =>
      intro y3 σ h
      unfold L_X6_lay_44 at h
      refine r_iload_n C dX6_lay_44 rfl 3 rfl ?_
      refine r_aload_n C dX6_lay_45 rfl 1 rfl ?_
      refine gf_6_39 C dX6_lay_46 (cn_2 hP2) ?_
      refine r_iload_n C dX6_lay_49 rfl 2 rfl ?_
      obtain ⟨h0, h⟩ := h
      refine r_iaload C dX6_lay_50 ak_28 (cn_28 hP2) al_28 h0 ?_
      refine r_icmp_ge (tgt := 71) C dX6_lay_51 rfl (fun q => ?_) (fun q => ?_)
      · have h := h.1 q
        refine r_sub [0, 1, 2] rfl ?_
        exact hK71 _ h
      · have h := h.2 q
        refine r_aload_n C dX6_lay_54 rfl 0 rfl ?_
        refine r_aload_n C dX6_lay_55 rfl 1 rfl ?_
        refine r_iload_n C dX6_lay_56 rfl 2 rfl ?_
        refine r_iload_n C dX6_lay_57 rfl 2 rfl ?_
        refine r_iload_n C dX6_lay_58 rfl 3 rfl ?_
        refine r_callNi [.int _, .ref (gad g 2 P2), .ref (gad g 6 P)] C dX6_lay_59 w_6_42 (ok_X7_earOf l g _ _ _ _ h) (Nat.le_of_ble_eq_true rfl) rfl rfl (Nat.le_of_ble_eq_true rfl) (fun r6 σ5 h => ?_)
        refine r_callVv [] C dX6_lay_62 w_6_46 (ok_X6_layOne l g P P2 hP hP2 _ _ _ _ h) (Nat.le_of_ble_eq_true rfl) rfl rfl ak_6 (cn_6 hP) rfl rfl (Nat.le_of_ble_eq_true rfl) (fun σ7 h => ?_)
        refine r_iinc (v := y3 + 1) C dX6_lay_65 3 rfl rfl (Nat.le_of_ble_eq_true rfl) rfl ?_
        refine r_goto (tgt := 44) C dX6_lay_68 rfl ?_
        refine r_sub [1, 2, 3, 0] rfl ?_
        exact ih _ _ h
  have l34 : ∀ (K77 : Hp → Prop) (hK77 : ∀ (σ : Hp), K77 σ → G g p l e R s m args below meth c (QV Q) 4 77 [] [] σ) (n : Nat) (y2 : Int32) (σ : Hp), L_X6_lay_34 Q K77 P P2 n y2 σ → G g p l e R s m args below meth c (QV Q) 4 34 [(0, .ref (gad g 6 P)), (1, .ref (gad g 2 P2)), (2, .int y2)] [] σ := by
    intro K77 hK77 n
    induction n with
    | zero => intro y2 σ h; exact False.elim h
    | succ n ih =>
      intro y2 σ h
      unfold L_X6_lay_34 at h
      refine r_iload_n C dX6_lay_34 rfl 2 rfl ?_
      refine r_aload_n C dX6_lay_35 rfl 1 rfl ?_
      refine gf_6_33 C dX6_lay_36 (cn_2 hP2) ?_
      refine r_icmp_ge (tgt := 77) C dX6_lay_39 rfl (fun q => ?_) (fun q => ?_)
      · have h := h.1 q
        refine r_sub [] rfl ?_
        exact hK77 _ h
      · have h := h.2 q
        refine r_iconst C dX6_lay_42 ic_0 ?_
        refine r_istore_n C dX6_lay_43 rfl (Nat.le_of_ble_eq_true rfl) rfl ?_
        refine r_sub [1, 2, 3, 0] rfl ?_
        obtain ⟨n8, h⟩ := h
        refine l44 _ _ (fun σ9 h => ?_) n8 _ _ h
        refine r_iinc (v := y2 + 1) C dX6_lay_71 2 rfl rfl (Nat.le_of_ble_eq_true rfl) rfl ?_
        refine r_goto (tgt := 34) C dX6_lay_74 rfl ?_
        refine r_sub [1, 2, 0] rfl ?_
        exact ih _ _ h
  unfold S_X6_lay at h
  show G g p l e R s m args below meth c (QV Q) 4 0 [(0, .ref (gad g 6 P)), (1, .ref (gad g 2 P2))] [] σ
  refine r_aload_n C dX6_lay_0 rfl 0 rfl ?_
  refine gf_6_15 C dX6_lay_1 (cn_6 hP) ?_
  refine r_iconst C dX6_lay_4 ic_0 ?_
  refine r_callSv [] C dX6_lay_5 w_6_27 (ok_J7_fill_53178 l g 48 P ak_48 (cn_48 hP) _ _ _ h) (Nat.le_of_ble_eq_true rfl) rfl rfl (Nat.le_of_ble_eq_true rfl) (fun σ1 h => ?_)
  refine r_aload_n C dX6_lay_8 rfl 0 rfl ?_
  refine gf_6_18 C dX6_lay_9 (cn_6 hP) ?_
  refine r_iconst C dX6_lay_12 ic_0 ?_
  refine r_callSv [] C dX6_lay_13 w_6_27 (ok_J7_fill_53178 l g 49 P ak_49 (cn_49 hP) _ _ _ h) (Nat.le_of_ble_eq_true rfl) rfl rfl (Nat.le_of_ble_eq_true rfl) (fun σ2 h => ?_)
  refine r_aload_n C dX6_lay_16 rfl 0 rfl ?_
  refine gf_6_21 C dX6_lay_17 (cn_6 hP) ?_
  refine r_iconst C dX6_lay_20 ic_0 ?_
  refine r_callSv [] C dX6_lay_21 w_6_27 (ok_J7_fill_53178 l g 50 P ak_50 (cn_50 hP) _ _ _ h) (Nat.le_of_ble_eq_true rfl) rfl rfl (Nat.le_of_ble_eq_true rfl) (fun σ3 h => ?_)
  refine r_aload_n C dX6_lay_24 rfl 0 rfl ?_
  refine gf_6_24 C dX6_lay_25 (cn_6 hP) ?_
  refine r_iconst C dX6_lay_28 ic_m1 ?_
  refine r_callSv [] C dX6_lay_29 w_6_27 (ok_J7_fill_53178 l g 51 P ak_51 (cn_51 hP) _ _ _ h) (Nat.le_of_ble_eq_true rfl) rfl rfl (Nat.le_of_ble_eq_true rfl) (fun σ4 h => ?_)
  refine r_iconst C dX6_lay_32 ic_0 ?_
  refine r_istore_n C dX6_lay_33 rfl (Nat.le_of_ble_eq_true rfl) rfl ?_
  refine r_sub [1, 2, 0] rfl ?_
  obtain ⟨n10, h⟩ := h
  refine l34 _ (fun σ11 h => ?_) n10 _ _ h
  exact r_return C dX6_lay_77 ⟨rfl, h⟩
def S_X7_feed (x1 : Int32) (x2 : Int32) (x3 : Int32) (x4 : Int32) (x5 : Int32) (σ : Hp) (Q : Int32 → Hp → Prop) : Prop :=
  ((((gI σ 4 0 1) + 20) ≤ 900 → S_X4_append x1 σ (fun σ1 => S_X4_append x2 σ1 (fun σ2 => S_X4_append x3 σ2 (fun σ3 => S_X4_append x4 σ3 (fun σ4 => S_X4_append x5 σ4 (fun σ5 => Q (gI σ5 4 0 1) σ5)))))) ∧ (¬ ((gI σ 4 0 1) + 20) ≤ 900 → Q (-1) σ))
set_option maxHeartbeats 2000000 in
set_option maxRecDepth 20000 in
theorem ok_X7_feed (l : Launch) (g : Gm) (x1 : Int32) (x2 : Int32) (x3 : Int32) (x4 : Int32) (x5 : Int32) (σ : Hp) (Q : Int32 → Hp → Prop) (h : S_X7_feed x1 x2 x3 x4 x5 σ Q) : Ct l g yX7_feed cX7_feed 6 (some .int) 1 [.ref (gad g 7 0), .int x1, .int x2, .int x3, .int x4, .int x5] σ (QI Q) := by
  refine Ct.of (by decide +kernel) (Nat.le_of_ble_eq_true rfl) ?_
  intro p e R s m args below meth c C
  have C : Cx g p R s m args meth c cX7_feed 6 RX7 (some .int) 1 := C
  unfold S_X7_feed at h
  show G g p l e R s m args below meth c (QI Q) 6 0 [(0, .ref (gad g 7 0)), (1, .int x1), (2, .int x2), (3, .int x3), (4, .int x4), (5, .int x5)] [] σ
  refine r_aload_n C dX7_feed_0 rfl 0 rfl ?_
  refine gf_7_12 C dX7_feed_1 (cn_7 (by decide)) ?_
  refine gf_7_57 C dX7_feed_4 (cn_4 (by decide)) ?_
  refine r_bipush C dX7_feed_7 bi_20 ?_
  refine r_iadd C dX7_feed_9 ?_
  refine r_sipush C dX7_feed_10 si_900 ?_
  refine r_icmp_le (tgt := 18) C dX7_feed_13 rfl (fun q => ?_) (fun q => ?_)
  · have h := h.1 q
    refine r_aload_n C dX7_feed_18 rfl 0 rfl ?_
    refine gf_7_12 C dX7_feed_19 (cn_7 (by decide)) ?_
    refine r_iload_n C dX7_feed_22 rfl 1 rfl ?_
    refine r_callVv [] C dX7_feed_23 w_7_60 (ok_X4_append l g _ _ _ h) (Nat.le_of_ble_eq_true rfl) rfl rfl ak_4 (cn_4 (by decide)) rfl rfl (Nat.le_of_ble_eq_true rfl) (fun σ1 h => ?_)
    refine r_aload_n C dX7_feed_26 rfl 0 rfl ?_
    refine gf_7_12 C dX7_feed_27 (cn_7 (by decide)) ?_
    refine r_iload_n C dX7_feed_30 rfl 2 rfl ?_
    refine r_callVv [] C dX7_feed_31 w_7_60 (ok_X4_append l g _ _ _ h) (Nat.le_of_ble_eq_true rfl) rfl rfl ak_4 (cn_4 (by decide)) rfl rfl (Nat.le_of_ble_eq_true rfl) (fun σ2 h => ?_)
    refine r_aload_n C dX7_feed_34 rfl 0 rfl ?_
    refine gf_7_12 C dX7_feed_35 (cn_7 (by decide)) ?_
    refine r_iload_n C dX7_feed_38 rfl 3 rfl ?_
    refine r_callVv [] C dX7_feed_39 w_7_60 (ok_X4_append l g _ _ _ h) (Nat.le_of_ble_eq_true rfl) rfl rfl ak_4 (cn_4 (by decide)) rfl rfl (Nat.le_of_ble_eq_true rfl) (fun σ3 h => ?_)
    refine r_aload_n C dX7_feed_42 rfl 0 rfl ?_
    refine gf_7_12 C dX7_feed_43 (cn_7 (by decide)) ?_
    refine r_iload C dX7_feed_46 4 rfl ?_
    refine r_callVv [] C dX7_feed_48 w_7_60 (ok_X4_append l g _ _ _ h) (Nat.le_of_ble_eq_true rfl) rfl rfl ak_4 (cn_4 (by decide)) rfl rfl (Nat.le_of_ble_eq_true rfl) (fun σ4 h => ?_)
    refine r_aload_n C dX7_feed_51 rfl 0 rfl ?_
    refine gf_7_12 C dX7_feed_52 (cn_7 (by decide)) ?_
    refine r_iload C dX7_feed_55 5 rfl ?_
    refine r_callVv [] C dX7_feed_57 w_7_60 (ok_X4_append l g _ _ _ h) (Nat.le_of_ble_eq_true rfl) rfl rfl ak_4 (cn_4 (by decide)) rfl rfl (Nat.le_of_ble_eq_true rfl) (fun σ5 h => ?_)
    refine r_aload_n C dX7_feed_60 rfl 0 rfl ?_
    refine gf_7_12 C dX7_feed_61 (cn_7 (by decide)) ?_
    refine gf_7_57 C dX7_feed_64 (cn_4 (by decide)) ?_
    exact r_ireturn C dX7_feed_67 ⟨_, rfl, h⟩
  · have h := h.2 q
    refine r_iconst C dX7_feed_16 ic_m1 ?_
    exact r_ireturn C dX7_feed_17 ⟨_, rfl, h⟩
def S_X7_refuse (x1 : Int32) (σ : Hp) (Q : Int32 → Hp → Prop) : Prop :=
  ∀ σ1, σ1 = sI σ 7 0 7 x1 → Q (-1) σ1
set_option maxHeartbeats 2000000 in
set_option maxRecDepth 20000 in
theorem ok_X7_refuse (l : Launch) (g : Gm) (x1 : Int32) (σ : Hp) (Q : Int32 → Hp → Prop) (h : S_X7_refuse x1 σ Q) : Ct l g yX7_refuse cX7_refuse 2 (some .int) 0 [.ref (gad g 7 0), .int x1] σ (QI Q) := by
  refine Ct.of (by decide +kernel) (Nat.le_of_ble_eq_true rfl) ?_
  intro p e R s m args below meth c C
  have C : Cx g p R s m args meth c cX7_refuse 2 RX7 (some .int) 0 := C
  unfold S_X7_refuse at h
  show G g p l e R s m args below meth c (QI Q) 2 0 [(0, .ref (gad g 7 0)), (1, .int x1)] [] σ
  refine r_aload_n C dX7_refuse_0 rfl 0 rfl ?_
  refine r_iload_n C dX7_refuse_1 rfl 1 rfl ?_
  refine pf_7_47 C dX7_refuse_2 (cn_7 (by decide)) ?_
  have h := h _ rfl
  refine r_iconst C dX7_refuse_5 ic_m1 ?_
  exact r_ireturn C dX7_refuse_6 ⟨_, rfl, h⟩
def S_X7_answer (x1 : Int32) (σ : Hp) (Q : Int32 → Hp → Prop) : Prop :=
  ∀ σ1, σ1 = sI σ 7 0 7 0 → Q x1 σ1
set_option maxHeartbeats 2000000 in
set_option maxRecDepth 20000 in
theorem ok_X7_answer (l : Launch) (g : Gm) (x1 : Int32) (σ : Hp) (Q : Int32 → Hp → Prop) (h : S_X7_answer x1 σ Q) : Ct l g yX7_answer cX7_answer 2 (some .int) 0 [.ref (gad g 7 0), .int x1] σ (QI Q) := by
  refine Ct.of (by decide +kernel) (Nat.le_of_ble_eq_true rfl) ?_
  intro p e R s m args below meth c C
  have C : Cx g p R s m args meth c cX7_answer 2 RX7 (some .int) 0 := C
  unfold S_X7_answer at h
  show G g p l e R s m args below meth c (QI Q) 2 0 [(0, .ref (gad g 7 0)), (1, .int x1)] [] σ
  refine r_aload_n C dX7_answer_0 rfl 0 rfl ?_
  refine r_iconst C dX7_answer_1 ic_0 ?_
  refine pf_7_47 C dX7_answer_2 (cn_7 (by decide)) ?_
  have h := h _ rfl
  refine r_iload_n C dX7_answer_5 rfl 1 rfl ?_
  exact r_ireturn C dX7_answer_6 ⟨_, rfl, h⟩
def J_X7_bus_15 (Q : Int32 → Hp → Prop) (σ : Hp) : Prop :=
  S_X7_refuse 2 σ (fun r2 σ1 => Q r2 σ1)
def S_X7_bus (x1 : Int32) (σ : Hp) (Q : Int32 → Hp → Prop) : Prop :=
  ((x1 < 0 → J_X7_bus_15 Q σ) ∧ (¬ x1 < 0 → ((x1 ≤ (gI σ 4 0 1) → S_X4_read x1 σ (fun σ3 => ∀ σ4, σ4 = sI σ3 7 0 8 (gI σ3 4 0 10) → ∀ σ5, σ5 = sI σ4 7 0 9 (gI σ4 4 0 11) → (((gI σ5 7 0 8) = 0 → gR σ5 0 < 2 ∧ S_X4_handOver (gR σ5 0) σ5 (fun r8 σ7 => r8 < 2 ∧ ∀ σ10, σ10 = sR σ7 0 r8 → gR σ10 0 < 2 ∧ S_X6_lay (gR σ10 0) (gR σ10 0) σ10 (fun σ12 => gR σ12 0 < 2 ∧ S_X1_measure (gR σ12 0) σ12 (fun σ14 => gR σ14 0 < 2 ∧ S_X5_beginWith 0 (gR σ14 0) σ14 (fun σ16 => ∀ σ17, σ17 = sI σ16 7 0 6 0 → gR σ17 0 < 2 ∧ S_X7_answer (gI σ17 2 (gR σ17 0) 6) σ17 (fun r20 σ19 => Q r20 σ19)))))) ∧ (¬ (gI σ5 7 0 8) = 0 → S_X7_refuse 4 σ5 (fun r22 σ21 => Q r22 σ21))))) ∧ (¬ x1 ≤ (gI σ 4 0 1) → J_X7_bus_15 Q σ))))
set_option maxHeartbeats 2000000 in
set_option maxRecDepth 20000 in
theorem ok_X7_bus (l : Launch) (g : Gm) (x1 : Int32) (σ : Hp) (Q : Int32 → Hp → Prop) (h : S_X7_bus x1 σ Q) : Ct l g yX7_bus cX7_bus 2 (some .int) 7 [.ref (gad g 7 0), .int x1] σ (QI Q) := by
  refine Ct.of (by decide +kernel) (Nat.le_of_ble_eq_true rfl) ?_
  intro p e R s m args below meth c C
  have C : Cx g p R s m args meth c cX7_bus 2 RX7 (some .int) 7 := C
  have j15 : ∀ (σ : Hp), J_X7_bus_15 Q σ → G g p l e R s m args below meth c (QI Q) 2 15 [(0, .ref (gad g 7 0))] [] σ := by
    intro σ h
    unfold J_X7_bus_15 at h
    refine r_aload_n C dX7_bus_15 rfl 0 rfl ?_
    refine r_iconst C dX7_bus_16 ic_2 ?_
    refine r_callVi [] C dX7_bus_17 w_7_64 (ok_X7_refuse l g _ _ _ h) (Nat.le_of_ble_eq_true rfl) rfl rfl ak_7 (cn_7 (by decide)) rfl rfl (Nat.le_of_ble_eq_true rfl) (fun r2 σ1 h => ?_)
    exact r_ireturn C dX7_bus_20 ⟨_, rfl, h⟩
  unfold S_X7_bus at h
  show G g p l e R s m args below meth c (QI Q) 2 0 [(0, .ref (gad g 7 0)), (1, .int x1)] [] σ
  refine r_iload_n C dX7_bus_0 rfl 1 rfl ?_
  refine r_if_lt (tgt := 15) C dX7_bus_1 rfl (fun q => ?_) (fun q => ?_)
  · have h := h.1 q
    refine r_sub [0] rfl ?_
    exact j15 _ h
  · have h := h.2 q
    refine r_iload_n C dX7_bus_4 rfl 1 rfl ?_
    refine r_aload_n C dX7_bus_5 rfl 0 rfl ?_
    refine gf_7_12 C dX7_bus_6 (cn_7 (by decide)) ?_
    refine gf_7_57 C dX7_bus_9 (cn_4 (by decide)) ?_
    refine r_icmp_le (tgt := 21) C dX7_bus_12 rfl (fun q => ?_) (fun q => ?_)
    · have h := h.1 q
      refine r_aload_n C dX7_bus_21 rfl 0 rfl ?_
      refine gf_7_12 C dX7_bus_22 (cn_7 (by decide)) ?_
      refine r_iload_n C dX7_bus_25 rfl 1 rfl ?_
      refine r_callVv [] C dX7_bus_26 w_7_68 (ok_X4_read l g _ _ _ h) (Nat.le_of_ble_eq_true rfl) rfl rfl ak_4 (cn_4 (by decide)) rfl rfl (Nat.le_of_ble_eq_true rfl) (fun σ3 h => ?_)
      refine r_aload_n C dX7_bus_29 rfl 0 rfl ?_
      refine r_aload_n C dX7_bus_30 rfl 0 rfl ?_
      refine gf_7_12 C dX7_bus_31 (cn_7 (by decide)) ?_
      refine gf_7_71 C dX7_bus_34 (cn_4 (by decide)) ?_
      refine pf_7_51 C dX7_bus_37 (cn_7 (by decide)) ?_
      have h := h _ rfl
      refine r_aload_n C dX7_bus_40 rfl 0 rfl ?_
      refine r_aload_n C dX7_bus_41 rfl 0 rfl ?_
      refine gf_7_12 C dX7_bus_42 (cn_7 (by decide)) ?_
      refine gf_7_74 C dX7_bus_45 (cn_4 (by decide)) ?_
      refine pf_7_54 C dX7_bus_48 (cn_7 (by decide)) ?_
      have h := h _ rfl
      refine r_aload_n C dX7_bus_51 rfl 0 rfl ?_
      refine gf_7_51 C dX7_bus_52 (cn_7 (by decide)) ?_
      refine r_if_eq (tgt := 64) C dX7_bus_55 rfl (fun q => ?_) (fun q => ?_)
      · have h := h.1 q
        refine r_aload_n C dX7_bus_64 rfl 0 rfl ?_
        refine r_aload_n C dX7_bus_65 rfl 0 rfl ?_
        refine gf_7_12 C dX7_bus_66 (cn_7 (by decide)) ?_
        refine r_aload_n C dX7_bus_69 rfl 0 rfl ?_
        refine gf_7_19 C dX7_bus_70 (cn_7 (by decide)) ?_
        obtain ⟨hr6, h⟩ := h
        refine r_callVa [.ref (gad g 7 0)] C dX7_bus_73 w_7_77 (ok_X4_handOver l g _ hr6 _ _ h) (Nat.le_of_ble_eq_true rfl) rfl rfl ak_4 (cn_4 (by decide)) rfl rfl (Nat.le_of_ble_eq_true rfl) (fun r8 σ7 h => ?_)
        obtain ⟨hr9, h⟩ := h
        refine pf_7_19 C dX7_bus_76 ?_
        have h := h _ rfl
        refine r_aload_n C dX7_bus_79 rfl 0 rfl ?_
        refine gf_7_19 C dX7_bus_80 (cn_7 (by decide)) ?_
        obtain ⟨hr11, h⟩ := h
        refine gf_7_81 C dX7_bus_83 (cn_2 hr11) ?_
        refine r_aload_n C dX7_bus_86 rfl 0 rfl ?_
        refine gf_7_19 C dX7_bus_87 (cn_7 (by decide)) ?_
        refine r_callVv [] C dX7_bus_90 w_7_85 (ok_X6_lay l g _ _ hr11 hr11 _ _ h) (Nat.le_of_ble_eq_true rfl) rfl rfl ak_6 (cn_6 hr11) rfl rfl (Nat.le_of_ble_eq_true rfl) (fun σ12 h => ?_)
        refine r_aload_n C dX7_bus_93 rfl 0 rfl ?_
        refine gf_7_26 C dX7_bus_94 (cn_7 (by decide)) ?_
        refine r_aload_n C dX7_bus_97 rfl 0 rfl ?_
        refine gf_7_19 C dX7_bus_98 (cn_7 (by decide)) ?_
        obtain ⟨hr13, h⟩ := h
        refine r_callVv [] C dX7_bus_101 w_7_91 (ok_X1_measure l g _ hr13 _ _ h) (Nat.le_of_ble_eq_true rfl) rfl rfl ak_1 (cn_1 (by decide)) rfl rfl (Nat.le_of_ble_eq_true rfl) (fun σ14 h => ?_)
        refine r_aload_n C dX7_bus_104 rfl 0 rfl ?_
        refine gf_7_33 C dX7_bus_105 (cn_7 (by decide)) ?_
        refine r_aload_n C dX7_bus_108 rfl 0 rfl ?_
        refine gf_7_19 C dX7_bus_109 (cn_7 (by decide)) ?_
        obtain ⟨hr15, h⟩ := h
        refine r_callVv [] C dX7_bus_112 w_7_94 (ok_X5_beginWith l g 0 _ (by decide) hr15 _ _ h) (Nat.le_of_ble_eq_true rfl) rfl rfl ak_5 (cn_5 (by decide)) rfl rfl (Nat.le_of_ble_eq_true rfl) (fun σ16 h => ?_)
        refine r_aload_n C dX7_bus_115 rfl 0 rfl ?_
        refine r_iconst C dX7_bus_116 ic_0 ?_
        refine pf_7_43 C dX7_bus_117 zb0 (cn_7 (by decide)) ?_
        have h := h _ rfl
        refine r_aload_n C dX7_bus_120 rfl 0 rfl ?_
        refine r_aload_n C dX7_bus_121 rfl 0 rfl ?_
        refine gf_7_19 C dX7_bus_122 (cn_7 (by decide)) ?_
        obtain ⟨hr18, h⟩ := h
        refine gf_7_97 C dX7_bus_125 (cn_2 hr18) ?_
        refine r_callVi [] C dX7_bus_128 w_7_100 (ok_X7_answer l g _ _ _ h) (Nat.le_of_ble_eq_true rfl) rfl rfl ak_7 (cn_7 (by decide)) rfl rfl (Nat.le_of_ble_eq_true rfl) (fun r20 σ19 h => ?_)
        exact r_ireturn C dX7_bus_131 ⟨_, rfl, h⟩
      · have h := h.2 q
        refine r_aload_n C dX7_bus_58 rfl 0 rfl ?_
        refine r_iconst C dX7_bus_59 ic_4 ?_
        refine r_callVi [] C dX7_bus_60 w_7_64 (ok_X7_refuse l g _ _ _ h) (Nat.le_of_ble_eq_true rfl) rfl rfl ak_7 (cn_7 (by decide)) rfl rfl (Nat.le_of_ble_eq_true rfl) (fun r22 σ21 h => ?_)
        exact r_ireturn C dX7_bus_63 ⟨_, rfl, h⟩
    · have h := h.2 q
      refine r_sub [0] rfl ?_
      exact j15 _ h
def S_X7_fault (σ : Hp) (Q : Int32 → Hp → Prop) : Prop :=
  Q (gI σ 7 0 8) σ
set_option maxHeartbeats 2000000 in
set_option maxRecDepth 20000 in
theorem ok_X7_fault (l : Launch) (g : Gm) (σ : Hp) (Q : Int32 → Hp → Prop) (h : S_X7_fault σ Q) : Ct l g yX7_fault cX7_fault 1 (some .int) 0 [.ref (gad g 7 0)] σ (QI Q) := by
  refine Ct.of (by decide +kernel) (Nat.le_of_ble_eq_true rfl) ?_
  intro p e R s m args below meth c C
  have C : Cx g p R s m args meth c cX7_fault 1 RX7 (some .int) 0 := C
  unfold S_X7_fault at h
  show G g p l e R s m args below meth c (QI Q) 1 0 [(0, .ref (gad g 7 0))] [] σ
  refine r_aload_n C dX7_fault_0 rfl 0 rfl ?_
  refine gf_7_51 C dX7_fault_1 (cn_7 (by decide)) ?_
  exact r_ireturn C dX7_fault_4 ⟨_, rfl, h⟩
def S_X7_where (σ : Hp) (Q : Int32 → Hp → Prop) : Prop :=
  ((¬ (gI σ 7 0 7) = 4 → Q (-1) σ) ∧ ((gI σ 7 0 7) = 4 → Q (gI σ 7 0 9) σ))
set_option maxHeartbeats 2000000 in
set_option maxRecDepth 20000 in
theorem ok_X7_where (l : Launch) (g : Gm) (σ : Hp) (Q : Int32 → Hp → Prop) (h : S_X7_where σ Q) : Ct l g yX7_where cX7_where 1 (some .int) 0 [.ref (gad g 7 0)] σ (QI Q) := by
  refine Ct.of (by decide +kernel) (Nat.le_of_ble_eq_true rfl) ?_
  intro p e R s m args below meth c C
  have C : Cx g p R s m args meth c cX7_where 1 RX7 (some .int) 0 := C
  unfold S_X7_where at h
  show G g p l e R s m args below meth c (QI Q) 1 0 [(0, .ref (gad g 7 0))] [] σ
  refine r_aload_n C dX7_where_0 rfl 0 rfl ?_
  refine gf_7_47 C dX7_where_1 (cn_7 (by decide)) ?_
  refine r_iconst C dX7_where_4 ic_4 ?_
  refine r_icmp_ne (tgt := 15) C dX7_where_5 rfl (fun q => ?_) (fun q => ?_)
  · have h := h.1 q
    refine r_iconst C dX7_where_15 ic_m1 ?_
    exact r_ireturn C dX7_where_16 ⟨_, rfl, h⟩
  · have h := h.2 q
    refine r_aload_n C dX7_where_8 rfl 0 rfl ?_
    refine gf_7_54 C dX7_where_9 (cn_7 (by decide)) ?_
    refine r_goto (tgt := 16) C dX7_where_12 rfl ?_
    exact r_ireturn C dX7_where_16 ⟨_, rfl, h⟩
def S_X7_noBus (σ : Hp) (Q : Int32 → Hp → Prop) : Prop :=
  gR σ 0 < 2 ∧ ((¬ (gI σ 2 (gR σ 0) 6) = 0 → Q 0 σ) ∧ ((gI σ 2 (gR σ 0) 6) = 0 → Q 1 σ))
set_option maxHeartbeats 2000000 in
set_option maxRecDepth 20000 in
theorem ok_X7_noBus (l : Launch) (g : Gm) (σ : Hp) (Q : Int32 → Hp → Prop) (h : S_X7_noBus σ Q) : Ct l g yX7_noBus cX7_noBus 1 (some .boolean) 0 [.ref (gad g 7 0)] σ (QI Q) := by
  refine Ct.of (by decide +kernel) (Nat.le_of_ble_eq_true rfl) ?_
  intro p e R s m args below meth c C
  have C : Cx g p R s m args meth c cX7_noBus 1 RX7 (some .boolean) 0 := C
  unfold S_X7_noBus at h
  show G g p l e R s m args below meth c (QI Q) 1 0 [(0, .ref (gad g 7 0))] [] σ
  refine r_aload_n C dX7_noBus_0 rfl 0 rfl ?_
  refine gf_7_19 C dX7_noBus_1 (cn_7 (by decide)) ?_
  obtain ⟨hr1, h⟩ := h
  refine gf_7_97 C dX7_noBus_4 (cn_2 hr1) ?_
  refine r_if_ne (tgt := 14) C dX7_noBus_7 rfl (fun q => ?_) (fun q => ?_)
  · have h := h.1 q
    refine r_iconst C dX7_noBus_14 ic_0 ?_
    exact r_zreturn C dX7_noBus_15 zb0.1 ⟨_, rfl, h⟩
  · have h := h.2 q
    refine r_iconst C dX7_noBus_10 ic_1 ?_
    refine r_goto (tgt := 15) C dX7_noBus_11 rfl ?_
    exact r_zreturn C dX7_noBus_15 zb1.1 ⟨_, rfl, h⟩
def S_X7_about (x1 : Int32) (σ : Hp) (Q : Int32 → Hp → Prop) : Prop :=
  S_X7_noBus σ (fun r2 σ1 => ((r2 = 0 → ((x1 = 0 → gR σ1 0 < 2 ∧ S_X7_answer (gI σ1 2 (gR σ1 0) 0) σ1 (fun r5 σ4 => Q r5 σ4)) ∧ (x1 = 1 → gR σ1 0 < 2 ∧ S_X7_answer (gI σ1 2 (gR σ1 0) 1) σ1 (fun r8 σ7 => Q r8 σ7)) ∧ (x1 = 2 → gR σ1 0 < 2 ∧ S_X7_answer (gI σ1 2 (gR σ1 0) 2) σ1 (fun r11 σ10 => Q r11 σ10)) ∧ (x1 = 3 → gR σ1 0 < 2 ∧ S_X7_answer (gI σ1 2 (gR σ1 0) 3) σ1 (fun r14 σ13 => Q r14 σ13)) ∧ (x1 = 4 → gR σ1 0 < 2 ∧ S_X7_answer (gI σ1 2 (gR σ1 0) 4) σ1 (fun r17 σ16 => Q r17 σ16)) ∧ (x1 = 5 → gR σ1 0 < 2 ∧ S_X7_answer (gI σ1 2 (gR σ1 0) 5) σ1 (fun r20 σ19 => Q r20 σ19)) ∧ (x1 = 6 → gR σ1 0 < 2 ∧ S_X7_answer (gI σ1 2 (gR σ1 0) 6) σ1 (fun r23 σ22 => Q r23 σ22)) ∧ (x1 = 7 → S_X7_answer (gI σ1 5 0 0) σ1 (fun r25 σ24 => Q r25 σ24)) ∧ (¬ x1 = 0 → ¬ x1 = 1 → ¬ x1 = 2 → ¬ x1 = 3 → ¬ x1 = 4 → ¬ x1 = 5 → ¬ x1 = 6 → ¬ x1 = 7 → S_X7_refuse 1 σ1 (fun r27 σ26 => Q r27 σ26)))) ∧ (¬ r2 = 0 → S_X7_refuse 1 σ1 (fun r29 σ28 => Q r29 σ28))))
set_option maxHeartbeats 2000000 in
set_option maxRecDepth 20000 in
theorem ok_X7_about (l : Launch) (g : Gm) (x1 : Int32) (σ : Hp) (Q : Int32 → Hp → Prop) (h : S_X7_about x1 σ Q) : Ct l g yX7_about cX7_about 2 (some .int) 1 [.ref (gad g 7 0), .int x1] σ (QI Q) := by
  refine Ct.of (by decide +kernel) (Nat.le_of_ble_eq_true rfl) ?_
  intro p e R s m args below meth c C
  have C : Cx g p R s m args meth c cX7_about 2 RX7 (some .int) 1 := C
  unfold S_X7_about at h
  show G g p l e R s m args below meth c (QI Q) 2 0 [(0, .ref (gad g 7 0)), (1, .int x1)] [] σ
  refine r_aload_n C dX7_about_0 rfl 0 rfl ?_
  refine r_callVi [] C dX7_about_1 w_7_103 (ok_X7_noBus l g _ _ h) (Nat.le_of_ble_eq_true rfl) rfl rfl ak_7 (cn_7 (by decide)) rfl rfl (Nat.le_of_ble_eq_true rfl) (fun r2 σ1 h => ?_)
  refine r_if_eq (tgt := 13) C dX7_about_4 rfl (fun q => ?_) (fun q => ?_)
  · have h := h.1 q
    refine r_iload_n C dX7_about_13 rfl 1 rfl ?_
    obtain ⟨h0, h1, h2, h3, h4, h5, h6, h7, h⟩ := h
    by_cases q0 : x1 = 0
    · have h := h0 q0
      refine r_tableIn (off := 46) (tgt := 60) C dX7_about_14 (by rw [q0]; decide) (by rw [q0]; decide) (by rw [q0]; rfl) rfl ?_
      refine r_aload_n C dX7_about_60 rfl 0 rfl ?_
      refine r_aload_n C dX7_about_61 rfl 0 rfl ?_
      refine gf_7_19 C dX7_about_62 (cn_7 (by decide)) ?_
      obtain ⟨hr3, h⟩ := h
      refine gf_7_107 C dX7_about_65 (cn_2 hr3) ?_
      refine r_callVi [] C dX7_about_68 w_7_100 (ok_X7_answer l g _ _ _ h) (Nat.le_of_ble_eq_true rfl) rfl rfl ak_7 (cn_7 (by decide)) rfl rfl (Nat.le_of_ble_eq_true rfl) (fun r5 σ4 h => ?_)
      exact r_ireturn C dX7_about_71 ⟨_, rfl, h⟩
    by_cases q1 : x1 = 1
    · have h := h1 q1
      refine r_tableIn (off := 58) (tgt := 72) C dX7_about_14 (by rw [q1]; decide) (by rw [q1]; decide) (by rw [q1]; rfl) rfl ?_
      refine r_aload_n C dX7_about_72 rfl 0 rfl ?_
      refine r_aload_n C dX7_about_73 rfl 0 rfl ?_
      refine gf_7_19 C dX7_about_74 (cn_7 (by decide)) ?_
      obtain ⟨hr6, h⟩ := h
      refine gf_7_110 C dX7_about_77 (cn_2 hr6) ?_
      refine r_callVi [] C dX7_about_80 w_7_100 (ok_X7_answer l g _ _ _ h) (Nat.le_of_ble_eq_true rfl) rfl rfl ak_7 (cn_7 (by decide)) rfl rfl (Nat.le_of_ble_eq_true rfl) (fun r8 σ7 h => ?_)
      exact r_ireturn C dX7_about_83 ⟨_, rfl, h⟩
    by_cases q2 : x1 = 2
    · have h := h2 q2
      refine r_tableIn (off := 70) (tgt := 84) C dX7_about_14 (by rw [q2]; decide) (by rw [q2]; decide) (by rw [q2]; rfl) rfl ?_
      refine r_aload_n C dX7_about_84 rfl 0 rfl ?_
      refine r_aload_n C dX7_about_85 rfl 0 rfl ?_
      refine gf_7_19 C dX7_about_86 (cn_7 (by decide)) ?_
      obtain ⟨hr9, h⟩ := h
      refine gf_7_113 C dX7_about_89 (cn_2 hr9) ?_
      refine r_callVi [] C dX7_about_92 w_7_100 (ok_X7_answer l g _ _ _ h) (Nat.le_of_ble_eq_true rfl) rfl rfl ak_7 (cn_7 (by decide)) rfl rfl (Nat.le_of_ble_eq_true rfl) (fun r11 σ10 h => ?_)
      exact r_ireturn C dX7_about_95 ⟨_, rfl, h⟩
    by_cases q3 : x1 = 3
    · have h := h3 q3
      refine r_tableIn (off := 82) (tgt := 96) C dX7_about_14 (by rw [q3]; decide) (by rw [q3]; decide) (by rw [q3]; rfl) rfl ?_
      refine r_aload_n C dX7_about_96 rfl 0 rfl ?_
      refine r_aload_n C dX7_about_97 rfl 0 rfl ?_
      refine gf_7_19 C dX7_about_98 (cn_7 (by decide)) ?_
      obtain ⟨hr12, h⟩ := h
      refine gf_7_116 C dX7_about_101 (cn_2 hr12) ?_
      refine r_callVi [] C dX7_about_104 w_7_100 (ok_X7_answer l g _ _ _ h) (Nat.le_of_ble_eq_true rfl) rfl rfl ak_7 (cn_7 (by decide)) rfl rfl (Nat.le_of_ble_eq_true rfl) (fun r14 σ13 h => ?_)
      exact r_ireturn C dX7_about_107 ⟨_, rfl, h⟩
    by_cases q4 : x1 = 4
    · have h := h4 q4
      refine r_tableIn (off := 94) (tgt := 108) C dX7_about_14 (by rw [q4]; decide) (by rw [q4]; decide) (by rw [q4]; rfl) rfl ?_
      refine r_aload_n C dX7_about_108 rfl 0 rfl ?_
      refine r_aload_n C dX7_about_109 rfl 0 rfl ?_
      refine gf_7_19 C dX7_about_110 (cn_7 (by decide)) ?_
      obtain ⟨hr15, h⟩ := h
      refine gf_7_119 C dX7_about_113 (cn_2 hr15) ?_
      refine r_callVi [] C dX7_about_116 w_7_100 (ok_X7_answer l g _ _ _ h) (Nat.le_of_ble_eq_true rfl) rfl rfl ak_7 (cn_7 (by decide)) rfl rfl (Nat.le_of_ble_eq_true rfl) (fun r17 σ16 h => ?_)
      exact r_ireturn C dX7_about_119 ⟨_, rfl, h⟩
    by_cases q5 : x1 = 5
    · have h := h5 q5
      refine r_tableIn (off := 106) (tgt := 120) C dX7_about_14 (by rw [q5]; decide) (by rw [q5]; decide) (by rw [q5]; rfl) rfl ?_
      refine r_aload_n C dX7_about_120 rfl 0 rfl ?_
      refine r_aload_n C dX7_about_121 rfl 0 rfl ?_
      refine gf_7_19 C dX7_about_122 (cn_7 (by decide)) ?_
      obtain ⟨hr18, h⟩ := h
      refine gf_7_122 C dX7_about_125 (cn_2 hr18) ?_
      refine r_callVi [] C dX7_about_128 w_7_100 (ok_X7_answer l g _ _ _ h) (Nat.le_of_ble_eq_true rfl) rfl rfl ak_7 (cn_7 (by decide)) rfl rfl (Nat.le_of_ble_eq_true rfl) (fun r20 σ19 h => ?_)
      exact r_ireturn C dX7_about_131 ⟨_, rfl, h⟩
    by_cases q6 : x1 = 6
    · have h := h6 q6
      refine r_tableIn (off := 118) (tgt := 132) C dX7_about_14 (by rw [q6]; decide) (by rw [q6]; decide) (by rw [q6]; rfl) rfl ?_
      refine r_aload_n C dX7_about_132 rfl 0 rfl ?_
      refine r_aload_n C dX7_about_133 rfl 0 rfl ?_
      refine gf_7_19 C dX7_about_134 (cn_7 (by decide)) ?_
      obtain ⟨hr21, h⟩ := h
      refine gf_7_97 C dX7_about_137 (cn_2 hr21) ?_
      refine r_callVi [] C dX7_about_140 w_7_100 (ok_X7_answer l g _ _ _ h) (Nat.le_of_ble_eq_true rfl) rfl rfl ak_7 (cn_7 (by decide)) rfl rfl (Nat.le_of_ble_eq_true rfl) (fun r23 σ22 h => ?_)
      exact r_ireturn C dX7_about_143 ⟨_, rfl, h⟩
    by_cases q7 : x1 = 7
    · have h := h7 q7
      refine r_tableIn (off := 130) (tgt := 144) C dX7_about_14 (by rw [q7]; decide) (by rw [q7]; decide) (by rw [q7]; rfl) rfl ?_
      refine r_aload_n C dX7_about_144 rfl 0 rfl ?_
      refine r_aload_n C dX7_about_145 rfl 0 rfl ?_
      refine gf_7_33 C dX7_about_146 (cn_7 (by decide)) ?_
      refine gf_7_125 C dX7_about_149 (cn_5 (by decide)) ?_
      refine r_callVi [] C dX7_about_152 w_7_100 (ok_X7_answer l g _ _ _ h) (Nat.le_of_ble_eq_true rfl) rfl rfl ak_7 (cn_7 (by decide)) rfl rfl (Nat.le_of_ble_eq_true rfl) (fun r25 σ24 h => ?_)
      exact r_ireturn C dX7_about_155 ⟨_, rfl, h⟩
    have h := h q0 q1 q2 q3 q4 q5 q6 q7
    refine r_tableOut (tgt := 156) C dX7_about_14 (sw_out7 q0 q1 q2 q3 q4 q5 q6 q7) rfl ?_
    refine r_aload_n C dX7_about_156 rfl 0 rfl ?_
    refine r_iconst C dX7_about_157 ic_1 ?_
    refine r_callVi [] C dX7_about_158 w_7_64 (ok_X7_refuse l g _ _ _ h) (Nat.le_of_ble_eq_true rfl) rfl rfl ak_7 (cn_7 (by decide)) rfl rfl (Nat.le_of_ble_eq_true rfl) (fun r27 σ26 h => ?_)
    exact r_ireturn C dX7_about_161 ⟨_, rfl, h⟩
  · have h := h.2 q
    refine r_aload_n C dX7_about_7 rfl 0 rfl ?_
    refine r_iconst C dX7_about_8 ic_1 ?_
    refine r_callVi [] C dX7_about_9 w_7_64 (ok_X7_refuse l g _ _ _ h) (Nat.le_of_ble_eq_true rfl) rfl rfl ak_7 (cn_7 (by decide)) rfl rfl (Nat.le_of_ble_eq_true rfl) (fun r29 σ28 h => ?_)
    exact r_ireturn C dX7_about_12 ⟨_, rfl, h⟩
def S_X7_at (x1 : Int32) (σ : Hp) (Q : Int32 → Hp → Prop) : Prop :=
  gR σ 0 < 2 ∧ S_X2_hasEnd (gR σ 0) x1 σ (fun r3 σ2 => ((¬ r3 = 0 → gR σ2 0 < 2 ∧ vp_in x1 6 ∧ S_X7_answer (gI σ2 22 (gR σ2 0) (ix x1)) σ2 (fun r6 σ5 => Q r6 σ5)) ∧ (r3 = 0 → S_X7_refuse 1 σ2 (fun r8 σ7 => Q r8 σ7))))
set_option maxHeartbeats 2000000 in
set_option maxRecDepth 20000 in
theorem ok_X7_at (l : Launch) (g : Gm) (x1 : Int32) (σ : Hp) (Q : Int32 → Hp → Prop) (h : S_X7_at x1 σ Q) : Ct l g yX7_at cX7_at 2 (some .int) 1 [.ref (gad g 7 0), .int x1] σ (QI Q) := by
  refine Ct.of (by decide +kernel) (Nat.le_of_ble_eq_true rfl) ?_
  intro p e R s m args below meth c C
  have C : Cx g p R s m args meth c cX7_at 2 RX7 (some .int) 1 := C
  unfold S_X7_at at h
  show G g p l e R s m args below meth c (QI Q) 2 0 [(0, .ref (gad g 7 0)), (1, .int x1)] [] σ
  refine r_aload_n C dX7_at_0 rfl 0 rfl ?_
  refine gf_7_19 C dX7_at_1 (cn_7 (by decide)) ?_
  obtain ⟨hr1, h⟩ := h
  refine r_iload_n C dX7_at_4 rfl 1 rfl ?_
  refine r_callVi [] C dX7_at_5 w_7_128 (ok_X2_hasEnd l g _ hr1 _ _ _ h) (Nat.le_of_ble_eq_true rfl) rfl rfl ak_2 (cn_2 hr1) rfl rfl (Nat.le_of_ble_eq_true rfl) (fun r3 σ2 h => ?_)
  refine r_if_ne (tgt := 17) C dX7_at_8 rfl (fun q => ?_) (fun q => ?_)
  · have h := h.1 q
    refine r_aload_n C dX7_at_17 rfl 0 rfl ?_
    refine r_aload_n C dX7_at_18 rfl 0 rfl ?_
    refine gf_7_19 C dX7_at_19 (cn_7 (by decide)) ?_
    obtain ⟨hr4, h⟩ := h
    refine gf_7_132 C dX7_at_22 (cn_2 hr4) ?_
    refine r_iload_n C dX7_at_25 rfl 1 rfl ?_
    obtain ⟨h0, h⟩ := h
    refine r_iaload C dX7_at_26 ak_22 (cn_22 hr4) al_22 h0 ?_
    refine r_callVi [] C dX7_at_27 w_7_100 (ok_X7_answer l g _ _ _ h) (Nat.le_of_ble_eq_true rfl) rfl rfl ak_7 (cn_7 (by decide)) rfl rfl (Nat.le_of_ble_eq_true rfl) (fun r6 σ5 h => ?_)
    exact r_ireturn C dX7_at_30 ⟨_, rfl, h⟩
  · have h := h.2 q
    refine r_aload_n C dX7_at_11 rfl 0 rfl ?_
    refine r_iconst C dX7_at_12 ic_1 ?_
    refine r_callVi [] C dX7_at_13 w_7_64 (ok_X7_refuse l g _ _ _ h) (Nat.le_of_ble_eq_true rfl) rfl rfl ak_7 (cn_7 (by decide)) rfl rfl (Nat.le_of_ble_eq_true rfl) (fun r8 σ7 h => ?_)
    exact r_ireturn C dX7_at_16 ⟨_, rfl, h⟩
def S_X7_link (x1 : Int32) (x2 : Int32) (σ : Hp) (Q : Int32 → Hp → Prop) : Prop :=
  gR σ 0 < 2 ∧ S_X2_hasLink (gR σ 0) x1 σ (fun r3 σ2 => ((¬ r3 = 0 → ((x2 = 0 → gR σ2 0 < 2 ∧ vp_in x1 8 ∧ S_X7_answer (gI σ2 25 (gR σ2 0) (ix x1)) σ2 (fun r6 σ5 => Q r6 σ5)) ∧ (x2 = 1 → gR σ2 0 < 2 ∧ vp_in x1 8 ∧ S_X7_answer (gI σ2 26 (gR σ2 0) (ix x1)) σ2 (fun r9 σ8 => Q r9 σ8)) ∧ (x2 = 2 → gR σ2 0 < 2 ∧ vp_in x1 8 ∧ S_X7_answer (gI σ2 27 (gR σ2 0) (ix x1)) σ2 (fun r12 σ11 => Q r12 σ11)) ∧ (x2 = 3 → gR σ2 0 < 2 ∧ vp_in x1 8 ∧ S_X7_answer (gI σ2 28 (gR σ2 0) (ix x1)) σ2 (fun r15 σ14 => Q r15 σ14)) ∧ (¬ x2 = 0 → ¬ x2 = 1 → ¬ x2 = 2 → ¬ x2 = 3 → S_X7_refuse 1 σ2 (fun r17 σ16 => Q r17 σ16)))) ∧ (r3 = 0 → S_X7_refuse 1 σ2 (fun r19 σ18 => Q r19 σ18))))
set_option maxHeartbeats 2000000 in
set_option maxRecDepth 20000 in
theorem ok_X7_link (l : Launch) (g : Gm) (x1 : Int32) (x2 : Int32) (σ : Hp) (Q : Int32 → Hp → Prop) (h : S_X7_link x1 x2 σ Q) : Ct l g yX7_link cX7_link 3 (some .int) 1 [.ref (gad g 7 0), .int x1, .int x2] σ (QI Q) := by
  refine Ct.of (by decide +kernel) (Nat.le_of_ble_eq_true rfl) ?_
  intro p e R s m args below meth c C
  have C : Cx g p R s m args meth c cX7_link 3 RX7 (some .int) 1 := C
  unfold S_X7_link at h
  show G g p l e R s m args below meth c (QI Q) 3 0 [(0, .ref (gad g 7 0)), (1, .int x1), (2, .int x2)] [] σ
  refine r_aload_n C dX7_link_0 rfl 0 rfl ?_
  refine gf_7_19 C dX7_link_1 (cn_7 (by decide)) ?_
  obtain ⟨hr1, h⟩ := h
  refine r_iload_n C dX7_link_4 rfl 1 rfl ?_
  refine r_callVi [] C dX7_link_5 w_7_136 (ok_X2_hasLink l g _ hr1 _ _ _ h) (Nat.le_of_ble_eq_true rfl) rfl rfl ak_2 (cn_2 hr1) rfl rfl (Nat.le_of_ble_eq_true rfl) (fun r3 σ2 h => ?_)
  refine r_if_ne (tgt := 17) C dX7_link_8 rfl (fun q => ?_) (fun q => ?_)
  · have h := h.1 q
    refine r_iload_n C dX7_link_17 rfl 2 rfl ?_
    obtain ⟨h0, h1, h2, h3, h⟩ := h
    by_cases q0 : x2 = 0
    · have h := h0 q0
      refine r_tableIn (off := 30) (tgt := 48) C dX7_link_18 (by rw [q0]; decide) (by rw [q0]; decide) (by rw [q0]; rfl) rfl ?_
      refine r_aload_n C dX7_link_48 rfl 0 rfl ?_
      refine r_aload_n C dX7_link_49 rfl 0 rfl ?_
      refine gf_7_19 C dX7_link_50 (cn_7 (by decide)) ?_
      obtain ⟨hr4, h⟩ := h
      refine gf_7_139 C dX7_link_53 (cn_2 hr4) ?_
      refine r_iload_n C dX7_link_56 rfl 1 rfl ?_
      obtain ⟨h0, h⟩ := h
      refine r_iaload C dX7_link_57 ak_25 (cn_25 hr4) al_25 h0 ?_
      refine r_callVi [] C dX7_link_58 w_7_100 (ok_X7_answer l g _ _ _ h) (Nat.le_of_ble_eq_true rfl) rfl rfl ak_7 (cn_7 (by decide)) rfl rfl (Nat.le_of_ble_eq_true rfl) (fun r6 σ5 h => ?_)
      exact r_ireturn C dX7_link_61 ⟨_, rfl, h⟩
    by_cases q1 : x2 = 1
    · have h := h1 q1
      refine r_tableIn (off := 44) (tgt := 62) C dX7_link_18 (by rw [q1]; decide) (by rw [q1]; decide) (by rw [q1]; rfl) rfl ?_
      refine r_aload_n C dX7_link_62 rfl 0 rfl ?_
      refine r_aload_n C dX7_link_63 rfl 0 rfl ?_
      refine gf_7_19 C dX7_link_64 (cn_7 (by decide)) ?_
      obtain ⟨hr7, h⟩ := h
      refine gf_7_142 C dX7_link_67 (cn_2 hr7) ?_
      refine r_iload_n C dX7_link_70 rfl 1 rfl ?_
      obtain ⟨h0, h⟩ := h
      refine r_iaload C dX7_link_71 ak_26 (cn_26 hr7) al_26 h0 ?_
      refine r_callVi [] C dX7_link_72 w_7_100 (ok_X7_answer l g _ _ _ h) (Nat.le_of_ble_eq_true rfl) rfl rfl ak_7 (cn_7 (by decide)) rfl rfl (Nat.le_of_ble_eq_true rfl) (fun r9 σ8 h => ?_)
      exact r_ireturn C dX7_link_75 ⟨_, rfl, h⟩
    by_cases q2 : x2 = 2
    · have h := h2 q2
      refine r_tableIn (off := 58) (tgt := 76) C dX7_link_18 (by rw [q2]; decide) (by rw [q2]; decide) (by rw [q2]; rfl) rfl ?_
      refine r_aload_n C dX7_link_76 rfl 0 rfl ?_
      refine r_aload_n C dX7_link_77 rfl 0 rfl ?_
      refine gf_7_19 C dX7_link_78 (cn_7 (by decide)) ?_
      obtain ⟨hr10, h⟩ := h
      refine gf_7_145 C dX7_link_81 (cn_2 hr10) ?_
      refine r_iload_n C dX7_link_84 rfl 1 rfl ?_
      obtain ⟨h0, h⟩ := h
      refine r_iaload C dX7_link_85 ak_27 (cn_27 hr10) al_27 h0 ?_
      refine r_callVi [] C dX7_link_86 w_7_100 (ok_X7_answer l g _ _ _ h) (Nat.le_of_ble_eq_true rfl) rfl rfl ak_7 (cn_7 (by decide)) rfl rfl (Nat.le_of_ble_eq_true rfl) (fun r12 σ11 h => ?_)
      exact r_ireturn C dX7_link_89 ⟨_, rfl, h⟩
    by_cases q3 : x2 = 3
    · have h := h3 q3
      refine r_tableIn (off := 72) (tgt := 90) C dX7_link_18 (by rw [q3]; decide) (by rw [q3]; decide) (by rw [q3]; rfl) rfl ?_
      refine r_aload_n C dX7_link_90 rfl 0 rfl ?_
      refine r_aload_n C dX7_link_91 rfl 0 rfl ?_
      refine gf_7_19 C dX7_link_92 (cn_7 (by decide)) ?_
      obtain ⟨hr13, h⟩ := h
      refine gf_7_148 C dX7_link_95 (cn_2 hr13) ?_
      refine r_iload_n C dX7_link_98 rfl 1 rfl ?_
      obtain ⟨h0, h⟩ := h
      refine r_iaload C dX7_link_99 ak_28 (cn_28 hr13) al_28 h0 ?_
      refine r_callVi [] C dX7_link_100 w_7_100 (ok_X7_answer l g _ _ _ h) (Nat.le_of_ble_eq_true rfl) rfl rfl ak_7 (cn_7 (by decide)) rfl rfl (Nat.le_of_ble_eq_true rfl) (fun r15 σ14 h => ?_)
      exact r_ireturn C dX7_link_103 ⟨_, rfl, h⟩
    have h := h q0 q1 q2 q3
    refine r_tableOut (tgt := 104) C dX7_link_18 (sw_out3 q0 q1 q2 q3) rfl ?_
    refine r_aload_n C dX7_link_104 rfl 0 rfl ?_
    refine r_iconst C dX7_link_105 ic_1 ?_
    refine r_callVi [] C dX7_link_106 w_7_64 (ok_X7_refuse l g _ _ _ h) (Nat.le_of_ble_eq_true rfl) rfl rfl ak_7 (cn_7 (by decide)) rfl rfl (Nat.le_of_ble_eq_true rfl) (fun r17 σ16 h => ?_)
    exact r_ireturn C dX7_link_109 ⟨_, rfl, h⟩
  · have h := h.2 q
    refine r_aload_n C dX7_link_11 rfl 0 rfl ?_
    refine r_iconst C dX7_link_12 ic_1 ?_
    refine r_callVi [] C dX7_link_13 w_7_64 (ok_X7_refuse l g _ _ _ h) (Nat.le_of_ble_eq_true rfl) rfl rfl ak_7 (cn_7 (by decide)) rfl rfl (Nat.le_of_ble_eq_true rfl) (fun r19 σ18 h => ?_)
    exact r_ireturn C dX7_link_16 ⟨_, rfl, h⟩
def S_X7_receiver (x1 : Int32) (x2 : Int32) (σ : Hp) (Q : Int32 → Hp → Prop) : Prop :=
  gR σ 0 < 2 ∧ S_X2_hasReceiver (gR σ 0) x1 x2 σ (fun r3 σ2 => ((¬ r3 = 0 → gR σ2 0 < 2 ∧ S_X7_earOf x1 x2 σ2 (fun r6 σ5 => vp_in r6 24 ∧ S_X7_answer (gI σ5 29 (gR σ2 0) (ix r6)) σ5 (fun r8 σ7 => Q r8 σ7))) ∧ (r3 = 0 → S_X7_refuse 1 σ2 (fun r10 σ9 => Q r10 σ9))))
set_option maxHeartbeats 2000000 in
set_option maxRecDepth 20000 in
theorem ok_X7_receiver (l : Launch) (g : Gm) (x1 : Int32) (x2 : Int32) (σ : Hp) (Q : Int32 → Hp → Prop) (h : S_X7_receiver x1 x2 σ Q) : Ct l g yX7_receiver cX7_receiver 3 (some .int) 2 [.ref (gad g 7 0), .int x1, .int x2] σ (QI Q) := by
  refine Ct.of (by decide +kernel) (Nat.le_of_ble_eq_true rfl) ?_
  intro p e R s m args below meth c C
  have C : Cx g p R s m args meth c cX7_receiver 3 RX7 (some .int) 2 := C
  unfold S_X7_receiver at h
  show G g p l e R s m args below meth c (QI Q) 3 0 [(0, .ref (gad g 7 0)), (1, .int x1), (2, .int x2)] [] σ
  refine r_aload_n C dX7_receiver_0 rfl 0 rfl ?_
  refine gf_7_19 C dX7_receiver_1 (cn_7 (by decide)) ?_
  obtain ⟨hr1, h⟩ := h
  refine r_iload_n C dX7_receiver_4 rfl 1 rfl ?_
  refine r_iload_n C dX7_receiver_5 rfl 2 rfl ?_
  refine r_callVi [] C dX7_receiver_6 w_7_151 (ok_X2_hasReceiver l g _ hr1 _ _ _ _ h) (Nat.le_of_ble_eq_true rfl) rfl rfl ak_2 (cn_2 hr1) rfl rfl (Nat.le_of_ble_eq_true rfl) (fun r3 σ2 h => ?_)
  refine r_if_ne (tgt := 18) C dX7_receiver_9 rfl (fun q => ?_) (fun q => ?_)
  · have h := h.1 q
    refine r_aload_n C dX7_receiver_18 rfl 0 rfl ?_
    refine r_aload_n C dX7_receiver_19 rfl 0 rfl ?_
    refine gf_7_19 C dX7_receiver_20 (cn_7 (by decide)) ?_
    obtain ⟨hr4, h⟩ := h
    refine gf_7_155 C dX7_receiver_23 (cn_2 hr4) ?_
    refine r_iload_n C dX7_receiver_26 rfl 1 rfl ?_
    refine r_iload_n C dX7_receiver_27 rfl 2 rfl ?_
    refine r_callSi [.ref (gad g 29 _), .ref (gad g 7 0)] C dX7_receiver_28 w_7_158 (ok_X7_earOf l g _ _ _ _ h) (Nat.le_of_ble_eq_true rfl) rfl rfl (Nat.le_of_ble_eq_true rfl) (fun r6 σ5 h => ?_)
    obtain ⟨h0, h⟩ := h
    refine r_iaload C dX7_receiver_31 ak_29 (cn_29 hr4) al_29 h0 ?_
    refine r_callVi [] C dX7_receiver_32 w_7_100 (ok_X7_answer l g _ _ _ h) (Nat.le_of_ble_eq_true rfl) rfl rfl ak_7 (cn_7 (by decide)) rfl rfl (Nat.le_of_ble_eq_true rfl) (fun r8 σ7 h => ?_)
    exact r_ireturn C dX7_receiver_35 ⟨_, rfl, h⟩
  · have h := h.2 q
    refine r_aload_n C dX7_receiver_12 rfl 0 rfl ?_
    refine r_iconst C dX7_receiver_13 ic_1 ?_
    refine r_callVi [] C dX7_receiver_14 w_7_64 (ok_X7_refuse l g _ _ _ h) (Nat.le_of_ble_eq_true rfl) rfl rfl ak_7 (cn_7 (by decide)) rfl rfl (Nat.le_of_ble_eq_true rfl) (fun r10 σ9 h => ?_)
    exact r_ireturn C dX7_receiver_17 ⟨_, rfl, h⟩
def S_X7_named (x1 : Int64) (σ : Hp) (Q : Int32 → Hp → Prop) : Prop :=
  gR σ 0 < 2 ∧ S_X2_endNamed (gR σ 0) x1 σ (fun r3 σ2 => ((r3 = (-1) → gR σ2 0 < 2 ∧ S_X2_linkNamed (gR σ2 0) x1 σ2 (fun r6 σ5 => ((r6 = (-1) → S_X7_refuse 1 σ5 (fun r8 σ7 => Q r8 σ7)) ∧ (¬ r6 = (-1) → S_X7_answer (10 + r6) σ5 (fun r10 σ9 => Q r10 σ9))))) ∧ (¬ r3 = (-1) → S_X7_answer r3 σ2 (fun r12 σ11 => Q r12 σ11))))
set_option maxHeartbeats 2000000 in
set_option maxRecDepth 20000 in
theorem ok_X7_named (l : Launch) (g : Gm) (x1 : Int64) (σ : Hp) (Q : Int32 → Hp → Prop) (h : S_X7_named x1 σ Q) : Ct l g yX7_named cX7_named 5 (some .int) 1 [.ref (gad g 7 0), .long x1] σ (QI Q) := by
  refine Ct.of (by decide +kernel) (Nat.le_of_ble_eq_true rfl) ?_
  intro p e R s m args below meth c C
  have C : Cx g p R s m args meth c cX7_named 5 RX7 (some .int) 1 := C
  unfold S_X7_named at h
  show G g p l e R s m args below meth c (QI Q) 5 0 [(0, .ref (gad g 7 0)), (1, .long x1)] [] σ
  refine r_aload_n C dX7_named_0 rfl 0 rfl ?_
  refine gf_7_19 C dX7_named_1 (cn_7 (by decide)) ?_
  obtain ⟨hr1, h⟩ := h
  refine r_lload_n C dX7_named_4 rfl 1 rfl ?_
  refine r_callVi [] C dX7_named_5 w_7_162 (ok_X2_endNamed l g _ hr1 _ _ _ h) (Nat.le_of_ble_eq_true rfl) rfl rfl ak_2 (cn_2 hr1) rfl rfl (Nat.le_of_ble_eq_true rfl) (fun r3 σ2 h => ?_)
  refine r_istore_n C dX7_named_8 rfl (Nat.le_of_ble_eq_true rfl) rfl ?_
  refine r_iload_n C dX7_named_9 rfl 0 rfl ?_
  refine r_iconst C dX7_named_10 ic_m1 ?_
  refine r_icmp_eq (tgt := 20) C dX7_named_11 rfl (fun q => ?_) (fun q => ?_)
  · have h := h.1 q
    refine r_aload_n C dX7_named_20 rfl 1 rfl ?_
    refine gf_7_19 C dX7_named_21 (cn_7 (by decide)) ?_
    obtain ⟨hr4, h⟩ := h
    refine r_lload_n C dX7_named_24 rfl 2 rfl ?_
    refine r_callVi [] C dX7_named_25 w_7_166 (ok_X2_linkNamed l g _ hr4 _ _ _ h) (Nat.le_of_ble_eq_true rfl) rfl rfl ak_2 (cn_2 hr4) rfl rfl (Nat.le_of_ble_eq_true rfl) (fun r6 σ5 h => ?_)
    refine r_istore C dX7_named_28 (Nat.le_of_ble_eq_true rfl) rfl ?_
    refine r_iload C dX7_named_30 0 rfl ?_
    refine r_iconst C dX7_named_32 ic_m1 ?_
    refine r_icmp_eq (tgt := 46) C dX7_named_33 rfl (fun q => ?_) (fun q => ?_)
    · have h := h.1 q
      refine r_aload_n C dX7_named_46 rfl 2 rfl ?_
      refine r_iconst C dX7_named_47 ic_1 ?_
      refine r_callVi [] C dX7_named_48 w_7_64 (ok_X7_refuse l g _ _ _ h) (Nat.le_of_ble_eq_true rfl) rfl rfl ak_7 (cn_7 (by decide)) rfl rfl (Nat.le_of_ble_eq_true rfl) (fun r8 σ7 h => ?_)
      exact r_ireturn C dX7_named_51 ⟨_, rfl, h⟩
    · have h := h.2 q
      refine r_aload_n C dX7_named_36 rfl 2 rfl ?_
      refine r_bipush C dX7_named_37 bi_10 ?_
      refine r_iload C dX7_named_39 0 rfl ?_
      refine r_iadd C dX7_named_41 ?_
      refine r_callVi [] C dX7_named_42 w_7_100 (ok_X7_answer l g _ _ _ h) (Nat.le_of_ble_eq_true rfl) rfl rfl ak_7 (cn_7 (by decide)) rfl rfl (Nat.le_of_ble_eq_true rfl) (fun r10 σ9 h => ?_)
      exact r_ireturn C dX7_named_45 ⟨_, rfl, h⟩
  · have h := h.2 q
    refine r_aload_n C dX7_named_14 rfl 1 rfl ?_
    refine r_iload_n C dX7_named_15 rfl 0 rfl ?_
    refine r_callVi [] C dX7_named_16 w_7_100 (ok_X7_answer l g _ _ _ h) (Nat.le_of_ble_eq_true rfl) rfl rfl ak_7 (cn_7 (by decide)) rfl rfl (Nat.le_of_ble_eq_true rfl) (fun r12 σ11 h => ?_)
    exact r_ireturn C dX7_named_19 ⟨_, rfl, h⟩
def S_X7_hasPortOnWay (x1 : Int32) (x2 : Int32) (x3 : Int32) (σ : Hp) (Q : Int32 → Hp → Prop) : Prop :=
  gR σ 0 < 2 ∧ S_X2_hasReceiver (gR σ 0) x1 x2 σ (fun r3 σ2 => ((r3 = 0 → Q 0 σ2) ∧ (¬ r3 = 0 → ((x3 < 0 → Q 0 σ2) ∧ (¬ x3 < 0 → gR σ2 0 < 2 ∧ S_X7_earOf x1 x2 σ2 (fun r6 σ5 => vp_in r6 24 ∧ (((gI σ5 48 (gR σ2 0) (ix r6)) ≤ x3 → Q 0 σ5) ∧ (¬ (gI σ5 48 (gR σ2 0) (ix r6)) ≤ x3 → Q 1 σ5))))))))
set_option maxHeartbeats 2000000 in
set_option maxRecDepth 20000 in
theorem ok_X7_hasPortOnWay (l : Launch) (g : Gm) (x1 : Int32) (x2 : Int32) (x3 : Int32) (σ : Hp) (Q : Int32 → Hp → Prop) (h : S_X7_hasPortOnWay x1 x2 x3 σ Q) : Ct l g yX7_hasPortOnWay cX7_hasPortOnWay 4 (some .boolean) 2 [.ref (gad g 7 0), .int x1, .int x2, .int x3] σ (QI Q) := by
  refine Ct.of (by decide +kernel) (Nat.le_of_ble_eq_true rfl) ?_
  intro p e R s m args below meth c C
  have C : Cx g p R s m args meth c cX7_hasPortOnWay 4 RX7 (some .boolean) 2 := C
  unfold S_X7_hasPortOnWay at h
  show G g p l e R s m args below meth c (QI Q) 4 0 [(0, .ref (gad g 7 0)), (1, .int x1), (2, .int x2), (3, .int x3)] [] σ
  refine r_aload_n C dX7_hasPortOnWay_0 rfl 0 rfl ?_
  refine gf_7_19 C dX7_hasPortOnWay_1 (cn_7 (by decide)) ?_
  obtain ⟨hr1, h⟩ := h
  refine r_iload_n C dX7_hasPortOnWay_4 rfl 1 rfl ?_
  refine r_iload_n C dX7_hasPortOnWay_5 rfl 2 rfl ?_
  refine r_callVi [] C dX7_hasPortOnWay_6 w_7_151 (ok_X2_hasReceiver l g _ hr1 _ _ _ _ h) (Nat.le_of_ble_eq_true rfl) rfl rfl ak_2 (cn_2 hr1) rfl rfl (Nat.le_of_ble_eq_true rfl) (fun r3 σ2 h => ?_)
  refine r_if_eq (tgt := 40) C dX7_hasPortOnWay_9 rfl (fun q => ?_) (fun q => ?_)
  · have h := h.1 q
    refine r_iconst C dX7_hasPortOnWay_40 ic_0 ?_
    exact r_zreturn C dX7_hasPortOnWay_41 zb0.1 ⟨_, rfl, h⟩
  · have h := h.2 q
    refine r_iload_n C dX7_hasPortOnWay_12 rfl 3 rfl ?_
    refine r_if_lt (tgt := 40) C dX7_hasPortOnWay_13 rfl (fun q => ?_) (fun q => ?_)
    · have h := h.1 q
      refine r_iconst C dX7_hasPortOnWay_40 ic_0 ?_
      exact r_zreturn C dX7_hasPortOnWay_41 zb0.1 ⟨_, rfl, h⟩
    · have h := h.2 q
      refine r_iload_n C dX7_hasPortOnWay_16 rfl 3 rfl ?_
      refine r_aload_n C dX7_hasPortOnWay_17 rfl 0 rfl ?_
      refine gf_7_19 C dX7_hasPortOnWay_18 (cn_7 (by decide)) ?_
      obtain ⟨hr4, h⟩ := h
      refine gf_7_81 C dX7_hasPortOnWay_21 (cn_2 hr4) ?_
      refine gf_7_348 C dX7_hasPortOnWay_24 (cn_6 hr4) ?_
      refine r_iload_n C dX7_hasPortOnWay_27 rfl 1 rfl ?_
      refine r_iload_n C dX7_hasPortOnWay_28 rfl 2 rfl ?_
      refine r_callSi [.ref (gad g 48 _), .int _] C dX7_hasPortOnWay_29 w_7_158 (ok_X7_earOf l g _ _ _ _ h) (Nat.le_of_ble_eq_true rfl) rfl rfl (Nat.le_of_ble_eq_true rfl) (fun r6 σ5 h => ?_)
      obtain ⟨h0, h⟩ := h
      refine r_iaload C dX7_hasPortOnWay_32 ak_48 (cn_48 hr4) al_48 h0 ?_
      refine r_icmp_ge (tgt := 40) C dX7_hasPortOnWay_33 rfl (fun q => ?_) (fun q => ?_)
      · have h := h.1 q
        refine r_iconst C dX7_hasPortOnWay_40 ic_0 ?_
        exact r_zreturn C dX7_hasPortOnWay_41 zb0.1 ⟨_, rfl, h⟩
      · have h := h.2 q
        refine r_iconst C dX7_hasPortOnWay_36 ic_1 ?_
        refine r_goto (tgt := 41) C dX7_hasPortOnWay_37 rfl ?_
        exact r_zreturn C dX7_hasPortOnWay_41 zb1.1 ⟨_, rfl, h⟩
def S_X7_way (x1 : Int32) (x2 : Int32) (x3 : Int32) (σ : Hp) (Q : Int32 → Hp → Prop) : Prop :=
  S_X7_hasPortOnWay x1 x2 x3 σ (fun r2 σ1 => ((¬ r2 = 0 → gR σ1 0 < 2 ∧ S_X7_earOf x1 x2 σ1 (fun r5 σ4 => S_X6_portAt (gR σ1 0) r5 x3 σ4 (fun r7 σ6 => S_X7_answer r7 σ6 (fun r9 σ8 => Q r9 σ8)))) ∧ (r2 = 0 → S_X7_refuse 1 σ1 (fun r11 σ10 => Q r11 σ10))))
set_option maxHeartbeats 2000000 in
set_option maxRecDepth 20000 in
theorem ok_X7_way (l : Launch) (g : Gm) (x1 : Int32) (x2 : Int32) (x3 : Int32) (σ : Hp) (Q : Int32 → Hp → Prop) (h : S_X7_way x1 x2 x3 σ Q) : Ct l g yX7_way cX7_way 4 (some .int) 3 [.ref (gad g 7 0), .int x1, .int x2, .int x3] σ (QI Q) := by
  refine Ct.of (by decide +kernel) (Nat.le_of_ble_eq_true rfl) ?_
  intro p e R s m args below meth c C
  have C : Cx g p R s m args meth c cX7_way 4 RX7 (some .int) 3 := C
  unfold S_X7_way at h
  show G g p l e R s m args below meth c (QI Q) 4 0 [(0, .ref (gad g 7 0)), (1, .int x1), (2, .int x2), (3, .int x3)] [] σ
  refine r_aload_n C dX7_way_0 rfl 0 rfl ?_
  refine r_iload_n C dX7_way_1 rfl 1 rfl ?_
  refine r_iload_n C dX7_way_2 rfl 2 rfl ?_
  refine r_iload_n C dX7_way_3 rfl 3 rfl ?_
  refine r_callVi [] C dX7_way_4 w_7_169 (ok_X7_hasPortOnWay l g _ _ _ _ _ h) (Nat.le_of_ble_eq_true rfl) rfl rfl ak_7 (cn_7 (by decide)) rfl rfl (Nat.le_of_ble_eq_true rfl) (fun r2 σ1 h => ?_)
  refine r_if_ne (tgt := 16) C dX7_way_7 rfl (fun q => ?_) (fun q => ?_)
  · have h := h.1 q
    refine r_aload_n C dX7_way_16 rfl 0 rfl ?_
    refine r_aload_n C dX7_way_17 rfl 0 rfl ?_
    refine gf_7_19 C dX7_way_18 (cn_7 (by decide)) ?_
    obtain ⟨hr3, h⟩ := h
    refine gf_7_81 C dX7_way_21 (cn_2 hr3) ?_
    refine r_iload_n C dX7_way_24 rfl 1 rfl ?_
    refine r_iload_n C dX7_way_25 rfl 2 rfl ?_
    refine r_callSi [.ref (gad g 6 _), .ref (gad g 7 0)] C dX7_way_26 w_7_158 (ok_X7_earOf l g _ _ _ _ h) (Nat.le_of_ble_eq_true rfl) rfl rfl (Nat.le_of_ble_eq_true rfl) (fun r5 σ4 h => ?_)
    refine r_iload_n C dX7_way_29 rfl 3 rfl ?_
    refine r_callVi [.ref (gad g 7 0)] C dX7_way_30 w_7_173 (ok_X6_portAt l g _ hr3 _ _ _ _ h) (Nat.le_of_ble_eq_true rfl) rfl rfl ak_6 (cn_6 hr3) rfl rfl (Nat.le_of_ble_eq_true rfl) (fun r7 σ6 h => ?_)
    refine r_callVi [] C dX7_way_33 w_7_100 (ok_X7_answer l g _ _ _ h) (Nat.le_of_ble_eq_true rfl) rfl rfl ak_7 (cn_7 (by decide)) rfl rfl (Nat.le_of_ble_eq_true rfl) (fun r9 σ8 h => ?_)
    exact r_ireturn C dX7_way_36 ⟨_, rfl, h⟩
  · have h := h.2 q
    refine r_aload_n C dX7_way_10 rfl 0 rfl ?_
    refine r_iconst C dX7_way_11 ic_1 ?_
    refine r_callVi [] C dX7_way_12 w_7_64 (ok_X7_refuse l g _ _ _ h) (Nat.le_of_ble_eq_true rfl) rfl rfl ak_7 (cn_7 (by decide)) rfl rfl (Nat.le_of_ble_eq_true rfl) (fun r11 σ10 h => ?_)
    exact r_ireturn C dX7_way_15 ⟨_, rfl, h⟩
def S_X7_waits (x1 : Int32) (x2 : Int32) (σ : Hp) (Q : Int32 → Hp → Prop) : Prop :=
  gR σ 0 < 2 ∧ S_X2_hasLink (gR σ 0) x1 σ (fun r3 σ2 => ((¬ r3 = 0 → ((x2 = 0 → vp_in x1 8 ∧ S_X7_answer (gI σ2 40 0 (ix x1)) σ2 (fun r5 σ4 => Q r5 σ4)) ∧ (x2 = 1 → vp_in x1 8 ∧ S_X7_answer (gI σ2 41 0 (ix x1)) σ2 (fun r7 σ6 => Q r7 σ6)) ∧ (x2 = 2 → vp_in x1 8 ∧ S_X7_answer (gI σ2 42 0 (ix x1)) σ2 (fun r9 σ8 => Q r9 σ8)) ∧ (x2 = 3 → vp_in x1 8 ∧ S_X7_answer (gI σ2 43 0 (ix x1)) σ2 (fun r11 σ10 => Q r11 σ10)) ∧ (x2 = 4 → vp_in x1 8 ∧ S_X7_answer (gI σ2 44 0 (ix x1)) σ2 (fun r13 σ12 => Q r13 σ12)) ∧ (¬ x2 = 0 → ¬ x2 = 1 → ¬ x2 = 2 → ¬ x2 = 3 → ¬ x2 = 4 → S_X7_refuse 1 σ2 (fun r15 σ14 => Q r15 σ14)))) ∧ (r3 = 0 → S_X7_refuse 1 σ2 (fun r17 σ16 => Q r17 σ16))))
set_option maxHeartbeats 2000000 in
set_option maxRecDepth 20000 in
theorem ok_X7_waits (l : Launch) (g : Gm) (x1 : Int32) (x2 : Int32) (σ : Hp) (Q : Int32 → Hp → Prop) (h : S_X7_waits x1 x2 σ Q) : Ct l g yX7_waits cX7_waits 3 (some .int) 1 [.ref (gad g 7 0), .int x1, .int x2] σ (QI Q) := by
  refine Ct.of (by decide +kernel) (Nat.le_of_ble_eq_true rfl) ?_
  intro p e R s m args below meth c C
  have C : Cx g p R s m args meth c cX7_waits 3 RX7 (some .int) 1 := C
  unfold S_X7_waits at h
  show G g p l e R s m args below meth c (QI Q) 3 0 [(0, .ref (gad g 7 0)), (1, .int x1), (2, .int x2)] [] σ
  refine r_aload_n C dX7_waits_0 rfl 0 rfl ?_
  refine gf_7_19 C dX7_waits_1 (cn_7 (by decide)) ?_
  obtain ⟨hr1, h⟩ := h
  refine r_iload_n C dX7_waits_4 rfl 1 rfl ?_
  refine r_callVi [] C dX7_waits_5 w_7_136 (ok_X2_hasLink l g _ hr1 _ _ _ h) (Nat.le_of_ble_eq_true rfl) rfl rfl ak_2 (cn_2 hr1) rfl rfl (Nat.le_of_ble_eq_true rfl) (fun r3 σ2 h => ?_)
  refine r_if_ne (tgt := 17) C dX7_waits_8 rfl (fun q => ?_) (fun q => ?_)
  · have h := h.1 q
    refine r_iload_n C dX7_waits_17 rfl 2 rfl ?_
    obtain ⟨h0, h1, h2, h3, h4, h⟩ := h
    by_cases q0 : x2 = 0
    · have h := h0 q0
      refine r_tableIn (off := 34) (tgt := 52) C dX7_waits_18 (by rw [q0]; decide) (by rw [q0]; decide) (by rw [q0]; rfl) rfl ?_
      refine r_aload_n C dX7_waits_52 rfl 0 rfl ?_
      refine r_aload_n C dX7_waits_53 rfl 0 rfl ?_
      refine gf_7_33 C dX7_waits_54 (cn_7 (by decide)) ?_
      refine gf_7_176 C dX7_waits_57 (cn_5 (by decide)) ?_
      refine r_iload_n C dX7_waits_60 rfl 1 rfl ?_
      obtain ⟨h0, h⟩ := h
      refine r_iaload C dX7_waits_61 ak_40 (cn_40 (by decide)) al_40 h0 ?_
      refine r_callVi [] C dX7_waits_62 w_7_100 (ok_X7_answer l g _ _ _ h) (Nat.le_of_ble_eq_true rfl) rfl rfl ak_7 (cn_7 (by decide)) rfl rfl (Nat.le_of_ble_eq_true rfl) (fun r5 σ4 h => ?_)
      exact r_ireturn C dX7_waits_65 ⟨_, rfl, h⟩
    by_cases q1 : x2 = 1
    · have h := h1 q1
      refine r_tableIn (off := 48) (tgt := 66) C dX7_waits_18 (by rw [q1]; decide) (by rw [q1]; decide) (by rw [q1]; rfl) rfl ?_
      refine r_aload_n C dX7_waits_66 rfl 0 rfl ?_
      refine r_aload_n C dX7_waits_67 rfl 0 rfl ?_
      refine gf_7_33 C dX7_waits_68 (cn_7 (by decide)) ?_
      refine gf_7_179 C dX7_waits_71 (cn_5 (by decide)) ?_
      refine r_iload_n C dX7_waits_74 rfl 1 rfl ?_
      obtain ⟨h0, h⟩ := h
      refine r_iaload C dX7_waits_75 ak_41 (cn_41 (by decide)) al_41 h0 ?_
      refine r_callVi [] C dX7_waits_76 w_7_100 (ok_X7_answer l g _ _ _ h) (Nat.le_of_ble_eq_true rfl) rfl rfl ak_7 (cn_7 (by decide)) rfl rfl (Nat.le_of_ble_eq_true rfl) (fun r7 σ6 h => ?_)
      exact r_ireturn C dX7_waits_79 ⟨_, rfl, h⟩
    by_cases q2 : x2 = 2
    · have h := h2 q2
      refine r_tableIn (off := 62) (tgt := 80) C dX7_waits_18 (by rw [q2]; decide) (by rw [q2]; decide) (by rw [q2]; rfl) rfl ?_
      refine r_aload_n C dX7_waits_80 rfl 0 rfl ?_
      refine r_aload_n C dX7_waits_81 rfl 0 rfl ?_
      refine gf_7_33 C dX7_waits_82 (cn_7 (by decide)) ?_
      refine gf_7_182 C dX7_waits_85 (cn_5 (by decide)) ?_
      refine r_iload_n C dX7_waits_88 rfl 1 rfl ?_
      obtain ⟨h0, h⟩ := h
      refine r_iaload C dX7_waits_89 ak_42 (cn_42 (by decide)) al_42 h0 ?_
      refine r_callVi [] C dX7_waits_90 w_7_100 (ok_X7_answer l g _ _ _ h) (Nat.le_of_ble_eq_true rfl) rfl rfl ak_7 (cn_7 (by decide)) rfl rfl (Nat.le_of_ble_eq_true rfl) (fun r9 σ8 h => ?_)
      exact r_ireturn C dX7_waits_93 ⟨_, rfl, h⟩
    by_cases q3 : x2 = 3
    · have h := h3 q3
      refine r_tableIn (off := 76) (tgt := 94) C dX7_waits_18 (by rw [q3]; decide) (by rw [q3]; decide) (by rw [q3]; rfl) rfl ?_
      refine r_aload_n C dX7_waits_94 rfl 0 rfl ?_
      refine r_aload_n C dX7_waits_95 rfl 0 rfl ?_
      refine gf_7_33 C dX7_waits_96 (cn_7 (by decide)) ?_
      refine gf_7_185 C dX7_waits_99 (cn_5 (by decide)) ?_
      refine r_iload_n C dX7_waits_102 rfl 1 rfl ?_
      obtain ⟨h0, h⟩ := h
      refine r_iaload C dX7_waits_103 ak_43 (cn_43 (by decide)) al_43 h0 ?_
      refine r_callVi [] C dX7_waits_104 w_7_100 (ok_X7_answer l g _ _ _ h) (Nat.le_of_ble_eq_true rfl) rfl rfl ak_7 (cn_7 (by decide)) rfl rfl (Nat.le_of_ble_eq_true rfl) (fun r11 σ10 h => ?_)
      exact r_ireturn C dX7_waits_107 ⟨_, rfl, h⟩
    by_cases q4 : x2 = 4
    · have h := h4 q4
      refine r_tableIn (off := 90) (tgt := 108) C dX7_waits_18 (by rw [q4]; decide) (by rw [q4]; decide) (by rw [q4]; rfl) rfl ?_
      refine r_aload_n C dX7_waits_108 rfl 0 rfl ?_
      refine r_aload_n C dX7_waits_109 rfl 0 rfl ?_
      refine gf_7_33 C dX7_waits_110 (cn_7 (by decide)) ?_
      refine gf_7_188 C dX7_waits_113 (cn_5 (by decide)) ?_
      refine r_iload_n C dX7_waits_116 rfl 1 rfl ?_
      obtain ⟨h0, h⟩ := h
      refine r_iaload C dX7_waits_117 ak_44 (cn_44 (by decide)) al_44 h0 ?_
      refine r_callVi [] C dX7_waits_118 w_7_100 (ok_X7_answer l g _ _ _ h) (Nat.le_of_ble_eq_true rfl) rfl rfl ak_7 (cn_7 (by decide)) rfl rfl (Nat.le_of_ble_eq_true rfl) (fun r13 σ12 h => ?_)
      exact r_ireturn C dX7_waits_121 ⟨_, rfl, h⟩
    have h := h q0 q1 q2 q3 q4
    refine r_tableOut (tgt := 122) C dX7_waits_18 (sw_out4 q0 q1 q2 q3 q4) rfl ?_
    refine r_aload_n C dX7_waits_122 rfl 0 rfl ?_
    refine r_iconst C dX7_waits_123 ic_1 ?_
    refine r_callVi [] C dX7_waits_124 w_7_64 (ok_X7_refuse l g _ _ _ h) (Nat.le_of_ble_eq_true rfl) rfl rfl ak_7 (cn_7 (by decide)) rfl rfl (Nat.le_of_ble_eq_true rfl) (fun r15 σ14 h => ?_)
    exact r_ireturn C dX7_waits_127 ⟨_, rfl, h⟩
  · have h := h.2 q
    refine r_aload_n C dX7_waits_11 rfl 0 rfl ?_
    refine r_iconst C dX7_waits_12 ic_1 ?_
    refine r_callVi [] C dX7_waits_13 w_7_64 (ok_X7_refuse l g _ _ _ h) (Nat.le_of_ble_eq_true rfl) rfl rfl ak_7 (cn_7 (by decide)) rfl rfl (Nat.le_of_ble_eq_true rfl) (fun r17 σ16 h => ?_)
    exact r_ireturn C dX7_waits_16 ⟨_, rfl, h⟩
def S_X7_hasNet (x0 : Int32) (σ : Hp) (Q : Int32 → Hp → Prop) : Prop :=
  ((x0 < 0 → Q 0 σ) ∧ (¬ x0 < 0 → (((2 : Int32) ≤ x0 → Q 0 σ) ∧ (¬ (2 : Int32) ≤ x0 → Q 1 σ))))
set_option maxHeartbeats 2000000 in
set_option maxRecDepth 20000 in
theorem ok_X7_hasNet (l : Launch) (g : Gm) (x0 : Int32) (σ : Hp) (Q : Int32 → Hp → Prop) (h : S_X7_hasNet x0 σ Q) : Ct l g yX7_hasNet cX7_hasNet 1 (some .boolean) 0 [.int x0] σ (QI Q) := by
  refine Ct.of (by decide +kernel) (Nat.le_of_ble_eq_true rfl) ?_
  intro p e R s m args below meth c C
  have C : Cx g p R s m args meth c cX7_hasNet 1 RX7 (some .boolean) 0 := C
  unfold S_X7_hasNet at h
  show G g p l e R s m args below meth c (QI Q) 1 0 [(0, .int x0)] [] σ
  refine r_iload_n C dX7_hasNet_0 rfl 0 rfl ?_
  refine r_if_lt (tgt := 13) C dX7_hasNet_1 rfl (fun q => ?_) (fun q => ?_)
  · have h := h.1 q
    refine r_iconst C dX7_hasNet_13 ic_0 ?_
    exact r_zreturn C dX7_hasNet_14 zb0.1 ⟨_, rfl, h⟩
  · have h := h.2 q
    refine r_iload_n C dX7_hasNet_4 rfl 0 rfl ?_
    refine r_iconst C dX7_hasNet_5 ic_2 ?_
    refine r_icmp_ge (tgt := 13) C dX7_hasNet_6 rfl (fun q => ?_) (fun q => ?_)
    · have h := h.1 q
      refine r_iconst C dX7_hasNet_13 ic_0 ?_
      exact r_zreturn C dX7_hasNet_14 zb0.1 ⟨_, rfl, h⟩
    · have h := h.2 q
      refine r_iconst C dX7_hasNet_9 ic_1 ?_
      refine r_goto (tgt := 14) C dX7_hasNet_10 rfl ?_
      exact r_zreturn C dX7_hasNet_14 zb1.1 ⟨_, rfl, h⟩
def J_X7_credit_18 (Q : Int32 → Hp → Prop) (σ : Hp) : Prop :=
  S_X7_refuse 1 σ (fun r4 σ3 => Q r4 σ3)
def S_X7_credit (x1 : Int32) (x2 : Int32) (σ : Hp) (Q : Int32 → Hp → Prop) : Prop :=
  S_X7_hasNet x1 σ (fun r2 σ1 => ((r2 = 0 → J_X7_credit_18 Q σ1) ∧ (¬ r2 = 0 → gR σ1 0 < 2 ∧ S_X2_hasLink (gR σ1 0) x2 σ1 (fun r7 σ6 => ((¬ r7 = 0 → vp_in ((x1 * 8) + x2) 16 ∧ S_X7_answer (gI σ6 45 0 (ix ((x1 * 8) + x2))) σ6 (fun r9 σ8 => Q r9 σ8)) ∧ (r7 = 0 → J_X7_credit_18 Q σ6))))))
set_option maxHeartbeats 2000000 in
set_option maxRecDepth 20000 in
theorem ok_X7_credit (l : Launch) (g : Gm) (x1 : Int32) (x2 : Int32) (σ : Hp) (Q : Int32 → Hp → Prop) (h : S_X7_credit x1 x2 σ Q) : Ct l g yX7_credit cX7_credit 3 (some .int) 1 [.ref (gad g 7 0), .int x1, .int x2] σ (QI Q) := by
  refine Ct.of (by decide +kernel) (Nat.le_of_ble_eq_true rfl) ?_
  intro p e R s m args below meth c C
  have C : Cx g p R s m args meth c cX7_credit 3 RX7 (some .int) 1 := C
  have j18 : ∀ (σ : Hp), J_X7_credit_18 Q σ → G g p l e R s m args below meth c (QI Q) 3 18 [(0, .ref (gad g 7 0))] [] σ := by
    intro σ h
    unfold J_X7_credit_18 at h
    refine r_aload_n C dX7_credit_18 rfl 0 rfl ?_
    refine r_iconst C dX7_credit_19 ic_1 ?_
    refine r_callVi [] C dX7_credit_20 w_7_64 (ok_X7_refuse l g _ _ _ h) (Nat.le_of_ble_eq_true rfl) rfl rfl ak_7 (cn_7 (by decide)) rfl rfl (Nat.le_of_ble_eq_true rfl) (fun r4 σ3 h => ?_)
    exact r_ireturn C dX7_credit_23 ⟨_, rfl, h⟩
  unfold S_X7_credit at h
  show G g p l e R s m args below meth c (QI Q) 3 0 [(0, .ref (gad g 7 0)), (1, .int x1), (2, .int x2)] [] σ
  refine r_iload_n C dX7_credit_0 rfl 1 rfl ?_
  refine r_callSi [] C dX7_credit_1 w_7_191 (ok_X7_hasNet l g _ _ _ h) (Nat.le_of_ble_eq_true rfl) rfl rfl (Nat.le_of_ble_eq_true rfl) (fun r2 σ1 h => ?_)
  refine r_if_eq (tgt := 18) C dX7_credit_4 rfl (fun q => ?_) (fun q => ?_)
  · have h := h.1 q
    refine r_sub [0] rfl ?_
    exact j18 _ h
  · have h := h.2 q
    refine r_aload_n C dX7_credit_7 rfl 0 rfl ?_
    refine gf_7_19 C dX7_credit_8 (cn_7 (by decide)) ?_
    obtain ⟨hr5, h⟩ := h
    refine r_iload_n C dX7_credit_11 rfl 2 rfl ?_
    refine r_callVi [] C dX7_credit_12 w_7_136 (ok_X2_hasLink l g _ hr5 _ _ _ h) (Nat.le_of_ble_eq_true rfl) rfl rfl ak_2 (cn_2 hr5) rfl rfl (Nat.le_of_ble_eq_true rfl) (fun r7 σ6 h => ?_)
    refine r_if_ne (tgt := 24) C dX7_credit_15 rfl (fun q => ?_) (fun q => ?_)
    · have h := h.1 q
      refine r_aload_n C dX7_credit_24 rfl 0 rfl ?_
      refine r_aload_n C dX7_credit_25 rfl 0 rfl ?_
      refine gf_7_33 C dX7_credit_26 (cn_7 (by decide)) ?_
      refine gf_7_194 C dX7_credit_29 (cn_5 (by decide)) ?_
      refine r_iload_n C dX7_credit_32 rfl 1 rfl ?_
      refine r_bipush C dX7_credit_33 bi_8 ?_
      refine r_imul C dX7_credit_35 ?_
      refine r_iload_n C dX7_credit_36 rfl 2 rfl ?_
      refine r_iadd C dX7_credit_37 ?_
      obtain ⟨h0, h⟩ := h
      refine r_iaload C dX7_credit_38 ak_45 (cn_45 (by decide)) al_45 h0 ?_
      refine r_callVi [] C dX7_credit_39 w_7_100 (ok_X7_answer l g _ _ _ h) (Nat.le_of_ble_eq_true rfl) rfl rfl ak_7 (cn_7 (by decide)) rfl rfl (Nat.le_of_ble_eq_true rfl) (fun r9 σ8 h => ?_)
      exact r_ireturn C dX7_credit_42 ⟨_, rfl, h⟩
    · have h := h.2 q
      refine r_sub [0] rfl ?_
      exact j18 _ h
def J_X7_port_18 (Q : Int32 → Hp → Prop) (σ : Hp) : Prop :=
  S_X7_refuse 1 σ (fun r4 σ3 => Q r4 σ3)
def S_X7_port (x1 : Int32) (x2 : Int32) (x3 : Int32) (σ : Hp) (Q : Int32 → Hp → Prop) : Prop :=
  S_X7_hasNet x1 σ (fun r2 σ1 => ((r2 = 0 → J_X7_port_18 Q σ1) ∧ (¬ r2 = 0 → gR σ1 0 < 2 ∧ S_X2_hasPort (gR σ1 0) x2 σ1 (fun r7 σ6 => ((¬ r7 = 0 → ((x3 = 0 → vp_in ((x1 * 16) + x2) 32 ∧ S_X7_answer (gI σ6 30 0 (ix ((x1 * 16) + x2))) σ6 (fun r9 σ8 => Q r9 σ8)) ∧ (x3 = 1 → S_X3_linkBeingSent 0 ((x1 * 16) + x2) σ6 (fun r11 σ10 => S_X7_answer r11 σ10 (fun r13 σ12 => Q r13 σ12))) ∧ (x3 = 2 → vp_in ((x1 * 16) + x2) 32 ∧ S_X7_answer (gI σ6 32 0 (ix ((x1 * 16) + x2))) σ6 (fun r15 σ14 => Q r15 σ14)) ∧ (x3 = 3 → vp_in ((x1 * 16) + x2) 32 ∧ S_X7_answer (gI σ6 33 0 (ix ((x1 * 16) + x2))) σ6 (fun r17 σ16 => Q r17 σ16)) ∧ (¬ x3 = 0 → ¬ x3 = 1 → ¬ x3 = 2 → ¬ x3 = 3 → S_X7_refuse 1 σ6 (fun r19 σ18 => Q r19 σ18)))) ∧ (r7 = 0 → J_X7_port_18 Q σ6))))))
set_option maxHeartbeats 2000000 in
set_option maxRecDepth 20000 in
theorem ok_X7_port (l : Launch) (g : Gm) (x1 : Int32) (x2 : Int32) (x3 : Int32) (σ : Hp) (Q : Int32 → Hp → Prop) (h : S_X7_port x1 x2 x3 σ Q) : Ct l g yX7_port cX7_port 5 (some .int) 2 [.ref (gad g 7 0), .int x1, .int x2, .int x3] σ (QI Q) := by
  refine Ct.of (by decide +kernel) (Nat.le_of_ble_eq_true rfl) ?_
  intro p e R s m args below meth c C
  have C : Cx g p R s m args meth c cX7_port 5 RX7 (some .int) 2 := C
  have j18 : ∀ (σ : Hp), J_X7_port_18 Q σ → G g p l e R s m args below meth c (QI Q) 5 18 [(0, .ref (gad g 7 0))] [] σ := by
    intro σ h
    unfold J_X7_port_18 at h
    refine r_aload_n C dX7_port_18 rfl 0 rfl ?_
    refine r_iconst C dX7_port_19 ic_1 ?_
    refine r_callVi [] C dX7_port_20 w_7_64 (ok_X7_refuse l g _ _ _ h) (Nat.le_of_ble_eq_true rfl) rfl rfl ak_7 (cn_7 (by decide)) rfl rfl (Nat.le_of_ble_eq_true rfl) (fun r4 σ3 h => ?_)
    exact r_ireturn C dX7_port_23 ⟨_, rfl, h⟩
  unfold S_X7_port at h
  show G g p l e R s m args below meth c (QI Q) 5 0 [(0, .ref (gad g 7 0)), (1, .int x1), (2, .int x2), (3, .int x3)] [] σ
  refine r_iload_n C dX7_port_0 rfl 1 rfl ?_
  refine r_callSi [] C dX7_port_1 w_7_191 (ok_X7_hasNet l g _ _ _ h) (Nat.le_of_ble_eq_true rfl) rfl rfl (Nat.le_of_ble_eq_true rfl) (fun r2 σ1 h => ?_)
  refine r_if_eq (tgt := 18) C dX7_port_4 rfl (fun q => ?_) (fun q => ?_)
  · have h := h.1 q
    refine r_sub [0] rfl ?_
    exact j18 _ h
  · have h := h.2 q
    refine r_aload_n C dX7_port_7 rfl 0 rfl ?_
    refine gf_7_19 C dX7_port_8 (cn_7 (by decide)) ?_
    obtain ⟨hr5, h⟩ := h
    refine r_iload_n C dX7_port_11 rfl 2 rfl ?_
    refine r_callVi [] C dX7_port_12 w_7_197 (ok_X2_hasPort l g _ hr5 _ _ _ h) (Nat.le_of_ble_eq_true rfl) rfl rfl ak_2 (cn_2 hr5) rfl rfl (Nat.le_of_ble_eq_true rfl) (fun r7 σ6 h => ?_)
    refine r_if_ne (tgt := 24) C dX7_port_15 rfl (fun q => ?_) (fun q => ?_)
    · have h := h.1 q
      refine r_iload_n C dX7_port_24 rfl 1 rfl ?_
      refine r_bipush C dX7_port_25 bi_16 ?_
      refine r_imul C dX7_port_27 ?_
      refine r_iload_n C dX7_port_28 rfl 2 rfl ?_
      refine r_iadd C dX7_port_29 ?_
      refine r_istore C dX7_port_30 (Nat.le_of_ble_eq_true rfl) rfl ?_
      refine r_iload_n C dX7_port_32 rfl 4 rfl ?_
      obtain ⟨h0, h1, h2, h3, h⟩ := h
      by_cases q0 : x3 = 0
      · have h := h0 q0
        refine r_tableIn (off := 31) (tgt := 64) C dX7_port_33 (by rw [q0]; decide) (by rw [q0]; decide) (by rw [q0]; rfl) rfl ?_
        refine r_aload_n C dX7_port_64 rfl 1 rfl ?_
        refine r_aload_n C dX7_port_65 rfl 1 rfl ?_
        refine gf_7_33 C dX7_port_66 (cn_7 (by decide)) ?_
        refine gf_7_200 C dX7_port_69 (cn_5 (by decide)) ?_
        refine gf_7_204 C dX7_port_72 (cn_3 (by decide)) ?_
        refine r_iload C dX7_port_75 0 rfl ?_
        obtain ⟨h0, h⟩ := h
        refine r_iaload C dX7_port_77 ak_30 (cn_30 (by decide)) al_30 h0 ?_
        refine r_callVi [] C dX7_port_78 w_7_100 (ok_X7_answer l g _ _ _ h) (Nat.le_of_ble_eq_true rfl) rfl rfl ak_7 (cn_7 (by decide)) rfl rfl (Nat.le_of_ble_eq_true rfl) (fun r9 σ8 h => ?_)
        exact r_ireturn C dX7_port_81 ⟨_, rfl, h⟩
      by_cases q1 : x3 = 1
      · have h := h1 q1
        refine r_tableIn (off := 49) (tgt := 82) C dX7_port_33 (by rw [q1]; decide) (by rw [q1]; decide) (by rw [q1]; rfl) rfl ?_
        refine r_aload_n C dX7_port_82 rfl 1 rfl ?_
        refine r_aload_n C dX7_port_83 rfl 1 rfl ?_
        refine gf_7_33 C dX7_port_84 (cn_7 (by decide)) ?_
        refine gf_7_200 C dX7_port_87 (cn_5 (by decide)) ?_
        refine r_iload C dX7_port_90 0 rfl ?_
        refine r_callVi [.ref (gad g 7 0)] C dX7_port_92 w_7_209 (ok_X3_linkBeingSent l g 0 (by decide) _ _ _ h) (Nat.le_of_ble_eq_true rfl) rfl rfl ak_3 (cn_3 (by decide)) rfl rfl (Nat.le_of_ble_eq_true rfl) (fun r11 σ10 h => ?_)
        refine r_callVi [] C dX7_port_95 w_7_100 (ok_X7_answer l g _ _ _ h) (Nat.le_of_ble_eq_true rfl) rfl rfl ak_7 (cn_7 (by decide)) rfl rfl (Nat.le_of_ble_eq_true rfl) (fun r13 σ12 h => ?_)
        exact r_ireturn C dX7_port_98 ⟨_, rfl, h⟩
      by_cases q2 : x3 = 2
      · have h := h2 q2
        refine r_tableIn (off := 66) (tgt := 99) C dX7_port_33 (by rw [q2]; decide) (by rw [q2]; decide) (by rw [q2]; rfl) rfl ?_
        refine r_aload_n C dX7_port_99 rfl 1 rfl ?_
        refine r_aload_n C dX7_port_100 rfl 1 rfl ?_
        refine gf_7_33 C dX7_port_101 (cn_7 (by decide)) ?_
        refine gf_7_200 C dX7_port_104 (cn_5 (by decide)) ?_
        refine gf_7_212 C dX7_port_107 (cn_3 (by decide)) ?_
        refine r_iload C dX7_port_110 0 rfl ?_
        obtain ⟨h0, h⟩ := h
        refine r_iaload C dX7_port_112 ak_32 (cn_32 (by decide)) al_32 h0 ?_
        refine r_callVi [] C dX7_port_113 w_7_100 (ok_X7_answer l g _ _ _ h) (Nat.le_of_ble_eq_true rfl) rfl rfl ak_7 (cn_7 (by decide)) rfl rfl (Nat.le_of_ble_eq_true rfl) (fun r15 σ14 h => ?_)
        exact r_ireturn C dX7_port_116 ⟨_, rfl, h⟩
      by_cases q3 : x3 = 3
      · have h := h3 q3
        refine r_tableIn (off := 84) (tgt := 117) C dX7_port_33 (by rw [q3]; decide) (by rw [q3]; decide) (by rw [q3]; rfl) rfl ?_
        refine r_aload_n C dX7_port_117 rfl 1 rfl ?_
        refine r_aload_n C dX7_port_118 rfl 1 rfl ?_
        refine gf_7_33 C dX7_port_119 (cn_7 (by decide)) ?_
        refine gf_7_200 C dX7_port_122 (cn_5 (by decide)) ?_
        refine gf_7_215 C dX7_port_125 (cn_3 (by decide)) ?_
        refine r_iload C dX7_port_128 0 rfl ?_
        obtain ⟨h0, h⟩ := h
        refine r_iaload C dX7_port_130 ak_33 (cn_33 (by decide)) al_33 h0 ?_
        refine r_callVi [] C dX7_port_131 w_7_100 (ok_X7_answer l g _ _ _ h) (Nat.le_of_ble_eq_true rfl) rfl rfl ak_7 (cn_7 (by decide)) rfl rfl (Nat.le_of_ble_eq_true rfl) (fun r17 σ16 h => ?_)
        exact r_ireturn C dX7_port_134 ⟨_, rfl, h⟩
      have h := h q0 q1 q2 q3
      refine r_tableOut (tgt := 135) C dX7_port_33 (sw_out3 q0 q1 q2 q3) rfl ?_
      refine r_aload_n C dX7_port_135 rfl 1 rfl ?_
      refine r_iconst C dX7_port_136 ic_1 ?_
      refine r_callVi [] C dX7_port_137 w_7_64 (ok_X7_refuse l g _ _ _ h) (Nat.le_of_ble_eq_true rfl) rfl rfl ak_7 (cn_7 (by decide)) rfl rfl (Nat.le_of_ble_eq_true rfl) (fun r19 σ18 h => ?_)
      exact r_ireturn C dX7_port_140 ⟨_, rfl, h⟩
    · have h := h.2 q
      refine r_sub [0] rfl ?_
      exact j18 _ h
def J_X7_frame_18 (Q : Int32 → Hp → Prop) (σ : Hp) : Prop :=
  S_X7_refuse 1 σ (fun r4 σ3 => Q r4 σ3)
def J_X7_frame_53 (Q : Int32 → Hp → Prop) (σ : Hp) : Prop :=
  S_X7_refuse 1 σ (fun r9 σ8 => Q r9 σ8)
def S_X7_frame (x1 : Int32) (x2 : Int32) (x3 : Int32) (x4 : Int32) (σ : Hp) (Q : Int32 → Hp → Prop) : Prop :=
  S_X7_hasNet x1 σ (fun r2 σ1 => ((r2 = 0 → J_X7_frame_18 Q σ1) ∧ (¬ r2 = 0 → gR σ1 0 < 2 ∧ S_X2_hasPort (gR σ1 0) x2 σ1 (fun r7 σ6 => ((¬ r7 = 0 → ((x3 < 0 → J_X7_frame_53 Q σ6) ∧ (¬ x3 < 0 → vp_in ((x1 * 16) + x2) 32 ∧ ((x3 < (gI σ6 30 0 (ix ((x1 * 16) + x2))) → S_X3_slot 0 ((x1 * 16) + x2) x3 σ6 (fun r11 σ10 => ((x4 = 0 → vp_in r11 384 ∧ S_X7_answer (gI σ10 34 0 (ix r11)) σ10 (fun r13 σ12 => Q r13 σ12)) ∧ (x4 = 1 → vp_in r11 384 ∧ S_X7_answer (gI σ10 35 0 (ix r11)) σ10 (fun r15 σ14 => Q r15 σ14)) ∧ (x4 = 2 → vp_in r11 384 ∧ S_X7_answer (gI σ10 36 0 (ix r11)) σ10 (fun r17 σ16 => Q r17 σ16)) ∧ (¬ x4 = 0 → ¬ x4 = 1 → ¬ x4 = 2 → S_X7_refuse 1 σ10 (fun r19 σ18 => Q r19 σ18))))) ∧ (¬ x3 < (gI σ6 30 0 (ix ((x1 * 16) + x2))) → J_X7_frame_53 Q σ6))))) ∧ (r7 = 0 → J_X7_frame_18 Q σ6))))))
set_option maxHeartbeats 2000000 in
set_option maxRecDepth 20000 in
theorem ok_X7_frame (l : Launch) (g : Gm) (x1 : Int32) (x2 : Int32) (x3 : Int32) (x4 : Int32) (σ : Hp) (Q : Int32 → Hp → Prop) (h : S_X7_frame x1 x2 x3 x4 σ Q) : Ct l g yX7_frame cX7_frame 7 (some .int) 2 [.ref (gad g 7 0), .int x1, .int x2, .int x3, .int x4] σ (QI Q) := by
  refine Ct.of (by decide +kernel) (Nat.le_of_ble_eq_true rfl) ?_
  intro p e R s m args below meth c C
  have C : Cx g p R s m args meth c cX7_frame 7 RX7 (some .int) 2 := C
  have j18 : ∀ (σ : Hp), J_X7_frame_18 Q σ → G g p l e R s m args below meth c (QI Q) 7 18 [(0, .ref (gad g 7 0))] [] σ := by
    intro σ h
    unfold J_X7_frame_18 at h
    refine r_aload_n C dX7_frame_18 rfl 0 rfl ?_
    refine r_iconst C dX7_frame_19 ic_1 ?_
    refine r_callVi [] C dX7_frame_20 w_7_64 (ok_X7_refuse l g _ _ _ h) (Nat.le_of_ble_eq_true rfl) rfl rfl ak_7 (cn_7 (by decide)) rfl rfl (Nat.le_of_ble_eq_true rfl) (fun r4 σ3 h => ?_)
    exact r_ireturn C dX7_frame_23 ⟨_, rfl, h⟩
  have j53 : ∀ (σ : Hp), J_X7_frame_53 Q σ → G g p l e R s m args below meth c (QI Q) 7 53 [(0, .ref (gad g 7 0))] [] σ := by
    intro σ h
    unfold J_X7_frame_53 at h
    refine r_aload_n C dX7_frame_53 rfl 0 rfl ?_
    refine r_iconst C dX7_frame_54 ic_1 ?_
    refine r_callVi [] C dX7_frame_55 w_7_64 (ok_X7_refuse l g _ _ _ h) (Nat.le_of_ble_eq_true rfl) rfl rfl ak_7 (cn_7 (by decide)) rfl rfl (Nat.le_of_ble_eq_true rfl) (fun r9 σ8 h => ?_)
    exact r_ireturn C dX7_frame_58 ⟨_, rfl, h⟩
  unfold S_X7_frame at h
  show G g p l e R s m args below meth c (QI Q) 7 0 [(0, .ref (gad g 7 0)), (1, .int x1), (2, .int x2), (3, .int x3), (4, .int x4)] [] σ
  refine r_iload_n C dX7_frame_0 rfl 1 rfl ?_
  refine r_callSi [] C dX7_frame_1 w_7_191 (ok_X7_hasNet l g _ _ _ h) (Nat.le_of_ble_eq_true rfl) rfl rfl (Nat.le_of_ble_eq_true rfl) (fun r2 σ1 h => ?_)
  refine r_if_eq (tgt := 18) C dX7_frame_4 rfl (fun q => ?_) (fun q => ?_)
  · have h := h.1 q
    refine r_sub [0] rfl ?_
    exact j18 _ h
  · have h := h.2 q
    refine r_aload_n C dX7_frame_7 rfl 0 rfl ?_
    refine gf_7_19 C dX7_frame_8 (cn_7 (by decide)) ?_
    obtain ⟨hr5, h⟩ := h
    refine r_iload_n C dX7_frame_11 rfl 2 rfl ?_
    refine r_callVi [] C dX7_frame_12 w_7_197 (ok_X2_hasPort l g _ hr5 _ _ _ h) (Nat.le_of_ble_eq_true rfl) rfl rfl ak_2 (cn_2 hr5) rfl rfl (Nat.le_of_ble_eq_true rfl) (fun r7 σ6 h => ?_)
    refine r_if_ne (tgt := 24) C dX7_frame_15 rfl (fun q => ?_) (fun q => ?_)
    · have h := h.1 q
      refine r_iload_n C dX7_frame_24 rfl 1 rfl ?_
      refine r_bipush C dX7_frame_25 bi_16 ?_
      refine r_imul C dX7_frame_27 ?_
      refine r_iload_n C dX7_frame_28 rfl 2 rfl ?_
      refine r_iadd C dX7_frame_29 ?_
      refine r_istore C dX7_frame_30 (Nat.le_of_ble_eq_true rfl) rfl ?_
      refine r_iload_n C dX7_frame_32 rfl 4 rfl ?_
      refine r_if_lt (tgt := 53) C dX7_frame_33 rfl (fun q => ?_) (fun q => ?_)
      · have h := h.1 q
        refine r_sub [1] rfl ?_
        exact j53 _ h
      · have h := h.2 q
        refine r_iload_n C dX7_frame_36 rfl 4 rfl ?_
        refine r_aload_n C dX7_frame_37 rfl 1 rfl ?_
        refine gf_7_33 C dX7_frame_38 (cn_7 (by decide)) ?_
        refine gf_7_200 C dX7_frame_41 (cn_5 (by decide)) ?_
        refine gf_7_204 C dX7_frame_44 (cn_3 (by decide)) ?_
        refine r_iload C dX7_frame_47 0 rfl ?_
        obtain ⟨h0, h⟩ := h
        refine r_iaload C dX7_frame_49 ak_30 (cn_30 (by decide)) al_30 h0 ?_
        refine r_icmp_lt (tgt := 59) C dX7_frame_50 rfl (fun q => ?_) (fun q => ?_)
        · have h := h.1 q
          refine r_aload_n C dX7_frame_59 rfl 1 rfl ?_
          refine gf_7_33 C dX7_frame_60 (cn_7 (by decide)) ?_
          refine gf_7_200 C dX7_frame_63 (cn_5 (by decide)) ?_
          refine r_iload C dX7_frame_66 0 rfl ?_
          refine r_iload_n C dX7_frame_68 rfl 4 rfl ?_
          refine r_callVi [] C dX7_frame_69 w_7_218 (ok_X3_slot l g 0 (by decide) _ _ _ _ h) (Nat.le_of_ble_eq_true rfl) rfl rfl ak_3 (cn_3 (by decide)) rfl rfl (Nat.le_of_ble_eq_true rfl) (fun r11 σ10 h => ?_)
          refine r_istore C dX7_frame_72 (Nat.le_of_ble_eq_true rfl) rfl ?_
          refine r_iload C dX7_frame_74 6 rfl ?_
          obtain ⟨h0, h1, h2, h⟩ := h
          by_cases q0 : x4 = 0
          · have h := h0 q0
            refine r_tableIn (off := 28) (tgt := 104) C dX7_frame_76 (by rw [q0]; decide) (by rw [q0]; decide) (by rw [q0]; rfl) rfl ?_
            refine r_aload_n C dX7_frame_104 rfl 2 rfl ?_
            refine r_aload_n C dX7_frame_105 rfl 2 rfl ?_
            refine gf_7_33 C dX7_frame_106 (cn_7 (by decide)) ?_
            refine gf_7_200 C dX7_frame_109 (cn_5 (by decide)) ?_
            refine gf_7_221 C dX7_frame_112 (cn_3 (by decide)) ?_
            refine r_iload C dX7_frame_115 0 rfl ?_
            obtain ⟨h0, h⟩ := h
            refine r_iaload C dX7_frame_117 ak_34 (cn_34 (by decide)) al_34 h0 ?_
            refine r_callVi [] C dX7_frame_118 w_7_100 (ok_X7_answer l g _ _ _ h) (Nat.le_of_ble_eq_true rfl) rfl rfl ak_7 (cn_7 (by decide)) rfl rfl (Nat.le_of_ble_eq_true rfl) (fun r13 σ12 h => ?_)
            exact r_ireturn C dX7_frame_121 ⟨_, rfl, h⟩
          by_cases q1 : x4 = 1
          · have h := h1 q1
            refine r_tableIn (off := 46) (tgt := 122) C dX7_frame_76 (by rw [q1]; decide) (by rw [q1]; decide) (by rw [q1]; rfl) rfl ?_
            refine r_aload_n C dX7_frame_122 rfl 2 rfl ?_
            refine r_aload_n C dX7_frame_123 rfl 2 rfl ?_
            refine gf_7_33 C dX7_frame_124 (cn_7 (by decide)) ?_
            refine gf_7_200 C dX7_frame_127 (cn_5 (by decide)) ?_
            refine gf_7_224 C dX7_frame_130 (cn_3 (by decide)) ?_
            refine r_iload C dX7_frame_133 0 rfl ?_
            obtain ⟨h0, h⟩ := h
            refine r_iaload C dX7_frame_135 ak_35 (cn_35 (by decide)) al_35 h0 ?_
            refine r_callVi [] C dX7_frame_136 w_7_100 (ok_X7_answer l g _ _ _ h) (Nat.le_of_ble_eq_true rfl) rfl rfl ak_7 (cn_7 (by decide)) rfl rfl (Nat.le_of_ble_eq_true rfl) (fun r15 σ14 h => ?_)
            exact r_ireturn C dX7_frame_139 ⟨_, rfl, h⟩
          by_cases q2 : x4 = 2
          · have h := h2 q2
            refine r_tableIn (off := 64) (tgt := 140) C dX7_frame_76 (by rw [q2]; decide) (by rw [q2]; decide) (by rw [q2]; rfl) rfl ?_
            refine r_aload_n C dX7_frame_140 rfl 2 rfl ?_
            refine r_aload_n C dX7_frame_141 rfl 2 rfl ?_
            refine gf_7_33 C dX7_frame_142 (cn_7 (by decide)) ?_
            refine gf_7_200 C dX7_frame_145 (cn_5 (by decide)) ?_
            refine gf_7_225 C dX7_frame_148 (cn_3 (by decide)) ?_
            refine r_iload C dX7_frame_151 0 rfl ?_
            obtain ⟨h0, h⟩ := h
            refine r_iaload C dX7_frame_153 ak_36 (cn_36 (by decide)) al_36 h0 ?_
            refine r_callVi [] C dX7_frame_154 w_7_100 (ok_X7_answer l g _ _ _ h) (Nat.le_of_ble_eq_true rfl) rfl rfl ak_7 (cn_7 (by decide)) rfl rfl (Nat.le_of_ble_eq_true rfl) (fun r17 σ16 h => ?_)
            exact r_ireturn C dX7_frame_157 ⟨_, rfl, h⟩
          have h := h q0 q1 q2
          refine r_tableOut (tgt := 158) C dX7_frame_76 (sw_out2 q0 q1 q2) rfl ?_
          refine r_aload_n C dX7_frame_158 rfl 2 rfl ?_
          refine r_iconst C dX7_frame_159 ic_1 ?_
          refine r_callVi [] C dX7_frame_160 w_7_64 (ok_X7_refuse l g _ _ _ h) (Nat.le_of_ble_eq_true rfl) rfl rfl ak_7 (cn_7 (by decide)) rfl rfl (Nat.le_of_ble_eq_true rfl) (fun r19 σ18 h => ?_)
          exact r_ireturn C dX7_frame_163 ⟨_, rfl, h⟩
        · have h := h.2 q
          refine r_sub [1] rfl ?_
          exact j53 _ h
    · have h := h.2 q
      refine r_sub [0] rfl ?_
      exact j18 _ h
def S_X7_isLostSort (x0 : Int32) (σ : Hp) (Q : Int32 → Hp → Prop) : Prop :=
  ((x0 < 0 → Q 0 σ) ∧ (¬ x0 < 0 → (((3 : Int32) ≤ x0 → Q 0 σ) ∧ (¬ (3 : Int32) ≤ x0 → Q 1 σ))))
set_option maxHeartbeats 2000000 in
set_option maxRecDepth 20000 in
theorem ok_X7_isLostSort (l : Launch) (g : Gm) (x0 : Int32) (σ : Hp) (Q : Int32 → Hp → Prop) (h : S_X7_isLostSort x0 σ Q) : Ct l g yX7_isLostSort cX7_isLostSort 1 (some .boolean) 0 [.int x0] σ (QI Q) := by
  refine Ct.of (by decide +kernel) (Nat.le_of_ble_eq_true rfl) ?_
  intro p e R s m args below meth c C
  have C : Cx g p R s m args meth c cX7_isLostSort 1 RX7 (some .boolean) 0 := C
  unfold S_X7_isLostSort at h
  show G g p l e R s m args below meth c (QI Q) 1 0 [(0, .int x0)] [] σ
  refine r_iload_n C dX7_isLostSort_0 rfl 0 rfl ?_
  refine r_if_lt (tgt := 13) C dX7_isLostSort_1 rfl (fun q => ?_) (fun q => ?_)
  · have h := h.1 q
    refine r_iconst C dX7_isLostSort_13 ic_0 ?_
    exact r_zreturn C dX7_isLostSort_14 zb0.1 ⟨_, rfl, h⟩
  · have h := h.2 q
    refine r_iload_n C dX7_isLostSort_4 rfl 0 rfl ?_
    refine r_iconst C dX7_isLostSort_5 ic_3 ?_
    refine r_icmp_ge (tgt := 13) C dX7_isLostSort_6 rfl (fun q => ?_) (fun q => ?_)
    · have h := h.1 q
      refine r_iconst C dX7_isLostSort_13 ic_0 ?_
      exact r_zreturn C dX7_isLostSort_14 zb0.1 ⟨_, rfl, h⟩
    · have h := h.2 q
      refine r_iconst C dX7_isLostSort_9 ic_1 ?_
      refine r_goto (tgt := 14) C dX7_isLostSort_10 rfl ?_
      exact r_zreturn C dX7_isLostSort_14 zb1.1 ⟨_, rfl, h⟩
def J_X7_lost_21 (Q : Int32 → Hp → Prop) (σ : Hp) : Prop :=
  S_X7_refuse 1 σ (fun r4 σ3 => Q r4 σ3)
def S_X7_lost (x1 : Int32) (x2 : Int32) (σ : Hp) (Q : Int32 → Hp → Prop) : Prop :=
  S_X7_noBus σ (fun r2 σ1 => ((¬ r2 = 0 → J_X7_lost_21 Q σ1) ∧ (r2 = 0 → S_X7_hasNet x1 σ1 (fun r6 σ5 => ((r6 = 0 → J_X7_lost_21 Q σ5) ∧ (¬ r6 = 0 → S_X7_isLostSort x2 σ5 (fun r8 σ7 => ((¬ r8 = 0 → vp_in ((x1 * 3) + x2) 6 ∧ S_X7_answer (gI σ7 39 0 (ix ((x1 * 3) + x2))) σ7 (fun r10 σ9 => Q r10 σ9)) ∧ (r8 = 0 → J_X7_lost_21 Q σ7)))))))))
set_option maxHeartbeats 2000000 in
set_option maxRecDepth 20000 in
theorem ok_X7_lost (l : Launch) (g : Gm) (x1 : Int32) (x2 : Int32) (σ : Hp) (Q : Int32 → Hp → Prop) (h : S_X7_lost x1 x2 σ Q) : Ct l g yX7_lost cX7_lost 3 (some .int) 1 [.ref (gad g 7 0), .int x1, .int x2] σ (QI Q) := by
  refine Ct.of (by decide +kernel) (Nat.le_of_ble_eq_true rfl) ?_
  intro p e R s m args below meth c C
  have C : Cx g p R s m args meth c cX7_lost 3 RX7 (some .int) 1 := C
  have j21 : ∀ (σ : Hp), J_X7_lost_21 Q σ → G g p l e R s m args below meth c (QI Q) 3 21 [(0, .ref (gad g 7 0))] [] σ := by
    intro σ h
    unfold J_X7_lost_21 at h
    refine r_aload_n C dX7_lost_21 rfl 0 rfl ?_
    refine r_iconst C dX7_lost_22 ic_1 ?_
    refine r_callVi [] C dX7_lost_23 w_7_64 (ok_X7_refuse l g _ _ _ h) (Nat.le_of_ble_eq_true rfl) rfl rfl ak_7 (cn_7 (by decide)) rfl rfl (Nat.le_of_ble_eq_true rfl) (fun r4 σ3 h => ?_)
    exact r_ireturn C dX7_lost_26 ⟨_, rfl, h⟩
  unfold S_X7_lost at h
  show G g p l e R s m args below meth c (QI Q) 3 0 [(0, .ref (gad g 7 0)), (1, .int x1), (2, .int x2)] [] σ
  refine r_aload_n C dX7_lost_0 rfl 0 rfl ?_
  refine r_callVi [] C dX7_lost_1 w_7_103 (ok_X7_noBus l g _ _ h) (Nat.le_of_ble_eq_true rfl) rfl rfl ak_7 (cn_7 (by decide)) rfl rfl (Nat.le_of_ble_eq_true rfl) (fun r2 σ1 h => ?_)
  refine r_if_ne (tgt := 21) C dX7_lost_4 rfl (fun q => ?_) (fun q => ?_)
  · have h := h.1 q
    refine r_sub [0] rfl ?_
    exact j21 _ h
  · have h := h.2 q
    refine r_iload_n C dX7_lost_7 rfl 1 rfl ?_
    refine r_callSi [] C dX7_lost_8 w_7_191 (ok_X7_hasNet l g _ _ _ h) (Nat.le_of_ble_eq_true rfl) rfl rfl (Nat.le_of_ble_eq_true rfl) (fun r6 σ5 h => ?_)
    refine r_if_eq (tgt := 21) C dX7_lost_11 rfl (fun q => ?_) (fun q => ?_)
    · have h := h.1 q
      refine r_sub [0] rfl ?_
      exact j21 _ h
    · have h := h.2 q
      refine r_iload_n C dX7_lost_14 rfl 2 rfl ?_
      refine r_callSi [] C dX7_lost_15 w_7_226 (ok_X7_isLostSort l g _ _ _ h) (Nat.le_of_ble_eq_true rfl) rfl rfl (Nat.le_of_ble_eq_true rfl) (fun r8 σ7 h => ?_)
      refine r_if_ne (tgt := 27) C dX7_lost_18 rfl (fun q => ?_) (fun q => ?_)
      · have h := h.1 q
        refine r_aload_n C dX7_lost_27 rfl 0 rfl ?_
        refine r_aload_n C dX7_lost_28 rfl 0 rfl ?_
        refine gf_7_33 C dX7_lost_29 (cn_7 (by decide)) ?_
        refine gf_7_229 C dX7_lost_32 (cn_5 (by decide)) ?_
        refine r_iload_n C dX7_lost_35 rfl 1 rfl ?_
        refine r_iconst C dX7_lost_36 ic_3 ?_
        refine r_imul C dX7_lost_37 ?_
        refine r_iload_n C dX7_lost_38 rfl 2 rfl ?_
        refine r_iadd C dX7_lost_39 ?_
        obtain ⟨h0, h⟩ := h
        refine r_iaload C dX7_lost_40 ak_39 (cn_39 (by decide)) al_39 h0 ?_
        refine r_callVi [] C dX7_lost_41 w_7_100 (ok_X7_answer l g _ _ _ h) (Nat.le_of_ble_eq_true rfl) rfl rfl ak_7 (cn_7 (by decide)) rfl rfl (Nat.le_of_ble_eq_true rfl) (fun r10 σ9 h => ?_)
        exact r_ireturn C dX7_lost_44 ⟨_, rfl, h⟩
      · have h := h.2 q
        refine r_sub [0] rfl ?_
        exact j21 _ h
def J_X7_policed_18 (Q : Int32 → Hp → Prop) (σ : Hp) : Prop :=
  S_X7_refuse 1 σ (fun r4 σ3 => Q r4 σ3)
def S_X7_policed (x1 : Int32) (x2 : Int32) (σ : Hp) (Q : Int32 → Hp → Prop) : Prop :=
  S_X7_hasNet x1 σ (fun r2 σ1 => ((r2 = 0 → J_X7_policed_18 Q σ1) ∧ (¬ r2 = 0 → gR σ1 0 < 2 ∧ S_X2_hasLink (gR σ1 0) x2 σ1 (fun r7 σ6 => ((¬ r7 = 0 → vp_in ((x1 * 8) + x2) 16 ∧ S_X7_answer (gI σ6 46 0 (ix ((x1 * 8) + x2))) σ6 (fun r9 σ8 => Q r9 σ8)) ∧ (r7 = 0 → J_X7_policed_18 Q σ6))))))
set_option maxHeartbeats 2000000 in
set_option maxRecDepth 20000 in
theorem ok_X7_policed (l : Launch) (g : Gm) (x1 : Int32) (x2 : Int32) (σ : Hp) (Q : Int32 → Hp → Prop) (h : S_X7_policed x1 x2 σ Q) : Ct l g yX7_policed cX7_policed 3 (some .int) 1 [.ref (gad g 7 0), .int x1, .int x2] σ (QI Q) := by
  refine Ct.of (by decide +kernel) (Nat.le_of_ble_eq_true rfl) ?_
  intro p e R s m args below meth c C
  have C : Cx g p R s m args meth c cX7_policed 3 RX7 (some .int) 1 := C
  have j18 : ∀ (σ : Hp), J_X7_policed_18 Q σ → G g p l e R s m args below meth c (QI Q) 3 18 [(0, .ref (gad g 7 0))] [] σ := by
    intro σ h
    unfold J_X7_policed_18 at h
    refine r_aload_n C dX7_policed_18 rfl 0 rfl ?_
    refine r_iconst C dX7_policed_19 ic_1 ?_
    refine r_callVi [] C dX7_policed_20 w_7_64 (ok_X7_refuse l g _ _ _ h) (Nat.le_of_ble_eq_true rfl) rfl rfl ak_7 (cn_7 (by decide)) rfl rfl (Nat.le_of_ble_eq_true rfl) (fun r4 σ3 h => ?_)
    exact r_ireturn C dX7_policed_23 ⟨_, rfl, h⟩
  unfold S_X7_policed at h
  show G g p l e R s m args below meth c (QI Q) 3 0 [(0, .ref (gad g 7 0)), (1, .int x1), (2, .int x2)] [] σ
  refine r_iload_n C dX7_policed_0 rfl 1 rfl ?_
  refine r_callSi [] C dX7_policed_1 w_7_191 (ok_X7_hasNet l g _ _ _ h) (Nat.le_of_ble_eq_true rfl) rfl rfl (Nat.le_of_ble_eq_true rfl) (fun r2 σ1 h => ?_)
  refine r_if_eq (tgt := 18) C dX7_policed_4 rfl (fun q => ?_) (fun q => ?_)
  · have h := h.1 q
    refine r_sub [0] rfl ?_
    exact j18 _ h
  · have h := h.2 q
    refine r_aload_n C dX7_policed_7 rfl 0 rfl ?_
    refine gf_7_19 C dX7_policed_8 (cn_7 (by decide)) ?_
    obtain ⟨hr5, h⟩ := h
    refine r_iload_n C dX7_policed_11 rfl 2 rfl ?_
    refine r_callVi [] C dX7_policed_12 w_7_136 (ok_X2_hasLink l g _ hr5 _ _ _ h) (Nat.le_of_ble_eq_true rfl) rfl rfl ak_2 (cn_2 hr5) rfl rfl (Nat.le_of_ble_eq_true rfl) (fun r7 σ6 h => ?_)
    refine r_if_ne (tgt := 24) C dX7_policed_15 rfl (fun q => ?_) (fun q => ?_)
    · have h := h.1 q
      refine r_aload_n C dX7_policed_24 rfl 0 rfl ?_
      refine r_aload_n C dX7_policed_25 rfl 0 rfl ?_
      refine gf_7_33 C dX7_policed_26 (cn_7 (by decide)) ?_
      refine gf_7_232 C dX7_policed_29 (cn_5 (by decide)) ?_
      refine r_iload_n C dX7_policed_32 rfl 1 rfl ?_
      refine r_bipush C dX7_policed_33 bi_8 ?_
      refine r_imul C dX7_policed_35 ?_
      refine r_iload_n C dX7_policed_36 rfl 2 rfl ?_
      refine r_iadd C dX7_policed_37 ?_
      obtain ⟨h0, h⟩ := h
      refine r_iaload C dX7_policed_38 ak_46 (cn_46 (by decide)) al_46 h0 ?_
      refine r_callVi [] C dX7_policed_39 w_7_100 (ok_X7_answer l g _ _ _ h) (Nat.le_of_ble_eq_true rfl) rfl rfl ak_7 (cn_7 (by decide)) rfl rfl (Nat.le_of_ble_eq_true rfl) (fun r9 σ8 h => ?_)
      exact r_ireturn C dX7_policed_42 ⟨_, rfl, h⟩
    · have h := h.2 q
      refine r_sub [0] rfl ?_
      exact j18 _ h
def J_X7_heard_19 (Q : Int32 → Hp → Prop) (σ : Hp) : Prop :=
  S_X7_refuse 1 σ (fun r5 σ4 => Q r5 σ4)
def S_X7_heard (x1 : Int32) (x2 : Int32) (x3 : Int32) (σ : Hp) (Q : Int32 → Hp → Prop) : Prop :=
  gR σ 0 < 2 ∧ S_X2_hasReceiver (gR σ 0) x1 x2 σ (fun r3 σ2 => ((r3 = 0 → J_X7_heard_19 Q σ2) ∧ (¬ r3 = 0 → S_X0_tells x3 σ2 (fun r7 σ6 => ((¬ r7 = 0 → S_X7_earOf x1 x2 σ6 (fun r9 σ8 => S_X0_told 0 r9 x3 σ8 (fun r11 σ10 => S_X7_answer r11 σ10 (fun r13 σ12 => Q r13 σ12)))) ∧ (r7 = 0 → J_X7_heard_19 Q σ6))))))
set_option maxHeartbeats 2000000 in
set_option maxRecDepth 20000 in
theorem ok_X7_heard (l : Launch) (g : Gm) (x1 : Int32) (x2 : Int32) (x3 : Int32) (σ : Hp) (Q : Int32 → Hp → Prop) (h : S_X7_heard x1 x2 x3 σ Q) : Ct l g yX7_heard cX7_heard 4 (some .int) 2 [.ref (gad g 7 0), .int x1, .int x2, .int x3] σ (QI Q) := by
  refine Ct.of (by decide +kernel) (Nat.le_of_ble_eq_true rfl) ?_
  intro p e R s m args below meth c C
  have C : Cx g p R s m args meth c cX7_heard 4 RX7 (some .int) 2 := C
  have j19 : ∀ (σ : Hp), J_X7_heard_19 Q σ → G g p l e R s m args below meth c (QI Q) 4 19 [(0, .ref (gad g 7 0))] [] σ := by
    intro σ h
    unfold J_X7_heard_19 at h
    refine r_aload_n C dX7_heard_19 rfl 0 rfl ?_
    refine r_iconst C dX7_heard_20 ic_1 ?_
    refine r_callVi [] C dX7_heard_21 w_7_64 (ok_X7_refuse l g _ _ _ h) (Nat.le_of_ble_eq_true rfl) rfl rfl ak_7 (cn_7 (by decide)) rfl rfl (Nat.le_of_ble_eq_true rfl) (fun r5 σ4 h => ?_)
    exact r_ireturn C dX7_heard_24 ⟨_, rfl, h⟩
  unfold S_X7_heard at h
  show G g p l e R s m args below meth c (QI Q) 4 0 [(0, .ref (gad g 7 0)), (1, .int x1), (2, .int x2), (3, .int x3)] [] σ
  refine r_aload_n C dX7_heard_0 rfl 0 rfl ?_
  refine gf_7_19 C dX7_heard_1 (cn_7 (by decide)) ?_
  obtain ⟨hr1, h⟩ := h
  refine r_iload_n C dX7_heard_4 rfl 1 rfl ?_
  refine r_iload_n C dX7_heard_5 rfl 2 rfl ?_
  refine r_callVi [] C dX7_heard_6 w_7_151 (ok_X2_hasReceiver l g _ hr1 _ _ _ _ h) (Nat.le_of_ble_eq_true rfl) rfl rfl ak_2 (cn_2 hr1) rfl rfl (Nat.le_of_ble_eq_true rfl) (fun r3 σ2 h => ?_)
  refine r_if_eq (tgt := 19) C dX7_heard_9 rfl (fun q => ?_) (fun q => ?_)
  · have h := h.1 q
    refine r_sub [0] rfl ?_
    exact j19 _ h
  · have h := h.2 q
    refine r_iload_n C dX7_heard_12 rfl 3 rfl ?_
    refine r_callSi [] C dX7_heard_13 w_7_235 (ok_X0_tells l g _ _ _ h) (Nat.le_of_ble_eq_true rfl) rfl rfl (Nat.le_of_ble_eq_true rfl) (fun r7 σ6 h => ?_)
    refine r_if_ne (tgt := 25) C dX7_heard_16 rfl (fun q => ?_) (fun q => ?_)
    · have h := h.1 q
      refine r_aload_n C dX7_heard_25 rfl 0 rfl ?_
      refine r_aload_n C dX7_heard_26 rfl 0 rfl ?_
      refine gf_7_33 C dX7_heard_27 (cn_7 (by decide)) ?_
      refine gf_7_240 C dX7_heard_30 (cn_5 (by decide)) ?_
      refine r_iload_n C dX7_heard_33 rfl 1 rfl ?_
      refine r_iload_n C dX7_heard_34 rfl 2 rfl ?_
      refine r_callSi [.ref (gad g 0 0), .ref (gad g 7 0)] C dX7_heard_35 w_7_158 (ok_X7_earOf l g _ _ _ _ h) (Nat.le_of_ble_eq_true rfl) rfl rfl (Nat.le_of_ble_eq_true rfl) (fun r9 σ8 h => ?_)
      refine r_iload_n C dX7_heard_38 rfl 3 rfl ?_
      refine r_callVi [.ref (gad g 7 0)] C dX7_heard_39 w_7_244 (ok_X0_told l g 0 (by decide) _ _ _ _ h) (Nat.le_of_ble_eq_true rfl) rfl rfl ak_0 (cn_0 (by decide)) rfl rfl (Nat.le_of_ble_eq_true rfl) (fun r11 σ10 h => ?_)
      refine r_callVi [] C dX7_heard_42 w_7_100 (ok_X7_answer l g _ _ _ h) (Nat.le_of_ble_eq_true rfl) rfl rfl ak_7 (cn_7 (by decide)) rfl rfl (Nat.le_of_ble_eq_true rfl) (fun r13 σ12 h => ?_)
      exact r_ireturn C dX7_heard_45 ⟨_, rfl, h⟩
    · have h := h.2 q
      refine r_sub [0] rfl ?_
      exact j19 _ h
def J_X7_seen_19 (Q : Int32 → Hp → Prop) (σ : Hp) : Prop :=
  S_X7_refuse 1 σ (fun r5 σ4 => Q r5 σ4)
def S_X7_seen (x1 : Int32) (x2 : Int32) (x3 : Int32) (σ : Hp) (Q : Int32 → Hp → Prop) : Prop :=
  gR σ 0 < 2 ∧ S_X2_hasReceiver (gR σ 0) x1 x2 σ (fun r3 σ2 => ((r3 = 0 → J_X7_seen_19 Q σ2) ∧ (¬ r3 = 0 → S_X7_hasNet x3 σ2 (fun r7 σ6 => ((¬ r7 = 0 → S_X7_earOf x1 x2 σ6 (fun r9 σ8 => vp_in ((r9 * 2) + x3) 48 ∧ S_X7_answer (gI σ8 17 0 (ix ((r9 * 2) + x3))) σ8 (fun r11 σ10 => Q r11 σ10))) ∧ (r7 = 0 → J_X7_seen_19 Q σ6))))))
set_option maxHeartbeats 2000000 in
set_option maxRecDepth 20000 in
theorem ok_X7_seen (l : Launch) (g : Gm) (x1 : Int32) (x2 : Int32) (x3 : Int32) (σ : Hp) (Q : Int32 → Hp → Prop) (h : S_X7_seen x1 x2 x3 σ Q) : Ct l g yX7_seen cX7_seen 4 (some .int) 2 [.ref (gad g 7 0), .int x1, .int x2, .int x3] σ (QI Q) := by
  refine Ct.of (by decide +kernel) (Nat.le_of_ble_eq_true rfl) ?_
  intro p e R s m args below meth c C
  have C : Cx g p R s m args meth c cX7_seen 4 RX7 (some .int) 2 := C
  have j19 : ∀ (σ : Hp), J_X7_seen_19 Q σ → G g p l e R s m args below meth c (QI Q) 4 19 [(0, .ref (gad g 7 0))] [] σ := by
    intro σ h
    unfold J_X7_seen_19 at h
    refine r_aload_n C dX7_seen_19 rfl 0 rfl ?_
    refine r_iconst C dX7_seen_20 ic_1 ?_
    refine r_callVi [] C dX7_seen_21 w_7_64 (ok_X7_refuse l g _ _ _ h) (Nat.le_of_ble_eq_true rfl) rfl rfl ak_7 (cn_7 (by decide)) rfl rfl (Nat.le_of_ble_eq_true rfl) (fun r5 σ4 h => ?_)
    exact r_ireturn C dX7_seen_24 ⟨_, rfl, h⟩
  unfold S_X7_seen at h
  show G g p l e R s m args below meth c (QI Q) 4 0 [(0, .ref (gad g 7 0)), (1, .int x1), (2, .int x2), (3, .int x3)] [] σ
  refine r_aload_n C dX7_seen_0 rfl 0 rfl ?_
  refine gf_7_19 C dX7_seen_1 (cn_7 (by decide)) ?_
  obtain ⟨hr1, h⟩ := h
  refine r_iload_n C dX7_seen_4 rfl 1 rfl ?_
  refine r_iload_n C dX7_seen_5 rfl 2 rfl ?_
  refine r_callVi [] C dX7_seen_6 w_7_151 (ok_X2_hasReceiver l g _ hr1 _ _ _ _ h) (Nat.le_of_ble_eq_true rfl) rfl rfl ak_2 (cn_2 hr1) rfl rfl (Nat.le_of_ble_eq_true rfl) (fun r3 σ2 h => ?_)
  refine r_if_eq (tgt := 19) C dX7_seen_9 rfl (fun q => ?_) (fun q => ?_)
  · have h := h.1 q
    refine r_sub [0] rfl ?_
    exact j19 _ h
  · have h := h.2 q
    refine r_iload_n C dX7_seen_12 rfl 3 rfl ?_
    refine r_callSi [] C dX7_seen_13 w_7_191 (ok_X7_hasNet l g _ _ _ h) (Nat.le_of_ble_eq_true rfl) rfl rfl (Nat.le_of_ble_eq_true rfl) (fun r7 σ6 h => ?_)
    refine r_if_ne (tgt := 25) C dX7_seen_16 rfl (fun q => ?_) (fun q => ?_)
    · have h := h.1 q
      refine r_aload_n C dX7_seen_25 rfl 0 rfl ?_
      refine r_aload_n C dX7_seen_26 rfl 0 rfl ?_
      refine gf_7_33 C dX7_seen_27 (cn_7 (by decide)) ?_
      refine gf_7_240 C dX7_seen_30 (cn_5 (by decide)) ?_
      refine gf_7_247 C dX7_seen_33 (cn_0 (by decide)) ?_
      refine r_iload_n C dX7_seen_36 rfl 1 rfl ?_
      refine r_iload_n C dX7_seen_37 rfl 2 rfl ?_
      refine r_callSi [.ref (gad g 17 0), .ref (gad g 7 0)] C dX7_seen_38 w_7_158 (ok_X7_earOf l g _ _ _ _ h) (Nat.le_of_ble_eq_true rfl) rfl rfl (Nat.le_of_ble_eq_true rfl) (fun r9 σ8 h => ?_)
      refine r_iconst C dX7_seen_41 ic_2 ?_
      refine r_imul C dX7_seen_42 ?_
      refine r_iload_n C dX7_seen_43 rfl 3 rfl ?_
      refine r_iadd C dX7_seen_44 ?_
      obtain ⟨h0, h⟩ := h
      refine r_iaload C dX7_seen_45 ak_17 (cn_17 (by decide)) al_17 h0 ?_
      refine r_callVi [] C dX7_seen_46 w_7_100 (ok_X7_answer l g _ _ _ h) (Nat.le_of_ble_eq_true rfl) rfl rfl ak_7 (cn_7 (by decide)) rfl rfl (Nat.le_of_ble_eq_true rfl) (fun r11 σ10 h => ?_)
      exact r_ireturn C dX7_seen_49 ⟨_, rfl, h⟩
    · have h := h.2 q
      refine r_sub [0] rfl ?_
      exact j19 _ h
def J_X7_taken_31 (Q : Int32 → Hp → Prop) (σ : Hp) : Prop :=
  S_X7_refuse 1 σ (fun r5 σ4 => Q r5 σ4)
def S_X7_taken (x1 : Int32) (x2 : Int32) (x3 : Int32) (σ : Hp) (Q : Int32 → Hp → Prop) : Prop :=
  gR σ 0 < 2 ∧ S_X2_hasReceiver (gR σ 0) x1 x2 σ (fun r3 σ2 => ((r3 = 0 → J_X7_taken_31 Q σ2) ∧ (¬ r3 = 0 → S_X7_earOf x1 x2 σ2 (fun r7 σ6 => S_X0_remembers 0 r7 x3 σ6 (fun r9 σ8 => ((¬ r9 = 0 → S_X7_earOf x1 x2 σ8 (fun r11 σ10 => S_X0_remembered 0 r11 x3 σ10 (fun r13 σ12 => S_X7_answer r13 σ12 (fun r15 σ14 => Q r15 σ14)))) ∧ (r9 = 0 → J_X7_taken_31 Q σ8)))))))
set_option maxHeartbeats 2000000 in
set_option maxRecDepth 20000 in
theorem ok_X7_taken (l : Launch) (g : Gm) (x1 : Int32) (x2 : Int32) (x3 : Int32) (σ : Hp) (Q : Int32 → Hp → Prop) (h : S_X7_taken x1 x2 x3 σ Q) : Ct l g yX7_taken cX7_taken 4 (some .int) 2 [.ref (gad g 7 0), .int x1, .int x2, .int x3] σ (QI Q) := by
  refine Ct.of (by decide +kernel) (Nat.le_of_ble_eq_true rfl) ?_
  intro p e R s m args below meth c C
  have C : Cx g p R s m args meth c cX7_taken 4 RX7 (some .int) 2 := C
  have j31 : ∀ (σ : Hp), J_X7_taken_31 Q σ → G g p l e R s m args below meth c (QI Q) 4 31 [(0, .ref (gad g 7 0))] [] σ := by
    intro σ h
    unfold J_X7_taken_31 at h
    refine r_aload_n C dX7_taken_31 rfl 0 rfl ?_
    refine r_iconst C dX7_taken_32 ic_1 ?_
    refine r_callVi [] C dX7_taken_33 w_7_64 (ok_X7_refuse l g _ _ _ h) (Nat.le_of_ble_eq_true rfl) rfl rfl ak_7 (cn_7 (by decide)) rfl rfl (Nat.le_of_ble_eq_true rfl) (fun r5 σ4 h => ?_)
    exact r_ireturn C dX7_taken_36 ⟨_, rfl, h⟩
  unfold S_X7_taken at h
  show G g p l e R s m args below meth c (QI Q) 4 0 [(0, .ref (gad g 7 0)), (1, .int x1), (2, .int x2), (3, .int x3)] [] σ
  refine r_aload_n C dX7_taken_0 rfl 0 rfl ?_
  refine gf_7_19 C dX7_taken_1 (cn_7 (by decide)) ?_
  obtain ⟨hr1, h⟩ := h
  refine r_iload_n C dX7_taken_4 rfl 1 rfl ?_
  refine r_iload_n C dX7_taken_5 rfl 2 rfl ?_
  refine r_callVi [] C dX7_taken_6 w_7_151 (ok_X2_hasReceiver l g _ hr1 _ _ _ _ h) (Nat.le_of_ble_eq_true rfl) rfl rfl ak_2 (cn_2 hr1) rfl rfl (Nat.le_of_ble_eq_true rfl) (fun r3 σ2 h => ?_)
  refine r_if_eq (tgt := 31) C dX7_taken_9 rfl (fun q => ?_) (fun q => ?_)
  · have h := h.1 q
    refine r_sub [0] rfl ?_
    exact j31 _ h
  · have h := h.2 q
    refine r_aload_n C dX7_taken_12 rfl 0 rfl ?_
    refine gf_7_33 C dX7_taken_13 (cn_7 (by decide)) ?_
    refine gf_7_240 C dX7_taken_16 (cn_5 (by decide)) ?_
    refine r_iload_n C dX7_taken_19 rfl 1 rfl ?_
    refine r_iload_n C dX7_taken_20 rfl 2 rfl ?_
    refine r_callSi [.ref (gad g 0 0)] C dX7_taken_21 w_7_158 (ok_X7_earOf l g _ _ _ _ h) (Nat.le_of_ble_eq_true rfl) rfl rfl (Nat.le_of_ble_eq_true rfl) (fun r7 σ6 h => ?_)
    refine r_iload_n C dX7_taken_24 rfl 3 rfl ?_
    refine r_callVi [] C dX7_taken_25 w_7_250 (ok_X0_remembers l g 0 (by decide) _ _ _ _ h) (Nat.le_of_ble_eq_true rfl) rfl rfl ak_0 (cn_0 (by decide)) rfl rfl (Nat.le_of_ble_eq_true rfl) (fun r9 σ8 h => ?_)
    refine r_if_ne (tgt := 37) C dX7_taken_28 rfl (fun q => ?_) (fun q => ?_)
    · have h := h.1 q
      refine r_aload_n C dX7_taken_37 rfl 0 rfl ?_
      refine r_aload_n C dX7_taken_38 rfl 0 rfl ?_
      refine gf_7_33 C dX7_taken_39 (cn_7 (by decide)) ?_
      refine gf_7_240 C dX7_taken_42 (cn_5 (by decide)) ?_
      refine r_iload_n C dX7_taken_45 rfl 1 rfl ?_
      refine r_iload_n C dX7_taken_46 rfl 2 rfl ?_
      refine r_callSi [.ref (gad g 0 0), .ref (gad g 7 0)] C dX7_taken_47 w_7_158 (ok_X7_earOf l g _ _ _ _ h) (Nat.le_of_ble_eq_true rfl) rfl rfl (Nat.le_of_ble_eq_true rfl) (fun r11 σ10 h => ?_)
      refine r_iload_n C dX7_taken_50 rfl 3 rfl ?_
      refine r_callVi [.ref (gad g 7 0)] C dX7_taken_51 w_7_253 (ok_X0_remembered l g 0 (by decide) _ _ _ _ h) (Nat.le_of_ble_eq_true rfl) rfl rfl ak_0 (cn_0 (by decide)) rfl rfl (Nat.le_of_ble_eq_true rfl) (fun r13 σ12 h => ?_)
      refine r_callVi [] C dX7_taken_54 w_7_100 (ok_X7_answer l g _ _ _ h) (Nat.le_of_ble_eq_true rfl) rfl rfl ak_7 (cn_7 (by decide)) rfl rfl (Nat.le_of_ble_eq_true rfl) (fun r15 σ14 h => ?_)
      exact r_ireturn C dX7_taken_57 ⟨_, rfl, h⟩
    · have h := h.2 q
      refine r_sub [0] rfl ?_
      exact j31 _ h
def J_J6_numberOfTrailingZeros_0f7a4_62 (Q : Int32 → Hp → Prop) (y0 : Int32) (y1 : Int32) (σ : Hp) : Prop :=
  ((y0 ≤ 4 → Q (y1 + ((y0.toUInt32 >>> ((1 : Int32).toUInt32 &&& Int32.toUInt32 31)).toInt32)) σ) ∧ (¬ y0 ≤ 4 → Q ((y1 + 2) + ((((y0.toUInt32 >>> ((2 : Int32).toUInt32 &&& Int32.toUInt32 31)).toInt32).toUInt32 >>> ((1 : Int32).toUInt32 &&& Int32.toUInt32 31)).toInt32)) σ))
def J_J6_numberOfTrailingZeros_0f7a4_49 (Q : Int32 → Hp → Prop) (y0 : Int32) (y1 : Int32) (σ : Hp) : Prop :=
  ((y0 ≤ 16 → J_J6_numberOfTrailingZeros_0f7a4_62 Q y0 y1 σ) ∧ (¬ y0 ≤ 16 → J_J6_numberOfTrailingZeros_0f7a4_62 Q ((y0.toUInt32 >>> ((4 : Int32).toUInt32 &&& Int32.toUInt32 31)).toInt32) (y1 + 4) σ))
def J_J6_numberOfTrailingZeros_0f7a4_34 (Q : Int32 → Hp → Prop) (y0 : Int32) (y1 : Int32) (σ : Hp) : Prop :=
  ((y0 ≤ 256 → J_J6_numberOfTrailingZeros_0f7a4_49 Q y0 y1 σ) ∧ (¬ y0 ≤ 256 → J_J6_numberOfTrailingZeros_0f7a4_49 Q ((y0.toUInt32 >>> ((8 : Int32).toUInt32 &&& Int32.toUInt32 31)).toInt32) (y1 + 8) σ))
def S_J6_numberOfTrailingZeros_0f7a4 (x0 : Int32) (σ : Hp) (Q : Int32 → Hp → Prop) : Prop :=
  (((0 : Int32) < ((x0 ^^^ (-1)) &&& (x0 - 1)) → ((((x0 ^^^ (-1)) &&& (x0 - 1)) ≤ 65536 → J_J6_numberOfTrailingZeros_0f7a4_34 Q ((x0 ^^^ (-1)) &&& (x0 - 1)) 1 σ) ∧ (¬ ((x0 ^^^ (-1)) &&& (x0 - 1)) ≤ 65536 → J_J6_numberOfTrailingZeros_0f7a4_34 Q ((((x0 ^^^ (-1)) &&& (x0 - 1)).toUInt32 >>> ((16 : Int32).toUInt32 &&& Int32.toUInt32 31)).toInt32) (1 + 16) σ))) ∧ (¬ (0 : Int32) < ((x0 ^^^ (-1)) &&& (x0 - 1)) → Q (((x0 ^^^ (-1)) &&& (x0 - 1)) &&& 32) σ))
set_option maxHeartbeats 2000000 in
set_option maxRecDepth 20000 in
theorem ok_J6_numberOfTrailingZeros_0f7a4 (l : Launch) (g : Gm) (x0 : Int32) (σ : Hp) (Q : Int32 → Hp → Prop) (h : S_J6_numberOfTrailingZeros_0f7a4 x0 σ Q) : Ct l g yJ6_numberOfTrailingZeros_0f7a4 cJ6_numberOfTrailingZeros_0f7a4 2 (some .int) 0 [.int x0] σ (QI Q) := by
  refine Ct.of (by decide +kernel) (Nat.le_of_ble_eq_true rfl) ?_
  intro p e R s m args below meth c C
  have C : Cx g p R s m args meth c cJ6_numberOfTrailingZeros_0f7a4 2 RJ6 (some .int) 0 := C
  have j62 : ∀ (y0 : Int32) (y1 : Int32) (σ : Hp), J_J6_numberOfTrailingZeros_0f7a4_62 Q y0 y1 σ → G g p l e R s m args below meth c (QI Q) 2 62 [(0, .int y0), (1, .int y1)] [] σ := by
    intro y0 y1 σ h
    unfold J_J6_numberOfTrailingZeros_0f7a4_62 at h
    refine r_iload_n C dJ6_numberOfTrailingZeros_0f7a4_62 rfl 0 rfl ?_
    refine r_iconst C dJ6_numberOfTrailingZeros_0f7a4_63 ic_4 ?_
    refine r_icmp_le (tgt := 74) C dJ6_numberOfTrailingZeros_0f7a4_64 rfl (fun q => ?_) (fun q => ?_)
    · have h := h.1 q
      refine r_iload_n C dJ6_numberOfTrailingZeros_0f7a4_74 rfl 1 rfl ?_
      refine r_iload_n C dJ6_numberOfTrailingZeros_0f7a4_75 rfl 0 rfl ?_
      refine r_iconst C dJ6_numberOfTrailingZeros_0f7a4_76 ic_1 ?_
      refine r_iushr C dJ6_numberOfTrailingZeros_0f7a4_77 ?_
      refine r_iadd C dJ6_numberOfTrailingZeros_0f7a4_78 ?_
      exact r_ireturn C dJ6_numberOfTrailingZeros_0f7a4_79 ⟨_, rfl, h⟩
    · have h := h.2 q
      refine r_iinc (v := y1 + 2) C dJ6_numberOfTrailingZeros_0f7a4_67 1 rfl rfl (Nat.le_of_ble_eq_true rfl) rfl ?_
      refine r_iload_n C dJ6_numberOfTrailingZeros_0f7a4_70 rfl 1 rfl ?_
      refine r_iconst C dJ6_numberOfTrailingZeros_0f7a4_71 ic_2 ?_
      refine r_iushr C dJ6_numberOfTrailingZeros_0f7a4_72 ?_
      refine r_istore_n C dJ6_numberOfTrailingZeros_0f7a4_73 rfl (Nat.le_of_ble_eq_true rfl) rfl ?_
      refine r_iload_n C dJ6_numberOfTrailingZeros_0f7a4_74 rfl 1 rfl ?_
      refine r_iload_n C dJ6_numberOfTrailingZeros_0f7a4_75 rfl 0 rfl ?_
      refine r_iconst C dJ6_numberOfTrailingZeros_0f7a4_76 ic_1 ?_
      refine r_iushr C dJ6_numberOfTrailingZeros_0f7a4_77 ?_
      refine r_iadd C dJ6_numberOfTrailingZeros_0f7a4_78 ?_
      exact r_ireturn C dJ6_numberOfTrailingZeros_0f7a4_79 ⟨_, rfl, h⟩
  have j49 : ∀ (y0 : Int32) (y1 : Int32) (σ : Hp), J_J6_numberOfTrailingZeros_0f7a4_49 Q y0 y1 σ → G g p l e R s m args below meth c (QI Q) 2 49 [(0, .int y0), (1, .int y1)] [] σ := by
    intro y0 y1 σ h
    unfold J_J6_numberOfTrailingZeros_0f7a4_49 at h
    refine r_iload_n C dJ6_numberOfTrailingZeros_0f7a4_49 rfl 0 rfl ?_
    refine r_bipush C dJ6_numberOfTrailingZeros_0f7a4_50 bi_16 ?_
    refine r_icmp_le (tgt := 62) C dJ6_numberOfTrailingZeros_0f7a4_52 rfl (fun q => ?_) (fun q => ?_)
    · have h := h.1 q
      exact j62 _ _ _ h
    · have h := h.2 q
      refine r_iinc (v := y1 + 4) C dJ6_numberOfTrailingZeros_0f7a4_55 1 rfl rfl (Nat.le_of_ble_eq_true rfl) rfl ?_
      refine r_iload_n C dJ6_numberOfTrailingZeros_0f7a4_58 rfl 1 rfl ?_
      refine r_iconst C dJ6_numberOfTrailingZeros_0f7a4_59 ic_4 ?_
      refine r_iushr C dJ6_numberOfTrailingZeros_0f7a4_60 ?_
      refine r_istore_n C dJ6_numberOfTrailingZeros_0f7a4_61 rfl (Nat.le_of_ble_eq_true rfl) rfl ?_
      exact j62 _ _ _ h
  have j34 : ∀ (y0 : Int32) (y1 : Int32) (σ : Hp), J_J6_numberOfTrailingZeros_0f7a4_34 Q y0 y1 σ → G g p l e R s m args below meth c (QI Q) 2 34 [(0, .int y0), (1, .int y1)] [] σ := by
    intro y0 y1 σ h
    unfold J_J6_numberOfTrailingZeros_0f7a4_34 at h
    refine r_iload_n C dJ6_numberOfTrailingZeros_0f7a4_34 rfl 0 rfl ?_
    refine r_sipush C dJ6_numberOfTrailingZeros_0f7a4_35 si_256 ?_
    refine r_icmp_le (tgt := 49) C dJ6_numberOfTrailingZeros_0f7a4_38 rfl (fun q => ?_) (fun q => ?_)
    · have h := h.1 q
      exact j49 _ _ _ h
    · have h := h.2 q
      refine r_iinc (v := y1 + 8) C dJ6_numberOfTrailingZeros_0f7a4_41 1 rfl rfl (Nat.le_of_ble_eq_true rfl) rfl ?_
      refine r_iload_n C dJ6_numberOfTrailingZeros_0f7a4_44 rfl 1 rfl ?_
      refine r_bipush C dJ6_numberOfTrailingZeros_0f7a4_45 bi_8 ?_
      refine r_iushr C dJ6_numberOfTrailingZeros_0f7a4_47 ?_
      refine r_istore_n C dJ6_numberOfTrailingZeros_0f7a4_48 rfl (Nat.le_of_ble_eq_true rfl) rfl ?_
      exact j49 _ _ _ h
  unfold S_J6_numberOfTrailingZeros_0f7a4 at h
  show G g p l e R s m args below meth c (QI Q) 2 0 [(0, .int x0)] [] σ
  refine r_iload_n C dJ6_numberOfTrailingZeros_0f7a4_0 rfl 0 rfl ?_
  refine r_iconst C dJ6_numberOfTrailingZeros_0f7a4_1 ic_m1 ?_
  refine r_ixor C dJ6_numberOfTrailingZeros_0f7a4_2 ?_
  refine r_iload_n C dJ6_numberOfTrailingZeros_0f7a4_3 rfl 0 rfl ?_
  refine r_iconst C dJ6_numberOfTrailingZeros_0f7a4_4 ic_1 ?_
  refine r_isub C dJ6_numberOfTrailingZeros_0f7a4_5 ?_
  refine r_iand C dJ6_numberOfTrailingZeros_0f7a4_6 ?_
  refine r_istore_n C dJ6_numberOfTrailingZeros_0f7a4_7 rfl (Nat.le_of_ble_eq_true rfl) rfl ?_
  refine r_iload_n C dJ6_numberOfTrailingZeros_0f7a4_8 rfl 0 rfl ?_
  refine r_if_gt (tgt := 17) C dJ6_numberOfTrailingZeros_0f7a4_9 rfl (fun q => ?_) (fun q => ?_)
  · have h := h.1 q
    refine r_iconst C dJ6_numberOfTrailingZeros_0f7a4_17 ic_1 ?_
    refine r_istore_n C dJ6_numberOfTrailingZeros_0f7a4_18 rfl (Nat.le_of_ble_eq_true rfl) rfl ?_
    refine r_iload_n C dJ6_numberOfTrailingZeros_0f7a4_19 rfl 1 rfl ?_
    refine r_ldcw (v := 65536) C dJ6_numberOfTrailingZeros_0f7a4_20 u4_54 ?_
    refine r_icmp_le (tgt := 34) C dJ6_numberOfTrailingZeros_0f7a4_23 rfl (fun q => ?_) (fun q => ?_)
    · have h := h.1 q
      refine r_sub [1, 0] rfl ?_
      exact j34 _ _ _ h
    · have h := h.2 q
      refine r_iinc (v := 1 + 16) C dJ6_numberOfTrailingZeros_0f7a4_26 0 rfl rfl (Nat.le_of_ble_eq_true rfl) rfl ?_
      refine r_iload_n C dJ6_numberOfTrailingZeros_0f7a4_29 rfl 1 rfl ?_
      refine r_bipush C dJ6_numberOfTrailingZeros_0f7a4_30 bi_16 ?_
      refine r_iushr C dJ6_numberOfTrailingZeros_0f7a4_32 ?_
      refine r_istore_n C dJ6_numberOfTrailingZeros_0f7a4_33 rfl (Nat.le_of_ble_eq_true rfl) rfl ?_
      exact j34 _ _ _ h
  · have h := h.2 q
    refine r_iload_n C dJ6_numberOfTrailingZeros_0f7a4_12 rfl 0 rfl ?_
    refine r_bipush C dJ6_numberOfTrailingZeros_0f7a4_13 bi_32 ?_
    refine r_iand C dJ6_numberOfTrailingZeros_0f7a4_15 ?_
    exact r_ireturn C dJ6_numberOfTrailingZeros_0f7a4_16 ⟨_, rfl, h⟩
def S_J13_numberOfTrailingZeros_95d88 (x0 : Int64) (σ : Hp) (Q : Int32 → Hp → Prop) : Prop :=
  ((¬ x0.toInt32 = 0 → S_J6_numberOfTrailingZeros_0f7a4 x0.toInt32 σ (fun r2 σ1 => Q r2 σ1)) ∧ (x0.toInt32 = 0 → S_J6_numberOfTrailingZeros_0f7a4 (((x0.toUInt64 >>> ((32 : Int32).toInt64.toUInt64 &&& Int64.toUInt64 63)).toInt64).toInt32) σ (fun r4 σ3 => Q (32 + r4) σ3)))
set_option maxHeartbeats 2000000 in
set_option maxRecDepth 20000 in
theorem ok_J13_numberOfTrailingZeros_95d88 (l : Launch) (g : Gm) (x0 : Int64) (σ : Hp) (Q : Int32 → Hp → Prop) (h : S_J13_numberOfTrailingZeros_95d88 x0 σ Q) : Ct l g yJ13_numberOfTrailingZeros_95d88 cJ13_numberOfTrailingZeros_95d88 3 (some .int) 1 [.long x0] σ (QI Q) := by
  refine Ct.of (by decide +kernel) (Nat.le_of_ble_eq_true rfl) ?_
  intro p e R s m args below meth c C
  have C : Cx g p R s m args meth c cJ13_numberOfTrailingZeros_95d88 3 RJ13 (some .int) 1 := C
  unfold S_J13_numberOfTrailingZeros_95d88 at h
  show G g p l e R s m args below meth c (QI Q) 3 0 [(0, .long x0)] [] σ
  refine r_lload_n C dJ13_numberOfTrailingZeros_95d88_0 rfl 0 rfl ?_
  refine r_l2i C dJ13_numberOfTrailingZeros_95d88_1 ?_
  refine r_istore_n C dJ13_numberOfTrailingZeros_95d88_2 rfl (Nat.le_of_ble_eq_true rfl) rfl ?_
  refine r_iload_n C dJ13_numberOfTrailingZeros_95d88_3 rfl 0 rfl ?_
  refine r_if_ne (tgt := 21) C dJ13_numberOfTrailingZeros_95d88_4 rfl (fun q => ?_) (fun q => ?_)
  · have h := h.1 q
    refine r_iload_n C dJ13_numberOfTrailingZeros_95d88_21 rfl 0 rfl ?_
    refine r_callSi [] C dJ13_numberOfTrailingZeros_95d88_22 w_J13_311 (ok_J6_numberOfTrailingZeros_0f7a4 l g _ _ _ h) (Nat.le_of_ble_eq_true rfl) rfl rfl (Nat.le_of_ble_eq_true rfl) (fun r2 σ1 h => ?_)
    exact r_ireturn C dJ13_numberOfTrailingZeros_95d88_25 ⟨_, rfl, h⟩
  · have h := h.2 q
    refine r_bipush C dJ13_numberOfTrailingZeros_95d88_7 bi_32 ?_
    refine r_lload_n C dJ13_numberOfTrailingZeros_95d88_9 rfl 1 rfl ?_
    refine r_bipush C dJ13_numberOfTrailingZeros_95d88_10 bi_32 ?_
    refine r_lushr C dJ13_numberOfTrailingZeros_95d88_12 ?_
    refine r_l2i C dJ13_numberOfTrailingZeros_95d88_13 ?_
    refine r_callSi [.int _] C dJ13_numberOfTrailingZeros_95d88_14 w_J13_311 (ok_J6_numberOfTrailingZeros_0f7a4 l g _ _ _ h) (Nat.le_of_ble_eq_true rfl) rfl rfl (Nat.le_of_ble_eq_true rfl) (fun r4 σ3 h => ?_)
    refine r_iadd C dJ13_numberOfTrailingZeros_95d88_17 ?_
    refine r_goto (tgt := 25) C dJ13_numberOfTrailingZeros_95d88_18 rfl ?_
    exact r_ireturn C dJ13_numberOfTrailingZeros_95d88_25 ⟨_, rfl, h⟩
def S_X7_part (x1 : Int64) (x3 : Int32) (σ : Hp) (Q : Int64 → Hp → Prop) : Prop :=
  ∀ σ1, σ1 = sI σ 7 0 7 0 → S_J13_numberOfTrailingZeros_95d88 x1 σ1 (fun r3 σ2 => ((x3 = 0 → Q (x1 >>> ((if r3 < 24 then r3 else 24).toInt64 &&& 63)) σ2) ∧ (¬ x3 = 0 → Q (16777216 >>> ((if r3 < 24 then r3 else 24).toInt64 &&& 63)) σ2)))
set_option maxHeartbeats 2000000 in
set_option maxRecDepth 20000 in
theorem ok_X7_part (l : Launch) (g : Gm) (x1 : Int64) (x3 : Int32) (σ : Hp) (Q : Int64 → Hp → Prop) (h : S_X7_part x1 x3 σ Q) : Ct l g yX7_part cX7_part 5 (some .long) 2 [.ref (gad g 7 0), .long x1, .int x3] σ (QL Q) := by
  refine Ct.of (by decide +kernel) (Nat.le_of_ble_eq_true rfl) ?_
  intro p e R s m args below meth c C
  have C : Cx g p R s m args meth c cX7_part 5 RX7 (some .long) 2 := C
  unfold S_X7_part at h
  show G g p l e R s m args below meth c (QL Q) 5 0 [(0, .ref (gad g 7 0)), (1, .long x1), (3, .int x3)] [] σ
  refine r_aload_n C dX7_part_0 rfl 0 rfl ?_
  refine r_iconst C dX7_part_1 ic_0 ?_
  refine pf_7_47 C dX7_part_2 (cn_7 (by decide)) ?_
  have h := h _ rfl
  refine r_bipush C dX7_part_5 bi_24 ?_
  refine r_lload_n C dX7_part_7 rfl 1 rfl ?_
  refine r_callSi [.int _] C dX7_part_8 w_7_338 (ok_J13_numberOfTrailingZeros_95d88 l g _ _ _ h) (Nat.le_of_ble_eq_true rfl) rfl rfl (Nat.le_of_ble_eq_true rfl) (fun r3 σ2 h => ?_)
  refine r_min C dX7_part_11 u4_55 u2_188 u1_10 u2_189 (by decide) (Nat.le_of_ble_eq_true rfl) ?_
  refine r_istore C dX7_part_14 (Nat.le_of_ble_eq_true rfl) rfl ?_
  refine r_iload_n C dX7_part_16 rfl 3 rfl ?_
  refine r_if_eq (tgt := 29) C dX7_part_17 rfl (fun q => ?_) (fun q => ?_)
  · have h := h.1 q
    refine r_lload_n C dX7_part_29 rfl 2 rfl ?_
    refine r_iload C dX7_part_30 0 rfl ?_
    refine r_lshr C dX7_part_32 ?_
    exact r_lreturn C dX7_part_33 ⟨_, rfl, h⟩
  · have h := h.2 q
    refine r_ldc2 (v := 16777216) C dX7_part_20 u4_56 ?_
    refine r_iload C dX7_part_23 0 rfl ?_
    refine r_lshr C dX7_part_25 ?_
    refine r_goto (tgt := 33) C dX7_part_26 rfl ?_
    exact r_lreturn C dX7_part_33 ⟨_, rfl, h⟩
def S_X7_load (x1 : Int32) (x2 : Int32) (σ : Hp) (Q : Int64 → Hp → Prop) : Prop :=
  gR σ 0 < 2 ∧ S_X2_hasPort (gR σ 0) x1 σ (fun r3 σ2 => ((¬ r3 = 0 → S_X1_loadOf x1 σ2 (fun r5 σ4 => S_X7_part r5 x2 σ4 (fun r7 σ6 => Q r7 σ6))) ∧ (r3 = 0 → S_X7_refuse 1 σ2 (fun r9 σ8 => Q r9.toInt64 σ8))))
set_option maxHeartbeats 2000000 in
set_option maxRecDepth 20000 in
theorem ok_X7_load (l : Launch) (g : Gm) (x1 : Int32) (x2 : Int32) (σ : Hp) (Q : Int64 → Hp → Prop) (h : S_X7_load x1 x2 σ Q) : Ct l g yX7_load cX7_load 3 (some .long) 3 [.ref (gad g 7 0), .int x1, .int x2] σ (QL Q) := by
  refine Ct.of (by decide +kernel) (Nat.le_of_ble_eq_true rfl) ?_
  intro p e R s m args below meth c C
  have C : Cx g p R s m args meth c cX7_load 3 RX7 (some .long) 3 := C
  unfold S_X7_load at h
  show G g p l e R s m args below meth c (QL Q) 3 0 [(0, .ref (gad g 7 0)), (1, .int x1), (2, .int x2)] [] σ
  refine r_aload_n C dX7_load_0 rfl 0 rfl ?_
  refine gf_7_19 C dX7_load_1 (cn_7 (by decide)) ?_
  obtain ⟨hr1, h⟩ := h
  refine r_iload_n C dX7_load_4 rfl 1 rfl ?_
  refine r_callVi [] C dX7_load_5 w_7_197 (ok_X2_hasPort l g _ hr1 _ _ _ h) (Nat.le_of_ble_eq_true rfl) rfl rfl ak_2 (cn_2 hr1) rfl rfl (Nat.le_of_ble_eq_true rfl) (fun r3 σ2 h => ?_)
  refine r_if_ne (tgt := 18) C dX7_load_8 rfl (fun q => ?_) (fun q => ?_)
  · have h := h.1 q
    refine r_aload_n C dX7_load_18 rfl 0 rfl ?_
    refine r_aload_n C dX7_load_19 rfl 0 rfl ?_
    refine gf_7_26 C dX7_load_20 (cn_7 (by decide)) ?_
    refine r_iload_n C dX7_load_23 rfl 1 rfl ?_
    refine r_callVl [.ref (gad g 7 0)] C dX7_load_24 w_7_256 (ok_X1_loadOf l g _ _ _ h) (Nat.le_of_ble_eq_true rfl) rfl rfl ak_1 (cn_1 (by decide)) rfl rfl (Nat.le_of_ble_eq_true rfl) (fun r5 σ4 h => ?_)
    refine r_iload_n C dX7_load_27 rfl 2 rfl ?_
    refine r_callVl [] C dX7_load_28 w_7_260 (ok_X7_part l g _ _ _ _ h) (Nat.le_of_ble_eq_true rfl) rfl rfl ak_7 (cn_7 (by decide)) rfl rfl (Nat.le_of_ble_eq_true rfl) (fun r7 σ6 h => ?_)
    exact r_lreturn C dX7_load_31 ⟨_, rfl, h⟩
  · have h := h.2 q
    refine r_aload_n C dX7_load_11 rfl 0 rfl ?_
    refine r_iconst C dX7_load_12 ic_1 ?_
    refine r_callVi [] C dX7_load_13 w_7_64 (ok_X7_refuse l g _ _ _ h) (Nat.le_of_ble_eq_true rfl) rfl rfl ak_7 (cn_7 (by decide)) rfl rfl (Nat.le_of_ble_eq_true rfl) (fun r9 σ8 h => ?_)
    refine r_i2l C dX7_load_16 ?_
    exact r_lreturn C dX7_load_17 ⟨_, rfl, h⟩
def S_X7_delay (x1 : Int32) (x2 : Int32) (σ : Hp) (Q : Int64 → Hp → Prop) : Prop :=
  gR σ 0 < 2 ∧ S_X2_hasPort (gR σ 0) x1 σ (fun r3 σ2 => ((¬ r3 = 0 → (((gI σ2 1 0 0) = 0 → vp_in x1 16 ∧ S_X7_part (gL σ2 20 0 (ix x1)) x2 σ2 (fun r5 σ4 => Q r5 σ4)) ∧ (¬ (gI σ2 1 0 0) = 0 → S_X7_refuse 5 σ2 (fun r7 σ6 => Q r7.toInt64 σ6)))) ∧ (r3 = 0 → S_X7_refuse 1 σ2 (fun r9 σ8 => Q r9.toInt64 σ8))))
set_option maxHeartbeats 2000000 in
set_option maxRecDepth 20000 in
theorem ok_X7_delay (l : Launch) (g : Gm) (x1 : Int32) (x2 : Int32) (σ : Hp) (Q : Int64 → Hp → Prop) (h : S_X7_delay x1 x2 σ Q) : Ct l g yX7_delay cX7_delay 3 (some .long) 3 [.ref (gad g 7 0), .int x1, .int x2] σ (QL Q) := by
  refine Ct.of (by decide +kernel) (Nat.le_of_ble_eq_true rfl) ?_
  intro p e R s m args below meth c C
  have C : Cx g p R s m args meth c cX7_delay 3 RX7 (some .long) 3 := C
  unfold S_X7_delay at h
  show G g p l e R s m args below meth c (QL Q) 3 0 [(0, .ref (gad g 7 0)), (1, .int x1), (2, .int x2)] [] σ
  refine r_aload_n C dX7_delay_0 rfl 0 rfl ?_
  refine gf_7_19 C dX7_delay_1 (cn_7 (by decide)) ?_
  obtain ⟨hr1, h⟩ := h
  refine r_iload_n C dX7_delay_4 rfl 1 rfl ?_
  refine r_callVi [] C dX7_delay_5 w_7_197 (ok_X2_hasPort l g _ hr1 _ _ _ h) (Nat.le_of_ble_eq_true rfl) rfl rfl ak_2 (cn_2 hr1) rfl rfl (Nat.le_of_ble_eq_true rfl) (fun r3 σ2 h => ?_)
  refine r_if_ne (tgt := 18) C dX7_delay_8 rfl (fun q => ?_) (fun q => ?_)
  · have h := h.1 q
    refine r_aload_n C dX7_delay_18 rfl 0 rfl ?_
    refine gf_7_26 C dX7_delay_19 (cn_7 (by decide)) ?_
    refine gf_7_264 C dX7_delay_22 (cn_1 (by decide)) ?_
    refine r_if_eq (tgt := 35) C dX7_delay_25 rfl (fun q => ?_) (fun q => ?_)
    · have h := h.1 q
      refine r_aload_n C dX7_delay_35 rfl 0 rfl ?_
      refine r_aload_n C dX7_delay_36 rfl 0 rfl ?_
      refine gf_7_26 C dX7_delay_37 (cn_7 (by decide)) ?_
      refine gf_7_267 C dX7_delay_40 (cn_1 (by decide)) ?_
      refine r_iload_n C dX7_delay_43 rfl 1 rfl ?_
      obtain ⟨h0, h⟩ := h
      refine r_laload C dX7_delay_44 ak_20 (cn_20 (by decide)) al_20 h0 ?_
      refine r_iload_n C dX7_delay_45 rfl 2 rfl ?_
      refine r_callVl [] C dX7_delay_46 w_7_260 (ok_X7_part l g _ _ _ _ h) (Nat.le_of_ble_eq_true rfl) rfl rfl ak_7 (cn_7 (by decide)) rfl rfl (Nat.le_of_ble_eq_true rfl) (fun r5 σ4 h => ?_)
      exact r_lreturn C dX7_delay_49 ⟨_, rfl, h⟩
    · have h := h.2 q
      refine r_aload_n C dX7_delay_28 rfl 0 rfl ?_
      refine r_iconst C dX7_delay_29 ic_5 ?_
      refine r_callVi [] C dX7_delay_30 w_7_64 (ok_X7_refuse l g _ _ _ h) (Nat.le_of_ble_eq_true rfl) rfl rfl ak_7 (cn_7 (by decide)) rfl rfl (Nat.le_of_ble_eq_true rfl) (fun r7 σ6 h => ?_)
      refine r_i2l C dX7_delay_33 ?_
      exact r_lreturn C dX7_delay_34 ⟨_, rfl, h⟩
  · have h := h.2 q
    refine r_aload_n C dX7_delay_11 rfl 0 rfl ?_
    refine r_iconst C dX7_delay_12 ic_1 ?_
    refine r_callVi [] C dX7_delay_13 w_7_64 (ok_X7_refuse l g _ _ _ h) (Nat.le_of_ble_eq_true rfl) rfl rfl ak_7 (cn_7 (by decide)) rfl rfl (Nat.le_of_ble_eq_true rfl) (fun r9 σ8 h => ?_)
    refine r_i2l C dX7_delay_16 ?_
    exact r_lreturn C dX7_delay_17 ⟨_, rfl, h⟩
def J_X7_burst_15 (Q : Int64 → Hp → Prop) (σ : Hp) : Prop :=
  S_X7_refuse 1 σ (fun r2 σ1 => Q r2.toInt64 σ1)
def S_X7_burst (x1 : Int32) (x2 : Int32) (x3 : Int32) (x4 : Int32) (σ : Hp) (Q : Int64 → Hp → Prop) : Prop :=
  ((x3 < 1 → J_X7_burst_15 Q σ) ∧ (¬ x3 < 1 → S_X7_hasPortOnWay x1 x2 x3 σ (fun r4 σ3 => ((¬ r4 = 0 → (((gI σ3 1 0 0) = 0 → gR σ3 0 < 2 ∧ S_X7_earOf x1 x2 σ3 (fun r7 σ6 => S_X6_portAt (gR σ3 0) r7 x3 σ6 (fun r9 σ8 => vp_in ((x1 * 16) + r9) 128 ∧ S_X7_part (gL σ8 21 0 (ix ((x1 * 16) + r9))) x4 σ8 (fun r11 σ10 => Q r11 σ10)))) ∧ (¬ (gI σ3 1 0 0) = 0 → S_X7_refuse 5 σ3 (fun r13 σ12 => Q r13.toInt64 σ12)))) ∧ (r4 = 0 → J_X7_burst_15 Q σ3)))))
set_option maxHeartbeats 2000000 in
set_option maxRecDepth 20000 in
theorem ok_X7_burst (l : Launch) (g : Gm) (x1 : Int32) (x2 : Int32) (x3 : Int32) (x4 : Int32) (σ : Hp) (Q : Int64 → Hp → Prop) (h : S_X7_burst x1 x2 x3 x4 σ Q) : Ct l g yX7_burst cX7_burst 5 (some .long) 3 [.ref (gad g 7 0), .int x1, .int x2, .int x3, .int x4] σ (QL Q) := by
  refine Ct.of (by decide +kernel) (Nat.le_of_ble_eq_true rfl) ?_
  intro p e R s m args below meth c C
  have C : Cx g p R s m args meth c cX7_burst 5 RX7 (some .long) 3 := C
  have j15 : ∀ (σ : Hp), J_X7_burst_15 Q σ → G g p l e R s m args below meth c (QL Q) 5 15 [(0, .ref (gad g 7 0))] [] σ := by
    intro σ h
    unfold J_X7_burst_15 at h
    refine r_aload_n C dX7_burst_15 rfl 0 rfl ?_
    refine r_iconst C dX7_burst_16 ic_1 ?_
    refine r_callVi [] C dX7_burst_17 w_7_64 (ok_X7_refuse l g _ _ _ h) (Nat.le_of_ble_eq_true rfl) rfl rfl ak_7 (cn_7 (by decide)) rfl rfl (Nat.le_of_ble_eq_true rfl) (fun r2 σ1 h => ?_)
    refine r_i2l C dX7_burst_20 ?_
    exact r_lreturn C dX7_burst_21 ⟨_, rfl, h⟩
  unfold S_X7_burst at h
  show G g p l e R s m args below meth c (QL Q) 5 0 [(0, .ref (gad g 7 0)), (1, .int x1), (2, .int x2), (3, .int x3), (4, .int x4)] [] σ
  refine r_iload_n C dX7_burst_0 rfl 3 rfl ?_
  refine r_iconst C dX7_burst_1 ic_1 ?_
  refine r_icmp_lt (tgt := 15) C dX7_burst_2 rfl (fun q => ?_) (fun q => ?_)
  · have h := h.1 q
    refine r_sub [0] rfl ?_
    exact j15 _ h
  · have h := h.2 q
    refine r_aload_n C dX7_burst_5 rfl 0 rfl ?_
    refine r_iload_n C dX7_burst_6 rfl 1 rfl ?_
    refine r_iload_n C dX7_burst_7 rfl 2 rfl ?_
    refine r_iload_n C dX7_burst_8 rfl 3 rfl ?_
    refine r_callVi [] C dX7_burst_9 w_7_169 (ok_X7_hasPortOnWay l g _ _ _ _ _ h) (Nat.le_of_ble_eq_true rfl) rfl rfl ak_7 (cn_7 (by decide)) rfl rfl (Nat.le_of_ble_eq_true rfl) (fun r4 σ3 h => ?_)
    refine r_if_ne (tgt := 22) C dX7_burst_12 rfl (fun q => ?_) (fun q => ?_)
    · have h := h.1 q
      refine r_aload_n C dX7_burst_22 rfl 0 rfl ?_
      refine gf_7_26 C dX7_burst_23 (cn_7 (by decide)) ?_
      refine gf_7_264 C dX7_burst_26 (cn_1 (by decide)) ?_
      refine r_if_eq (tgt := 39) C dX7_burst_29 rfl (fun q => ?_) (fun q => ?_)
      · have h := h.1 q
        refine r_aload_n C dX7_burst_39 rfl 0 rfl ?_
        refine r_aload_n C dX7_burst_40 rfl 0 rfl ?_
        refine gf_7_26 C dX7_burst_41 (cn_7 (by decide)) ?_
        refine gf_7_271 C dX7_burst_44 (cn_1 (by decide)) ?_
        refine r_iload_n C dX7_burst_47 rfl 1 rfl ?_
        refine r_bipush C dX7_burst_48 bi_16 ?_
        refine r_imul C dX7_burst_50 ?_
        refine r_aload_n C dX7_burst_51 rfl 0 rfl ?_
        refine gf_7_19 C dX7_burst_52 (cn_7 (by decide)) ?_
        obtain ⟨hr5, h⟩ := h
        refine gf_7_81 C dX7_burst_55 (cn_2 hr5) ?_
        refine r_iload_n C dX7_burst_58 rfl 1 rfl ?_
        refine r_iload_n C dX7_burst_59 rfl 2 rfl ?_
        refine r_callSi [.ref (gad g 6 _), .int _, .ref (gad g 21 0), .ref (gad g 7 0)] C dX7_burst_60 w_7_158 (ok_X7_earOf l g _ _ _ _ h) (Nat.le_of_ble_eq_true rfl) rfl rfl (Nat.le_of_ble_eq_true rfl) (fun r7 σ6 h => ?_)
        refine r_iload_n C dX7_burst_63 rfl 3 rfl ?_
        refine r_callVi [.int _, .ref (gad g 21 0), .ref (gad g 7 0)] C dX7_burst_64 w_7_173 (ok_X6_portAt l g _ hr5 _ _ _ _ h) (Nat.le_of_ble_eq_true rfl) rfl rfl ak_6 (cn_6 hr5) rfl rfl (Nat.le_of_ble_eq_true rfl) (fun r9 σ8 h => ?_)
        refine r_iadd C dX7_burst_67 ?_
        obtain ⟨h0, h⟩ := h
        refine r_laload C dX7_burst_68 ak_21 (cn_21 (by decide)) al_21 h0 ?_
        refine r_iload C dX7_burst_69 4 rfl ?_
        refine r_callVl [] C dX7_burst_71 w_7_260 (ok_X7_part l g _ _ _ _ h) (Nat.le_of_ble_eq_true rfl) rfl rfl ak_7 (cn_7 (by decide)) rfl rfl (Nat.le_of_ble_eq_true rfl) (fun r11 σ10 h => ?_)
        exact r_lreturn C dX7_burst_74 ⟨_, rfl, h⟩
      · have h := h.2 q
        refine r_aload_n C dX7_burst_32 rfl 0 rfl ?_
        refine r_iconst C dX7_burst_33 ic_5 ?_
        refine r_callVi [] C dX7_burst_34 w_7_64 (ok_X7_refuse l g _ _ _ h) (Nat.le_of_ble_eq_true rfl) rfl rfl ak_7 (cn_7 (by decide)) rfl rfl (Nat.le_of_ble_eq_true rfl) (fun r13 σ12 h => ?_)
        refine r_i2l C dX7_burst_37 ?_
        exact r_lreturn C dX7_burst_38 ⟨_, rfl, h⟩
    · have h := h.2 q
      refine r_sub [0] rfl ?_
      exact j15 _ h
