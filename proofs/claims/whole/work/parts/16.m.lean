def L_X8_back_20 (Q : Int32 → Hp → Prop) (K45 : Hp → Prop) : Nat → Int32 → Hp → Prop
  | 0, _, _ => False
  | n + 1, y1, σ =>
  (((1809 : Int32) ≤ y1 → K45 σ) ∧ (¬ (1809 : Int32) ≤ y1 → vp_in y1 1809 ∧ vp_in y1 1809 ∧ ∀ σ2, σ2 = sI σ 61 0 (ix y1) (gI σ 63 0 (ix y1)) → L_X8_back_20 Q K45 n (y1 + 1) σ2))
def S_X8_back (σ : Hp) (Q : Int32 → Hp → Prop) : Prop :=
  S_X8_fresh σ (fun σ1 => ((¬ (gI σ1 8 0 27) = 0 → (∃ n3, L_X8_back_20 Q (fun σ4 => Q 1 σ4) n3 0 σ1)) ∧ ((gI σ1 8 0 27) = 0 → ∀ σ5, σ5 = sI σ1 8 0 1 1 → Q 0 σ5)))
set_option maxHeartbeats 2000000 in
set_option maxRecDepth 20000 in
theorem ok_X8_back (l : Launch) (g : Gm) (σ : Hp) (Q : Int32 → Hp → Prop) (h : S_X8_back σ Q) : Ct l g yX8_back cX8_back 2 (some .boolean) 1 [.ref (gad g 8 0)] σ (QI Q) := by
  refine Ct.of (by decide +kernel) (Nat.le_of_ble_eq_true rfl) ?_
  intro p e R s m args below meth c C
  have C : Cx g p R s m args meth c cX8_back 2 RX8 (some .boolean) 1 := C
  have l20 : ∀ (K45 : Hp → Prop) (hK45 : ∀ (σ : Hp), K45 σ → G g p l e R s m args below meth c (QI Q) 2 45 [] [] σ) (n : Nat) (y1 : Int32) (σ : Hp), L_X8_back_20 Q K45 n y1 σ → G g p l e R s m args below meth c (QI Q) 2 20 [(0, .ref (gad g 8 0)), (1, .int y1)] [] σ := by
    intro K45 hK45 n
    induction n with
    | zero => intro y1 σ h; exact False.elim h
    | succ n ih =>
      intro y1 σ h
      unfold L_X8_back_20 at h
      refine r_iload_n C dX8_back_20 rfl 1 rfl ?_
      refine r_sipush C dX8_back_21 si_1809 ?_
      refine r_icmp_ge (tgt := 45) C dX8_back_24 rfl (fun q => ?_) (fun q => ?_)
      · have h := h.1 q
        refine r_sub [] rfl ?_
        exact hK45 _ h
      · have h := h.2 q
        refine r_aload_n C dX8_back_27 rfl 0 rfl ?_
        refine gf_8_42 C dX8_back_28 (cn_8 (by decide)) ?_
        refine r_iload_n C dX8_back_31 rfl 1 rfl ?_
        refine r_aload_n C dX8_back_32 rfl 0 rfl ?_
        refine gf_8_48 C dX8_back_33 (cn_8 (by decide)) ?_
        refine r_iload_n C dX8_back_36 rfl 1 rfl ?_
        obtain ⟨h0, h⟩ := h
        refine r_iaload C dX8_back_37 ak_63 (cn_63 (by decide)) al_63 h0 ?_
        obtain ⟨h0, h⟩ := h
        refine r_iastore C dX8_back_38 ak_61 (cn_61 (by decide)) al_61 h0 ?_
        have h := h _ rfl
        refine r_iinc (v := y1 + 1) C dX8_back_39 1 rfl rfl (Nat.le_of_ble_eq_true rfl) rfl ?_
        refine r_goto (tgt := 20) C dX8_back_42 rfl ?_
        refine r_sub [1, 0] rfl ?_
        exact ih _ _ h
  unfold S_X8_back at h
  show G g p l e R s m args below meth c (QI Q) 2 0 [(0, .ref (gad g 8 0))] [] σ
  refine r_aload_n C dX8_back_0 rfl 0 rfl ?_
  refine r_callVv [] C dX8_back_1 w_8_200 (ok_X8_fresh l g _ _ h) (Nat.le_of_ble_eq_true rfl) rfl rfl ak_8 (cn_8 (by decide)) rfl rfl (Nat.le_of_ble_eq_true rfl) (fun σ1 h => ?_)
  refine r_aload_n C dX8_back_4 rfl 0 rfl ?_
  refine gf_8_215 C dX8_back_5 (cn_8 (by decide)) ?_
  refine r_if_ne (tgt := 18) C dX8_back_8 rfl (fun q => ?_) (fun q => ?_)
  · have h := h.1 q
    refine r_iconst C dX8_back_18 ic_0 ?_
    refine r_istore_n C dX8_back_19 rfl (Nat.le_of_ble_eq_true rfl) rfl ?_
    refine r_sub [1, 0] rfl ?_
    obtain ⟨n3, h⟩ := h
    refine l20 _ (fun σ4 h => ?_) n3 _ _ h
    refine r_iconst C dX8_back_45 ic_1 ?_
    exact r_zreturn C dX8_back_46 zb1.1 ⟨_, rfl, h⟩
  · have h := h.2 q
    refine r_aload_n C dX8_back_11 rfl 0 rfl ?_
    refine r_iconst C dX8_back_12 ic_1 ?_
    refine pf_8_54 C dX8_back_13 (cn_8 (by decide)) ?_
    have h := h _ rfl
    refine r_iconst C dX8_back_16 ic_0 ?_
    exact r_zreturn C dX8_back_17 zb0.1 ⟨_, rfl, h⟩
def L_X8_isSilent_2 (Q : Int32 → Hp → Prop) (K35 : Hp → Prop) (K27 : Hp → Prop) (y1 : Int32) : Nat → Int32 → Hp → Prop
  | 0, _, _ => False
  | n + 1, y2, σ =>
  S_X8_linkOf y1 3 σ (fun r2 σ1 => ((r2 ≤ y2 → K35 σ1) ∧ (¬ r2 ≤ y2 → S_X8_hearAt y1 y2 σ1 (fun r4 σ3 => vp_in (r4 + 0) 1809 ∧ ((¬ (gI σ3 61 0 (ix (r4 + 0))) = 0 → L_X8_isSilent_2 Q K35 K27 y1 n (y2 + 1) σ3) ∧ ((gI σ3 61 0 (ix (r4 + 0))) = 0 → K27 σ3))))))
def S_X8_isSilent (x1 : Int32) (σ : Hp) (Q : Int32 → Hp → Prop) : Prop :=
  (∃ n5, L_X8_isSilent_2 Q (fun σ6 => Q 0 σ6) (fun σ7 => Q 1 σ7) x1 n5 0 σ)
set_option maxHeartbeats 2000000 in
set_option maxRecDepth 20000 in
theorem ok_X8_isSilent (l : Launch) (g : Gm) (x1 : Int32) (σ : Hp) (Q : Int32 → Hp → Prop) (h : S_X8_isSilent x1 σ Q) : Ct l g yX8_isSilent cX8_isSilent 3 (some .boolean) 1 [.ref (gad g 8 0), .int x1] σ (QI Q) := by
  refine Ct.of (by decide +kernel) (Nat.le_of_ble_eq_true rfl) ?_
  intro p e R s m args below meth c C
  have C : Cx g p R s m args meth c cX8_isSilent 3 RX8 (some .boolean) 1 := C
  have l2 : ∀ (K35 : Hp → Prop) (K27 : Hp → Prop) (y1 : Int32) (hK35 : ∀ (σ : Hp), K35 σ → G g p l e R s m args below meth c (QI Q) 3 35 [] [] σ) (hK27 : ∀ (σ : Hp), K27 σ → G g p l e R s m args below meth c (QI Q) 3 27 [] [] σ) (n : Nat) (y2 : Int32) (σ : Hp), L_X8_isSilent_2 Q K35 K27 y1 n y2 σ → G g p l e R s m args below meth c (QI Q) 3 2 [(0, .ref (gad g 8 0)), (1, .int y1), (2, .int y2)] [] σ := by
    intro K35 K27 y1 hK35 hK27 n
    induction n with
    | zero => intro y2 σ h; exact False.elim h
    | succ n ih =>
      intro y2 σ h
      unfold L_X8_isSilent_2 at h
      refine r_iload_n C dX8_isSilent_2 rfl 2 rfl ?_
      refine r_aload_n C dX8_isSilent_3 rfl 0 rfl ?_
      refine r_iload_n C dX8_isSilent_4 rfl 1 rfl ?_
      refine r_iconst C dX8_isSilent_5 ic_3 ?_
      refine r_callVi [.int _] C dX8_isSilent_6 w_8_221 (ok_X8_linkOf l g _ _ _ _ h) (Nat.le_of_ble_eq_true rfl) rfl rfl ak_8 (cn_8 (by decide)) rfl rfl (Nat.le_of_ble_eq_true rfl) (fun r2 σ1 h => ?_)
      refine r_icmp_ge (tgt := 35) C dX8_isSilent_9 rfl (fun q => ?_) (fun q => ?_)
      · have h := h.1 q
        refine r_sub [] rfl ?_
        exact hK35 _ h
      · have h := h.2 q
        refine r_aload_n C dX8_isSilent_12 rfl 0 rfl ?_
        refine gf_8_42 C dX8_isSilent_13 (cn_8 (by decide)) ?_
        refine r_iload_n C dX8_isSilent_16 rfl 1 rfl ?_
        refine r_iload_n C dX8_isSilent_17 rfl 2 rfl ?_
        refine r_callSi [.ref (gad g 61 0)] C dX8_isSilent_18 w_8_252 (ok_X8_hearAt l g _ _ _ _ h) (Nat.le_of_ble_eq_true rfl) rfl rfl (Nat.le_of_ble_eq_true rfl) (fun r4 σ3 h => ?_)
        refine r_iconst C dX8_isSilent_21 ic_0 ?_
        refine r_iadd C dX8_isSilent_22 ?_
        obtain ⟨h0, h⟩ := h
        refine r_iaload C dX8_isSilent_23 ak_61 (cn_61 (by decide)) al_61 h0 ?_
        refine r_if_ne (tgt := 29) C dX8_isSilent_24 rfl (fun q => ?_) (fun q => ?_)
        · have h := h.1 q
          refine r_iinc (v := y2 + 1) C dX8_isSilent_29 2 rfl rfl (Nat.le_of_ble_eq_true rfl) rfl ?_
          refine r_goto (tgt := 2) C dX8_isSilent_32 rfl ?_
          refine r_sub [1, 2, 0] rfl ?_
          exact ih _ _ h
        · have h := h.2 q
          refine r_sub [] rfl ?_
          exact hK27 _ h
  unfold S_X8_isSilent at h
  show G g p l e R s m args below meth c (QI Q) 3 0 [(0, .ref (gad g 8 0)), (1, .int x1)] [] σ
  refine r_iconst C dX8_isSilent_0 ic_0 ?_
  refine r_istore_n C dX8_isSilent_1 rfl (Nat.le_of_ble_eq_true rfl) rfl ?_
  refine r_sub [1, 2, 0] rfl ?_
  obtain ⟨n5, h⟩ := h
  refine l2 _ _ _ (fun σ6 h => ?_) (fun σ7 h => ?_) n5 _ _ h
  · refine r_iconst C dX8_isSilent_35 ic_0 ?_
    exact r_zreturn C dX8_isSilent_36 zb0.1 ⟨_, rfl, h⟩
  · refine r_iconst C dX8_isSilent_27 ic_1 ?_
    exact r_zreturn C dX8_isSilent_28 zb1.1 ⟨_, rfl, h⟩
def J_X8_silent_45 (Q : Int32 → Hp → Prop) (kb : Int32 → Int32 → Hp → Prop) (K51 : Hp → Prop) (K40 : Int32 → Hp → Prop) (y1 : Int32) (y2 : Int32) (y3 : Int32) (σ : Hp) : Prop :=
  kb y2 (y3 + 1) σ
def L_X8_silent_9 (Q : Int32 → Hp → Prop) (K51 : Hp → Prop) (K40 : Int32 → Hp → Prop) (y1 : Int32) : Nat → Int32 → Int32 → Hp → Prop
  | 0, _, _, _ => False
  | n + 1, y2, y3, σ =>
  (((gI σ 8 0 14) = 0 → K51 σ) ∧ (¬ (gI σ 8 0 14) = 0 → vp_in 6 7 ∧ (((gI σ 53 0 (ix 6)) ≤ y3 → K51 σ) ∧ (¬ (gI σ 53 0 (ix 6)) ≤ y3 → S_X8_isSilent y3 σ (fun r3 σ2 => ((r3 = 0 → J_X8_silent_45 Q (L_X8_silent_9 Q K51 K40 y1 n) K51 K40 y1 y2 y3 σ2) ∧ (¬ r3 = 0 → ((¬ y2 = y1 → J_X8_silent_45 Q (L_X8_silent_9 Q K51 K40 y1 n) K51 K40 y1 (y2 + 1) y3 σ2) ∧ (y2 = y1 → K40 y3 σ2)))))))))
def S_X8_silent (x1 : Int32) (σ : Hp) (Q : Int32 → Hp → Prop) : Prop :=
  ∀ σ1, σ1 = sI σ 8 0 0 0 → (∃ n4, L_X8_silent_9 Q (fun σ5 => ∀ σ6, σ6 = sI σ5 8 0 0 1 → Q 0 σ6) (fun w8 σ7 => Q w8 σ7) x1 n4 0 0 σ1)
set_option maxHeartbeats 2000000 in
set_option maxRecDepth 20000 in
theorem ok_X8_silent (l : Launch) (g : Gm) (x1 : Int32) (σ : Hp) (Q : Int32 → Hp → Prop) (h : S_X8_silent x1 σ Q) : Ct l g yX8_silent cX8_silent 4 (some .int) 2 [.ref (gad g 8 0), .int x1] σ (QI Q) := by
  refine Ct.of (by decide +kernel) (Nat.le_of_ble_eq_true rfl) ?_
  intro p e R s m args below meth c C
  have C : Cx g p R s m args meth c cX8_silent 4 RX8 (some .int) 2 := C
  have j45 : ∀ (kb : Int32 → Int32 → Hp → Prop) (K51 : Hp → Prop) (K40 : Int32 → Hp → Prop) (y1 : Int32) (y2 : Int32) (y3 : Int32) (hkb : ∀ (v2 : Int32) (v3 : Int32) (σ : Hp), kb v2 v3 σ → G g p l e R s m args below meth c (QI Q) 4 9 [(0, .ref (gad g 8 0)), (1, .int y1), (2, .int v2), (3, .int v3)] [] σ) (hK51 : ∀ (σ : Hp), K51 σ → G g p l e R s m args below meth c (QI Q) 4 51 [(0, .ref (gad g 8 0))] [] σ) (hK40 : ∀ (v3 : Int32) (σ : Hp), K40 v3 σ → G g p l e R s m args below meth c (QI Q) 4 40 [(3, .int v3)] [] σ) (σ : Hp), J_X8_silent_45 Q kb K51 K40 y1 y2 y3 σ → G g p l e R s m args below meth c (QI Q) 4 45 [(0, .ref (gad g 8 0)), (1, .int y1), (2, .int y2), (3, .int y3)] [] σ := by
    intro kb K51 K40 y1 y2 y3 hkb hK51 hK40 σ h
    unfold J_X8_silent_45 at h
    refine r_iinc (v := y3 + 1) C dX8_silent_45 3 rfl rfl (Nat.le_of_ble_eq_true rfl) rfl ?_
    refine r_goto (tgt := 9) C dX8_silent_48 rfl ?_
    refine r_sub [1, 2, 3, 0] rfl ?_
    exact hkb _ _ _ h
  have l9 : ∀ (K51 : Hp → Prop) (K40 : Int32 → Hp → Prop) (y1 : Int32) (hK51 : ∀ (σ : Hp), K51 σ → G g p l e R s m args below meth c (QI Q) 4 51 [(0, .ref (gad g 8 0))] [] σ) (hK40 : ∀ (v3 : Int32) (σ : Hp), K40 v3 σ → G g p l e R s m args below meth c (QI Q) 4 40 [(3, .int v3)] [] σ) (n : Nat) (y2 : Int32) (y3 : Int32) (σ : Hp), L_X8_silent_9 Q K51 K40 y1 n y2 y3 σ → G g p l e R s m args below meth c (QI Q) 4 9 [(0, .ref (gad g 8 0)), (1, .int y1), (2, .int y2), (3, .int y3)] [] σ := by
    intro K51 K40 y1 hK51 hK40 n
    induction n with
    | zero => intro y2 y3 σ h; exact False.elim h
    | succ n ih =>
      intro y2 y3 σ h
      unfold L_X8_silent_9 at h
      refine r_aload_n C dX8_silent_9 rfl 0 rfl ?_
      refine gf_8_212 C dX8_silent_10 (cn_8 (by decide)) ?_
      refine r_if_eq (tgt := 51) C dX8_silent_13 rfl (fun q => ?_) (fun q => ?_)
      · have h := h.1 q
        refine r_sub [0] rfl ?_
        exact hK51 _ h
      · have h := h.2 q
        refine r_iload_n C dX8_silent_16 rfl 3 rfl ?_
        refine r_aload_n C dX8_silent_17 rfl 0 rfl ?_
        refine gf_8_17 C dX8_silent_18 (cn_8 (by decide)) ?_
        refine r_bipush C dX8_silent_21 bi_6 ?_
        obtain ⟨h0, h⟩ := h
        refine r_iaload C dX8_silent_23 ak_53 (cn_53 (by decide)) al_53 h0 ?_
        refine r_icmp_ge (tgt := 51) C dX8_silent_24 rfl (fun q => ?_) (fun q => ?_)
        · have h := h.1 q
          refine r_sub [0] rfl ?_
          exact hK51 _ h
        · have h := h.2 q
          refine r_aload_n C dX8_silent_27 rfl 0 rfl ?_
          refine r_iload_n C dX8_silent_28 rfl 3 rfl ?_
          refine r_callVi [] C dX8_silent_29 w_8_360 (ok_X8_isSilent l g _ _ _ h) (Nat.le_of_ble_eq_true rfl) rfl rfl ak_8 (cn_8 (by decide)) rfl rfl (Nat.le_of_ble_eq_true rfl) (fun r3 σ2 h => ?_)
          refine r_if_eq (tgt := 45) C dX8_silent_32 rfl (fun q => ?_) (fun q => ?_)
          · have h := h.1 q
            exact j45 _ _ _ _ _ _ ih hK51 hK40 _ h
          · have h := h.2 q
            refine r_iload_n C dX8_silent_35 rfl 2 rfl ?_
            refine r_iload_n C dX8_silent_36 rfl 1 rfl ?_
            refine r_icmp_ne (tgt := 42) C dX8_silent_37 rfl (fun q => ?_) (fun q => ?_)
            · have h := h.1 q
              refine r_iinc (v := y2 + 1) C dX8_silent_42 2 rfl rfl (Nat.le_of_ble_eq_true rfl) rfl ?_
              refine r_sub [1, 2, 0, 3] rfl ?_
              exact j45 _ _ _ _ _ _ ih hK51 hK40 _ h
            · have h := h.2 q
              refine r_sub [3] rfl ?_
              exact hK40 _ _ h
  unfold S_X8_silent at h
  show G g p l e R s m args below meth c (QI Q) 4 0 [(0, .ref (gad g 8 0)), (1, .int x1)] [] σ
  refine r_aload_n C dX8_silent_0 rfl 0 rfl ?_
  refine r_iconst C dX8_silent_1 ic_0 ?_
  refine pf_8_51 C dX8_silent_2 (cn_8 (by decide)) ?_
  have h := h _ rfl
  refine r_iconst C dX8_silent_5 ic_0 ?_
  refine r_istore_n C dX8_silent_6 rfl (Nat.le_of_ble_eq_true rfl) rfl ?_
  refine r_iconst C dX8_silent_7 ic_0 ?_
  refine r_istore_n C dX8_silent_8 rfl (Nat.le_of_ble_eq_true rfl) rfl ?_
  refine r_sub [2, 3, 1, 0] rfl ?_
  obtain ⟨n4, h⟩ := h
  refine l9 _ _ _ (fun σ5 h => ?_) (fun w8 σ7 h => ?_) n4 _ _ _ h
  · refine r_aload_n C dX8_silent_51 rfl 0 rfl ?_
    refine r_iconst C dX8_silent_52 ic_1 ?_
    refine pf_8_51 C dX8_silent_53 (cn_8 (by decide)) ?_
    have h := h _ rfl
    refine r_iconst C dX8_silent_56 ic_0 ?_
    exact r_ireturn C dX8_silent_57 ⟨_, rfl, h⟩
  · refine r_iload_n C dX8_silent_40 rfl 0 rfl ?_
    exact r_ireturn C dX8_silent_41 ⟨_, rfl, h⟩
def L_X8_receiverMany_4 (Q : Int32 → Hp → Prop) (K30 : Int32 → Hp → Prop) : Nat → Int32 → Int32 → Hp → Prop
  | 0, _, _, _ => False
  | n + 1, y1, y2, σ =>
  vp_in 6 7 ∧ (((gI σ 53 0 (ix 6)) ≤ y2 → K30 y1 σ) ∧ (¬ (gI σ 53 0 (ix 6)) ≤ y2 → S_X8_linkOf y2 3 σ (fun r2 σ1 => L_X8_receiverMany_4 Q K30 n (y1 + r2) (y2 + 1) σ1)))
def S_X8_receiverMany (σ : Hp) (Q : Int32 → Hp → Prop) : Prop :=
  (∃ n3, L_X8_receiverMany_4 Q (fun w5 σ4 => Q w5 σ4) n3 0 0 σ)
set_option maxHeartbeats 2000000 in
set_option maxRecDepth 20000 in
theorem ok_X8_receiverMany (l : Launch) (g : Gm) (σ : Hp) (Q : Int32 → Hp → Prop) (h : S_X8_receiverMany σ Q) : Ct l g yX8_receiverMany cX8_receiverMany 3 (some .int) 1 [.ref (gad g 8 0)] σ (QI Q) := by
  refine Ct.of (by decide +kernel) (Nat.le_of_ble_eq_true rfl) ?_
  intro p e R s m args below meth c C
  have C : Cx g p R s m args meth c cX8_receiverMany 3 RX8 (some .int) 1 := C
  have l4 : ∀ (K30 : Int32 → Hp → Prop) (hK30 : ∀ (v1 : Int32) (σ : Hp), K30 v1 σ → G g p l e R s m args below meth c (QI Q) 3 30 [(1, .int v1)] [] σ) (n : Nat) (y1 : Int32) (y2 : Int32) (σ : Hp), L_X8_receiverMany_4 Q K30 n y1 y2 σ → G g p l e R s m args below meth c (QI Q) 3 4 [(0, .ref (gad g 8 0)), (1, .int y1), (2, .int y2)] [] σ := by
    intro K30 hK30 n
    induction n with
    | zero => intro y1 y2 σ h; exact False.elim h
    | succ n ih =>
      intro y1 y2 σ h
      unfold L_X8_receiverMany_4 at h
      refine r_iload_n C dX8_receiverMany_4 rfl 2 rfl ?_
      refine r_aload_n C dX8_receiverMany_5 rfl 0 rfl ?_
      refine gf_8_17 C dX8_receiverMany_6 (cn_8 (by decide)) ?_
      refine r_bipush C dX8_receiverMany_9 bi_6 ?_
      obtain ⟨h0, h⟩ := h
      refine r_iaload C dX8_receiverMany_11 ak_53 (cn_53 (by decide)) al_53 h0 ?_
      refine r_icmp_ge (tgt := 30) C dX8_receiverMany_12 rfl (fun q => ?_) (fun q => ?_)
      · have h := h.1 q
        refine r_sub [1] rfl ?_
        exact hK30 _ _ h
      · have h := h.2 q
        refine r_iload_n C dX8_receiverMany_15 rfl 1 rfl ?_
        refine r_aload_n C dX8_receiverMany_16 rfl 0 rfl ?_
        refine r_iload_n C dX8_receiverMany_17 rfl 2 rfl ?_
        refine r_iconst C dX8_receiverMany_18 ic_3 ?_
        refine r_callVi [.int _] C dX8_receiverMany_19 w_8_221 (ok_X8_linkOf l g _ _ _ _ h) (Nat.le_of_ble_eq_true rfl) rfl rfl ak_8 (cn_8 (by decide)) rfl rfl (Nat.le_of_ble_eq_true rfl) (fun r2 σ1 h => ?_)
        refine r_iadd C dX8_receiverMany_22 ?_
        refine r_istore_n C dX8_receiverMany_23 rfl (Nat.le_of_ble_eq_true rfl) rfl ?_
        refine r_iinc (v := y2 + 1) C dX8_receiverMany_24 2 rfl rfl (Nat.le_of_ble_eq_true rfl) rfl ?_
        refine r_goto (tgt := 4) C dX8_receiverMany_27 rfl ?_
        refine r_sub [2, 1, 0] rfl ?_
        exact ih _ _ _ h
  unfold S_X8_receiverMany at h
  show G g p l e R s m args below meth c (QI Q) 3 0 [(0, .ref (gad g 8 0))] [] σ
  refine r_iconst C dX8_receiverMany_0 ic_0 ?_
  refine r_istore_n C dX8_receiverMany_1 rfl (Nat.le_of_ble_eq_true rfl) rfl ?_
  refine r_iconst C dX8_receiverMany_2 ic_0 ?_
  refine r_istore_n C dX8_receiverMany_3 rfl (Nat.le_of_ble_eq_true rfl) rfl ?_
  refine r_sub [2, 1, 0] rfl ?_
  obtain ⟨n3, h⟩ := h
  refine l4 _ (fun w5 σ4 h => ?_) n3 _ _ _ h
  refine r_iload_n C dX8_receiverMany_30 rfl 0 rfl ?_
  exact r_ireturn C dX8_receiverMany_31 ⟨_, rfl, h⟩
def S_X8_size (x1 : Int32) (σ : Hp) (Q : Int32 → Hp → Prop) : Prop :=
  ∀ σ1, σ1 = sI σ 8 0 0 0 → ((x1 = 0 → Q (gI σ1 8 0 5) σ1) ∧ (x1 = 1 → S_X8_receiverMany σ1 (fun r3 σ2 => Q r3 σ2)) ∧ (x1 = 2 → S_X8_waitingMany σ1 (fun r5 σ4 => Q r5 σ4)) ∧ (x1 = 3 → S_X8_frameMany σ1 (fun r7 σ6 => Q r7 σ6)) ∧ (x1 = 4 → (((gI σ1 8 0 27) = 0 → Q 0 σ1) ∧ (¬ (gI σ1 8 0 27) = 0 → Q 1 σ1))) ∧ (¬ x1 = 0 → ¬ x1 = 1 → ¬ x1 = 2 → ¬ x1 = 3 → ¬ x1 = 4 → Q (-1) σ1))
set_option maxHeartbeats 2000000 in
set_option maxRecDepth 20000 in
theorem ok_X8_size (l : Launch) (g : Gm) (x1 : Int32) (σ : Hp) (Q : Int32 → Hp → Prop) (h : S_X8_size x1 σ Q) : Ct l g yX8_size cX8_size 2 (some .int) 2 [.ref (gad g 8 0), .int x1] σ (QI Q) := by
  refine Ct.of (by decide +kernel) (Nat.le_of_ble_eq_true rfl) ?_
  intro p e R s m args below meth c C
  have C : Cx g p R s m args meth c cX8_size 2 RX8 (some .int) 2 := C
  unfold S_X8_size at h
  show G g p l e R s m args below meth c (QI Q) 2 0 [(0, .ref (gad g 8 0)), (1, .int x1)] [] σ
  refine r_aload_n C dX8_size_0 rfl 0 rfl ?_
  refine r_iconst C dX8_size_1 ic_0 ?_
  refine pf_8_51 C dX8_size_2 (cn_8 (by decide)) ?_
  have h := h _ rfl
  refine r_iload_n C dX8_size_5 rfl 1 rfl ?_
  obtain ⟨h0, h1, h2, h3, h4, h⟩ := h
  by_cases q0 : x1 = 0
  · have h := h0 q0
    refine r_tableIn (off := 34) (tgt := 40) C dX8_size_6 (by rw [q0]; decide) (by rw [q0]; decide) (by rw [q0]; rfl) rfl ?_
    refine r_aload_n C dX8_size_40 rfl 0 rfl ?_
    refine gf_8_57 C dX8_size_41 (cn_8 (by decide)) ?_
    exact r_ireturn C dX8_size_44 ⟨_, rfl, h⟩
  by_cases q1 : x1 = 1
  · have h := h1 q1
    refine r_tableIn (off := 39) (tgt := 45) C dX8_size_6 (by rw [q1]; decide) (by rw [q1]; decide) (by rw [q1]; rfl) rfl ?_
    refine r_aload_n C dX8_size_45 rfl 0 rfl ?_
    refine r_callVi [] C dX8_size_46 w_8_363 (ok_X8_receiverMany l g _ _ h) (Nat.le_of_ble_eq_true rfl) rfl rfl ak_8 (cn_8 (by decide)) rfl rfl (Nat.le_of_ble_eq_true rfl) (fun r3 σ2 h => ?_)
    exact r_ireturn C dX8_size_49 ⟨_, rfl, h⟩
  by_cases q2 : x1 = 2
  · have h := h2 q2
    refine r_tableIn (off := 44) (tgt := 50) C dX8_size_6 (by rw [q2]; decide) (by rw [q2]; decide) (by rw [q2]; rfl) rfl ?_
    refine r_aload_n C dX8_size_50 rfl 0 rfl ?_
    refine r_callVi [] C dX8_size_51 w_8_354 (ok_X8_waitingMany l g _ _ h) (Nat.le_of_ble_eq_true rfl) rfl rfl ak_8 (cn_8 (by decide)) rfl rfl (Nat.le_of_ble_eq_true rfl) (fun r5 σ4 h => ?_)
    exact r_ireturn C dX8_size_54 ⟨_, rfl, h⟩
  by_cases q3 : x1 = 3
  · have h := h3 q3
    refine r_tableIn (off := 49) (tgt := 55) C dX8_size_6 (by rw [q3]; decide) (by rw [q3]; decide) (by rw [q3]; rfl) rfl ?_
    refine r_aload_n C dX8_size_55 rfl 0 rfl ?_
    refine r_callVi [] C dX8_size_56 w_8_357 (ok_X8_frameMany l g _ _ h) (Nat.le_of_ble_eq_true rfl) rfl rfl ak_8 (cn_8 (by decide)) rfl rfl (Nat.le_of_ble_eq_true rfl) (fun r7 σ6 h => ?_)
    exact r_ireturn C dX8_size_59 ⟨_, rfl, h⟩
  by_cases q4 : x1 = 4
  · have h := h4 q4
    refine r_tableIn (off := 54) (tgt := 60) C dX8_size_6 (by rw [q4]; decide) (by rw [q4]; decide) (by rw [q4]; rfl) rfl ?_
    refine r_aload_n C dX8_size_60 rfl 0 rfl ?_
    refine gf_8_215 C dX8_size_61 (cn_8 (by decide)) ?_
    refine r_if_eq (tgt := 71) C dX8_size_64 rfl (fun q => ?_) (fun q => ?_)
    · have h := h.1 q
      refine r_iconst C dX8_size_71 ic_0 ?_
      exact r_ireturn C dX8_size_72 ⟨_, rfl, h⟩
    · have h := h.2 q
      refine r_iconst C dX8_size_67 ic_1 ?_
      refine r_goto (tgt := 72) C dX8_size_68 rfl ?_
      exact r_ireturn C dX8_size_72 ⟨_, rfl, h⟩
  have h := h q0 q1 q2 q3 q4
  refine r_tableOut (tgt := 73) C dX8_size_6 (sw_out4 q0 q1 q2 q3 q4) rfl ?_
  refine r_iconst C dX8_size_73 ic_m1 ?_
  exact r_ireturn C dX8_size_74 ⟨_, rfl, h⟩
def S_X8_trouble (σ : Hp) (Q : Int32 → Hp → Prop) : Prop :=
  ∀ σ1, σ1 = sI σ 8 0 0 0 → Q (gI σ1 8 0 1) σ1
set_option maxHeartbeats 2000000 in
set_option maxRecDepth 20000 in
theorem ok_X8_trouble (l : Launch) (g : Gm) (σ : Hp) (Q : Int32 → Hp → Prop) (h : S_X8_trouble σ Q) : Ct l g yX8_trouble cX8_trouble 1 (some .int) 0 [.ref (gad g 8 0)] σ (QI Q) := by
  refine Ct.of (by decide +kernel) (Nat.le_of_ble_eq_true rfl) ?_
  intro p e R s m args below meth c C
  have C : Cx g p R s m args meth c cX8_trouble 1 RX8 (some .int) 0 := C
  unfold S_X8_trouble at h
  show G g p l e R s m args below meth c (QI Q) 1 0 [(0, .ref (gad g 8 0))] [] σ
  refine r_aload_n C dX8_trouble_0 rfl 0 rfl ?_
  refine r_iconst C dX8_trouble_1 ic_0 ?_
  refine pf_8_51 C dX8_trouble_2 (cn_8 (by decide)) ?_
  have h := h _ rfl
  refine r_aload_n C dX8_trouble_5 rfl 0 rfl ?_
  refine gf_8_54 C dX8_trouble_6 (cn_8 (by decide)) ?_
  exact r_ireturn C dX8_trouble_9 ⟨_, rfl, h⟩
