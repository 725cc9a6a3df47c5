def dfX0 : List Value := [.int 0, .null, .null, .null, .null, .null, .null, .null, .null, .null, .null]
def dfX1 : List Value := [.int 0, .null, .null, .null]
def dfX2 : List Value := [.int 0, .int 0, .int 0, .int 0, .int 0, .int 0, .int 0, .null, .null, .null, .null, .null, .null, .null, .null, .null]
def dfX3 : List Value := [.int 0, .null, .null, .null, .null, .null, .null, .null]
def dfX4 : List Value := [.null, .int 0, .null, .int 0, .int 0, .int 0, .int 0, .long 0, .int 0, .int 0, .int 0, .int 0]
def dfX5 : List Value := [.int 0, .null, .null, .null, .null, .null, .null, .null, .null, .null, .null, .null]
def dfX6 : List Value := [.null, .null, .null, .null, .null]
def dfX7 : List Value := [.null, .null, .null, .null, .null, .null, .int 0, .int 0, .int 0, .int 0]
def dfX8 : List Value := [.int 0, .int 0, .int 0, .int 0, .null, .int 0, .null, .null, .null, .null, .null, .null, .null, .null, .int 0, .int 0, .int 0, .int 0, .int 0, .int 0, .long 0, .int 0, .int 0, .int 0, .null, .null, .null, .int 0, .int 0]
theorem dfX0_ok : ∀ j, j < 11 → defaultValue (tyX0 j) = vp_V dfX0 j := by
  intro j hj
  match j, hj with
  | 0, _ => rfl
  | 1, _ => rfl
  | 2, _ => rfl
  | 3, _ => rfl
  | 4, _ => rfl
  | 5, _ => rfl
  | 6, _ => rfl
  | 7, _ => rfl
  | 8, _ => rfl
  | 9, _ => rfl
  | 10, _ => rfl
  | j + 11, h => exact absurd h (by omega)
theorem dfX1_ok : ∀ j, j < 4 → defaultValue (tyX1 j) = vp_V dfX1 j := by
  intro j hj
  match j, hj with
  | 0, _ => rfl
  | 1, _ => rfl
  | 2, _ => rfl
  | 3, _ => rfl
  | j + 4, h => exact absurd h (by omega)
theorem dfX2_ok : ∀ j, j < 16 → defaultValue (tyX2 j) = vp_V dfX2 j := by
  intro j hj
  match j, hj with
  | 0, _ => rfl
  | 1, _ => rfl
  | 2, _ => rfl
  | 3, _ => rfl
  | 4, _ => rfl
  | 5, _ => rfl
  | 6, _ => rfl
  | 7, _ => rfl
  | 8, _ => rfl
  | 9, _ => rfl
  | 10, _ => rfl
  | 11, _ => rfl
  | 12, _ => rfl
  | 13, _ => rfl
  | 14, _ => rfl
  | 15, _ => rfl
  | j + 16, h => exact absurd h (by omega)
theorem dfX3_ok : ∀ j, j < 8 → defaultValue (tyX3 j) = vp_V dfX3 j := by
  intro j hj
  match j, hj with
  | 0, _ => rfl
  | 1, _ => rfl
  | 2, _ => rfl
  | 3, _ => rfl
  | 4, _ => rfl
  | 5, _ => rfl
  | 6, _ => rfl
  | 7, _ => rfl
  | j + 8, h => exact absurd h (by omega)
theorem dfX4_ok : ∀ j, j < 12 → defaultValue (tyX4 j) = vp_V dfX4 j := by
  intro j hj
  match j, hj with
  | 0, _ => rfl
  | 1, _ => rfl
  | 2, _ => rfl
  | 3, _ => rfl
  | 4, _ => rfl
  | 5, _ => rfl
  | 6, _ => rfl
  | 7, _ => rfl
  | 8, _ => rfl
  | 9, _ => rfl
  | 10, _ => rfl
  | 11, _ => rfl
  | j + 12, h => exact absurd h (by omega)
theorem dfX5_ok : ∀ j, j < 12 → defaultValue (tyX5 j) = vp_V dfX5 j := by
  intro j hj
  match j, hj with
  | 0, _ => rfl
  | 1, _ => rfl
  | 2, _ => rfl
  | 3, _ => rfl
  | 4, _ => rfl
  | 5, _ => rfl
  | 6, _ => rfl
  | 7, _ => rfl
  | 8, _ => rfl
  | 9, _ => rfl
  | 10, _ => rfl
  | 11, _ => rfl
  | j + 12, h => exact absurd h (by omega)
theorem dfX6_ok : ∀ j, j < 5 → defaultValue (tyX6 j) = vp_V dfX6 j := by
  intro j hj
  match j, hj with
  | 0, _ => rfl
  | 1, _ => rfl
  | 2, _ => rfl
  | 3, _ => rfl
  | 4, _ => rfl
  | j + 5, h => exact absurd h (by omega)
theorem dfX7_ok : ∀ j, j < 10 → defaultValue (tyX7 j) = vp_V dfX7 j := by
  intro j hj
  match j, hj with
  | 0, _ => rfl
  | 1, _ => rfl
  | 2, _ => rfl
  | 3, _ => rfl
  | 4, _ => rfl
  | 5, _ => rfl
  | 6, _ => rfl
  | 7, _ => rfl
  | 8, _ => rfl
  | 9, _ => rfl
  | j + 10, h => exact absurd h (by omega)
theorem dfX8_ok : ∀ j, j < 29 → defaultValue (tyX8 j) = vp_V dfX8 j := by
  intro j hj
  match j, hj with
  | 0, _ => rfl
  | 1, _ => rfl
  | 2, _ => rfl
  | 3, _ => rfl
  | 4, _ => rfl
  | 5, _ => rfl
  | 6, _ => rfl
  | 7, _ => rfl
  | 8, _ => rfl
  | 9, _ => rfl
  | 10, _ => rfl
  | 11, _ => rfl
  | 12, _ => rfl
  | 13, _ => rfl
  | 14, _ => rfl
  | 15, _ => rfl
  | 16, _ => rfl
  | 17, _ => rfl
  | 18, _ => rfl
  | 19, _ => rfl
  | 20, _ => rfl
  | 21, _ => rfl
  | 22, _ => rfl
  | 23, _ => rfl
  | 24, _ => rfl
  | 25, _ => rfl
  | 26, _ => rfl
  | 27, _ => rfl
  | 28, _ => rfl
  | j + 29, h => exact absurd h (by omega)
def nmN0 (i : Nat) : List (Nat × Nat) := [(0, i), (9, i), (10, i), (11, i), (12, i), (13, i), (14, i), (15, i), (16, i), (17, i), (18, i)]
set_option maxRecDepth 20000 in
set_option maxHeartbeats 4000000 in
theorem ok_X0_init (l : Launch) (g : Gm) (i : Nat) : Cn l g yX0_init cX0_init 1 10 480 0 i dfX0 (nmN0 i) := by
  refine Cn.of rfl rfl ?_
  intro p e R s m args below meth c h0 C hlt
  show JN g p l e R s m args below meth c h0 _ 0 [] [(h0, .inr (0, [.int 0, .null, .null, .null, .null, .null, .null, .null, .null, .null, .null]))] 0 0
  refine n_init C (Nat.le_of_ble_eq_true rfl) dX0_init_0 dX0_init_1 u2_49 u1_30 u1_31 ?_
  refine n_aload C dX0_init_4 ?_
  refine n_iconst (v := 0) C dX0_init_5 rfl ?_
  refine n_put (j := 0) (ty := .int) C dX0_init_6 rfl inU0 tyX0 tyX0_ok nmX0 (by decide) u2_50 rfl (by decide +kernel) rfl rfl (Nat.le_of_ble_eq_true rfl) ?_
  refine n_aload C dX0_init_9 ?_
  refine n_bipush (v := 24) C dX0_init_10 (by decide) ?_
  refine n_arrI (N := 24) C dX0_init_12 u1_72 (by decide) (by decide) (Nat.le_of_ble_eq_true rfl) (Nat.le_of_ble_eq_true rfl) (Nat.le_of_ble_eq_true rfl) (fun q0 => ?_)
  refine n_putF (j := 1) (ty := .array .int) C dX0_init_14 rfl inU0 tyX0 tyX0_ok nmX0 (by decide) u2_52 rfl rfl (by decide +kernel) rfl rfl (Nat.le_of_ble_eq_true rfl) ?_
  refine n_aload C dX0_init_17 ?_
  refine n_bipush (v := 24) C dX0_init_18 (by decide) ?_
  refine n_arrI (N := 24) C dX0_init_20 u1_72 (by decide) (by decide) (Nat.le_of_ble_eq_true rfl) (Nat.le_of_ble_eq_true rfl) (Nat.le_of_ble_eq_true rfl) (fun q1 => ?_)
  refine n_putF (j := 2) (ty := .array .int) C dX0_init_22 rfl inU0 tyX0 tyX0_ok nmX0 (by decide) u2_53 rfl rfl (by decide +kernel) rfl rfl (Nat.le_of_ble_eq_true rfl) ?_
  refine n_aload C dX0_init_25 ?_
  refine n_bipush (v := 24) C dX0_init_26 (by decide) ?_
  refine n_arrI (N := 24) C dX0_init_28 u1_72 (by decide) (by decide) (Nat.le_of_ble_eq_true rfl) (Nat.le_of_ble_eq_true rfl) (Nat.le_of_ble_eq_true rfl) (fun q2 => ?_)
  refine n_putF (j := 3) (ty := .array .int) C dX0_init_30 rfl inU0 tyX0 tyX0_ok nmX0 (by decide) u2_54 rfl rfl (by decide +kernel) rfl rfl (Nat.le_of_ble_eq_true rfl) ?_
  refine n_aload C dX0_init_33 ?_
  refine n_bipush (v := 24) C dX0_init_34 (by decide) ?_
  refine n_arrI (N := 24) C dX0_init_36 u1_72 (by decide) (by decide) (Nat.le_of_ble_eq_true rfl) (Nat.le_of_ble_eq_true rfl) (Nat.le_of_ble_eq_true rfl) (fun q3 => ?_)
  refine n_putF (j := 4) (ty := .array .int) C dX0_init_38 rfl inU0 tyX0 tyX0_ok nmX0 (by decide) u2_55 rfl rfl (by decide +kernel) rfl rfl (Nat.le_of_ble_eq_true rfl) ?_
  refine n_aload C dX0_init_41 ?_
  refine n_bipush (v := 24) C dX0_init_42 (by decide) ?_
  refine n_arrI (N := 24) C dX0_init_44 u1_72 (by decide) (by decide) (Nat.le_of_ble_eq_true rfl) (Nat.le_of_ble_eq_true rfl) (Nat.le_of_ble_eq_true rfl) (fun q4 => ?_)
  refine n_putF (j := 5) (ty := .array .int) C dX0_init_46 rfl inU0 tyX0 tyX0_ok nmX0 (by decide) u2_56 rfl rfl (by decide +kernel) rfl rfl (Nat.le_of_ble_eq_true rfl) ?_
  refine n_aload C dX0_init_49 ?_
  refine n_bipush (v := 24) C dX0_init_50 (by decide) ?_
  refine n_arrI (N := 24) C dX0_init_52 u1_72 (by decide) (by decide) (Nat.le_of_ble_eq_true rfl) (Nat.le_of_ble_eq_true rfl) (Nat.le_of_ble_eq_true rfl) (fun q5 => ?_)
  refine n_putF (j := 6) (ty := .array .int) C dX0_init_54 rfl inU0 tyX0 tyX0_ok nmX0 (by decide) u2_57 rfl rfl (by decide +kernel) rfl rfl (Nat.le_of_ble_eq_true rfl) ?_
  refine n_aload C dX0_init_57 ?_
  refine n_bipush (v := 24) C dX0_init_58 (by decide) ?_
  refine n_arrI (N := 24) C dX0_init_60 u1_72 (by decide) (by decide) (Nat.le_of_ble_eq_true rfl) (Nat.le_of_ble_eq_true rfl) (Nat.le_of_ble_eq_true rfl) (fun q6 => ?_)
  refine n_putF (j := 7) (ty := .array .int) C dX0_init_62 rfl inU0 tyX0 tyX0_ok nmX0 (by decide) u2_58 rfl rfl (by decide +kernel) rfl rfl (Nat.le_of_ble_eq_true rfl) ?_
  refine n_aload C dX0_init_65 ?_
  refine n_bipush (v := 24) C dX0_init_66 (by decide) ?_
  refine n_arrI (N := 24) C dX0_init_68 u1_72 (by decide) (by decide) (Nat.le_of_ble_eq_true rfl) (Nat.le_of_ble_eq_true rfl) (Nat.le_of_ble_eq_true rfl) (fun q7 => ?_)
  refine n_putF (j := 8) (ty := .array .int) C dX0_init_70 rfl inU0 tyX0 tyX0_ok nmX0 (by decide) u2_60 rfl rfl (by decide +kernel) rfl rfl (Nat.le_of_ble_eq_true rfl) ?_
  refine n_aload C dX0_init_73 ?_
  refine n_bipush (v := 48) C dX0_init_74 (by decide) ?_
  refine n_arrI (N := 48) C dX0_init_76 u1_72 (by decide) (by decide) (Nat.le_of_ble_eq_true rfl) (Nat.le_of_ble_eq_true rfl) (Nat.le_of_ble_eq_true rfl) (fun q8 => ?_)
  refine n_putF (j := 9) (ty := .array .int) C dX0_init_78 rfl inU0 tyX0 tyX0_ok nmX0 (by decide) u2_61 rfl rfl (by decide +kernel) rfl rfl (Nat.le_of_ble_eq_true rfl) ?_
  refine n_aload C dX0_init_81 ?_
  refine n_sipush (v := 240) C dX0_init_82 (by decide) ?_
  refine n_arrI (N := 240) C dX0_init_85 u1_72 (by decide) (by decide) (Nat.le_of_ble_eq_true rfl) (Nat.le_of_ble_eq_true rfl) (Nat.le_of_ble_eq_true rfl) (fun q9 => ?_)
  refine n_putF (j := 10) (ty := .array .int) C dX0_init_87 rfl inU0 tyX0 tyX0_ok nmX0 (by decide) u2_63 rfl rfl (by decide +kernel) rfl rfl (Nat.le_of_ble_eq_true rfl) ?_
  exact n_ret C dX0_init_90 (Nat.le_of_ble_eq_true rfl) (Nat.le_of_ble_eq_true rfl) (fun x y => (bif Nat.beq x 0 then h0 else (bif Nat.beq x 9 then q0 else (bif Nat.beq x 10 then q1 else (bif Nat.beq x 11 then q2 else (bif Nat.beq x 12 then q3 else (bif Nat.beq x 13 then q4 else (bif Nat.beq x 14 then q5 else (bif Nat.beq x 15 then q6 else (bif Nat.beq x 16 then q7 else (bif Nat.beq x 17 then q8 else (bif Nat.beq x 18 then q9 else 0)))))))))))) rfl rfl
def nmN3 (i : Nat) : List (Nat × Nat) := [(3, i), (30, i), (31, i), (32, i), (33, i), (34, i), (35, i), (36, i)]
set_option maxRecDepth 20000 in
set_option maxHeartbeats 4000000 in
theorem ok_X3_init (l : Launch) (g : Gm) (i : Nat) : Cn l g yX3_init cX3_init 1 7 1280 3 i dfX3 (nmN3 i) := by
  refine Cn.of rfl rfl ?_
  intro p e R s m args below meth c h0 C hlt
  show JN g p l e R s m args below meth c h0 _ 0 [] [(h0, .inr (3, [.int 0, .null, .null, .null, .null, .null, .null, .null]))] 0 0
  refine n_init C (Nat.le_of_ble_eq_true rfl) dX3_init_0 dX3_init_1 u2_5 u1_30 u1_31 ?_
  refine n_aload C dX3_init_4 ?_
  refine n_iconst (v := 0) C dX3_init_5 rfl ?_
  refine n_put (j := 0) (ty := .int) C dX3_init_6 rfl inU3 tyX3 tyX3_ok nmX3 (by decide) u2_6 rfl (by decide +kernel) rfl rfl (Nat.le_of_ble_eq_true rfl) ?_
  refine n_aload C dX3_init_9 ?_
  refine n_bipush (v := 32) C dX3_init_10 (by decide) ?_
  refine n_arrI (N := 32) C dX3_init_12 u1_72 (by decide) (by decide) (Nat.le_of_ble_eq_true rfl) (Nat.le_of_ble_eq_true rfl) (Nat.le_of_ble_eq_true rfl) (fun q0 => ?_)
  refine n_putF (j := 1) (ty := .array .int) C dX3_init_14 rfl inU3 tyX3 tyX3_ok nmX3 (by decide) u2_9 rfl rfl (by decide +kernel) rfl rfl (Nat.le_of_ble_eq_true rfl) ?_
  refine n_aload C dX3_init_17 ?_
  refine n_bipush (v := 32) C dX3_init_18 (by decide) ?_
  refine n_arrI (N := 32) C dX3_init_20 u1_72 (by decide) (by decide) (Nat.le_of_ble_eq_true rfl) (Nat.le_of_ble_eq_true rfl) (Nat.le_of_ble_eq_true rfl) (fun q1 => ?_)
  refine n_putF (j := 2) (ty := .array .int) C dX3_init_22 rfl inU3 tyX3 tyX3_ok nmX3 (by decide) u2_12 rfl rfl (by decide +kernel) rfl rfl (Nat.le_of_ble_eq_true rfl) ?_
  refine n_aload C dX3_init_25 ?_
  refine n_bipush (v := 32) C dX3_init_26 (by decide) ?_
  refine n_arrI (N := 32) C dX3_init_28 u1_72 (by decide) (by decide) (Nat.le_of_ble_eq_true rfl) (Nat.le_of_ble_eq_true rfl) (Nat.le_of_ble_eq_true rfl) (fun q2 => ?_)
  refine n_putF (j := 3) (ty := .array .int) C dX3_init_30 rfl inU3 tyX3 tyX3_ok nmX3 (by decide) u2_13 rfl rfl (by decide +kernel) rfl rfl (Nat.le_of_ble_eq_true rfl) ?_
  refine n_aload C dX3_init_33 ?_
  refine n_bipush (v := 32) C dX3_init_34 (by decide) ?_
  refine n_arrI (N := 32) C dX3_init_36 u1_72 (by decide) (by decide) (Nat.le_of_ble_eq_true rfl) (Nat.le_of_ble_eq_true rfl) (Nat.le_of_ble_eq_true rfl) (fun q3 => ?_)
  refine n_putF (j := 4) (ty := .array .int) C dX3_init_38 rfl inU3 tyX3 tyX3_ok nmX3 (by decide) u2_16 rfl rfl (by decide +kernel) rfl rfl (Nat.le_of_ble_eq_true rfl) ?_
  refine n_aload C dX3_init_41 ?_
  refine n_sipush (v := 384) C dX3_init_42 (by decide) ?_
  refine n_arrI (N := 384) C dX3_init_45 u1_72 (by decide) (by decide) (Nat.le_of_ble_eq_true rfl) (Nat.le_of_ble_eq_true rfl) (Nat.le_of_ble_eq_true rfl) (fun q4 => ?_)
  refine n_putF (j := 5) (ty := .array .int) C dX3_init_47 rfl inU3 tyX3 tyX3_ok nmX3 (by decide) u2_18 rfl rfl (by decide +kernel) rfl rfl (Nat.le_of_ble_eq_true rfl) ?_
  refine n_aload C dX3_init_50 ?_
  refine n_sipush (v := 384) C dX3_init_51 (by decide) ?_
  refine n_arrI (N := 384) C dX3_init_54 u1_72 (by decide) (by decide) (Nat.le_of_ble_eq_true rfl) (Nat.le_of_ble_eq_true rfl) (Nat.le_of_ble_eq_true rfl) (fun q5 => ?_)
  refine n_putF (j := 6) (ty := .array .int) C dX3_init_56 rfl inU3 tyX3 tyX3_ok nmX3 (by decide) u2_21 rfl rfl (by decide +kernel) rfl rfl (Nat.le_of_ble_eq_true rfl) ?_
  refine n_aload C dX3_init_59 ?_
  refine n_sipush (v := 384) C dX3_init_60 (by decide) ?_
  refine n_arrI (N := 384) C dX3_init_63 u1_72 (by decide) (by decide) (Nat.le_of_ble_eq_true rfl) (Nat.le_of_ble_eq_true rfl) (Nat.le_of_ble_eq_true rfl) (fun q6 => ?_)
  refine n_putF (j := 7) (ty := .array .int) C dX3_init_65 rfl inU3 tyX3 tyX3_ok nmX3 (by decide) u2_24 rfl rfl (by decide +kernel) rfl rfl (Nat.le_of_ble_eq_true rfl) ?_
  exact n_ret C dX3_init_68 (Nat.le_of_ble_eq_true rfl) (Nat.le_of_ble_eq_true rfl) (fun x y => (bif Nat.beq x 3 then h0 else (bif Nat.beq x 30 then q0 else (bif Nat.beq x 31 then q1 else (bif Nat.beq x 32 then q2 else (bif Nat.beq x 33 then q3 else (bif Nat.beq x 34 then q4 else (bif Nat.beq x 35 then q5 else (bif Nat.beq x 36 then q6 else 0))))))))) rfl rfl
def nmN5 (i : Nat) : List (Nat × Nat) := [(5, i), (38, i), (39, i), (40, i), (41, i), (42, i), (43, i), (44, i), (45, i), (46, i)] ++ nmN3 i ++ nmN0 i
set_option maxRecDepth 20000 in
set_option maxHeartbeats 4000000 in
theorem ok_X5_init (l : Launch) (g : Gm) (i : Nat) : Cn l g yX5_init cX5_init 2 28 1859 5 i dfX5 (nmN5 i) := by
  refine Cn.of rfl rfl ?_
  intro p e R s m args below meth c h0 C hlt
  show JN g p l e R s m args below meth c h0 _ 0 [] [(h0, .inr (5, [.int 0, .null, .null, .null, .null, .null, .null, .null, .null, .null, .null, .null]))] 0 0
  refine n_init C (Nat.le_of_ble_eq_true rfl) dX5_init_0 dX5_init_1 u1_239 u1_30 u1_31 ?_
  refine n_aload C dX5_init_4 ?_
  refine n_iconst (v := 0) C dX5_init_5 rfl ?_
  refine n_put (j := 0) (ty := .int) C dX5_init_6 rfl inU5 tyX5 tyX5_ok nmX5 (by decide) u2_87 rfl (by decide +kernel) rfl rfl (Nat.le_of_ble_eq_true rfl) ?_
  refine n_aload C dX5_init_9 ?_
  refine n_iconst (v := 2) C dX5_init_10 rfl ?_
  refine n_arrI (N := 2) C dX5_init_11 u1_72 (by decide) (by decide) (Nat.le_of_ble_eq_true rfl) (Nat.le_of_ble_eq_true rfl) (Nat.le_of_ble_eq_true rfl) (fun q0 => ?_)
  refine n_putF (j := 1) (ty := .array .int) C dX5_init_13 rfl inU5 tyX5 tyX5_ok nmX5 (by decide) u2_89 rfl rfl (by decide +kernel) rfl rfl (Nat.le_of_ble_eq_true rfl) ?_
  refine n_aload C dX5_init_16 ?_
  refine n_bipush (v := 6) C dX5_init_17 (by decide) ?_
  refine n_arrI (N := 6) C dX5_init_19 u1_72 (by decide) (by decide) (Nat.le_of_ble_eq_true rfl) (Nat.le_of_ble_eq_true rfl) (Nat.le_of_ble_eq_true rfl) (fun q1 => ?_)
  refine n_putF (j := 2) (ty := .array .int) C dX5_init_21 rfl inU5 tyX5 tyX5_ok nmX5 (by decide) u2_91 rfl rfl (by decide +kernel) rfl rfl (Nat.le_of_ble_eq_true rfl) ?_
  refine n_aload C dX5_init_24 ?_
  refine n_bipush (v := 8) C dX5_init_25 (by decide) ?_
  refine n_arrI (N := 8) C dX5_init_27 u1_72 (by decide) (by decide) (Nat.le_of_ble_eq_true rfl) (Nat.le_of_ble_eq_true rfl) (Nat.le_of_ble_eq_true rfl) (fun q2 => ?_)
  refine n_putF (j := 3) (ty := .array .int) C dX5_init_29 rfl inU5 tyX5 tyX5_ok nmX5 (by decide) u2_93 rfl rfl (by decide +kernel) rfl rfl (Nat.le_of_ble_eq_true rfl) ?_
  refine n_aload C dX5_init_32 ?_
  refine n_bipush (v := 8) C dX5_init_33 (by decide) ?_
  refine n_arrI (N := 8) C dX5_init_35 u1_72 (by decide) (by decide) (Nat.le_of_ble_eq_true rfl) (Nat.le_of_ble_eq_true rfl) (Nat.le_of_ble_eq_true rfl) (fun q3 => ?_)
  refine n_putF (j := 4) (ty := .array .int) C dX5_init_37 rfl inU5 tyX5 tyX5_ok nmX5 (by decide) u2_95 rfl rfl (by decide +kernel) rfl rfl (Nat.le_of_ble_eq_true rfl) ?_
  refine n_aload C dX5_init_40 ?_
  refine n_bipush (v := 8) C dX5_init_41 (by decide) ?_
  refine n_arrI (N := 8) C dX5_init_43 u1_72 (by decide) (by decide) (Nat.le_of_ble_eq_true rfl) (Nat.le_of_ble_eq_true rfl) (Nat.le_of_ble_eq_true rfl) (fun q4 => ?_)
  refine n_putF (j := 5) (ty := .array .int) C dX5_init_45 rfl inU5 tyX5 tyX5_ok nmX5 (by decide) u2_97 rfl rfl (by decide +kernel) rfl rfl (Nat.le_of_ble_eq_true rfl) ?_
  refine n_aload C dX5_init_48 ?_
  refine n_bipush (v := 8) C dX5_init_49 (by decide) ?_
  refine n_arrI (N := 8) C dX5_init_51 u1_72 (by decide) (by decide) (Nat.le_of_ble_eq_true rfl) (Nat.le_of_ble_eq_true rfl) (Nat.le_of_ble_eq_true rfl) (fun q5 => ?_)
  refine n_putF (j := 6) (ty := .array .int) C dX5_init_53 rfl inU5 tyX5 tyX5_ok nmX5 (by decide) u2_99 rfl rfl (by decide +kernel) rfl rfl (Nat.le_of_ble_eq_true rfl) ?_
  refine n_aload C dX5_init_56 ?_
  refine n_bipush (v := 8) C dX5_init_57 (by decide) ?_
  refine n_arrI (N := 8) C dX5_init_59 u1_72 (by decide) (by decide) (Nat.le_of_ble_eq_true rfl) (Nat.le_of_ble_eq_true rfl) (Nat.le_of_ble_eq_true rfl) (fun q6 => ?_)
  refine n_putF (j := 7) (ty := .array .int) C dX5_init_61 rfl inU5 tyX5 tyX5_ok nmX5 (by decide) u2_101 rfl rfl (by decide +kernel) rfl rfl (Nat.le_of_ble_eq_true rfl) ?_
  refine n_aload C dX5_init_64 ?_
  refine n_bipush (v := 16) C dX5_init_65 (by decide) ?_
  refine n_arrI (N := 16) C dX5_init_67 u1_72 (by decide) (by decide) (Nat.le_of_ble_eq_true rfl) (Nat.le_of_ble_eq_true rfl) (Nat.le_of_ble_eq_true rfl) (fun q7 => ?_)
  refine n_putF (j := 8) (ty := .array .int) C dX5_init_69 rfl inU5 tyX5 tyX5_ok nmX5 (by decide) u2_103 rfl rfl (by decide +kernel) rfl rfl (Nat.le_of_ble_eq_true rfl) ?_
  refine n_aload C dX5_init_72 ?_
  refine n_bipush (v := 16) C dX5_init_73 (by decide) ?_
  refine n_arrI (N := 16) C dX5_init_75 u1_72 (by decide) (by decide) (Nat.le_of_ble_eq_true rfl) (Nat.le_of_ble_eq_true rfl) (Nat.le_of_ble_eq_true rfl) (fun q8 => ?_)
  refine n_putF (j := 9) (ty := .array .int) C dX5_init_77 rfl inU5 tyX5 tyX5_ok nmX5 (by decide) u2_105 rfl rfl (by decide +kernel) rfl rfl (Nat.le_of_ble_eq_true rfl) ?_
  refine n_aload C dX5_init_80 ?_
  refine n_obj (ci := 3) (i := i) (nm := nmN3 i) (h2 := 1) (mc2 := 7) (ms2 := 1280) C tyX3 tyX3_ok rfl inU3 u2_0 u2_1 u1_7 dfX3_ok dX5_init_81 dX5_init_84 dX5_init_85 (y := yX3_init) (c2 := cX3_init) (host := "GapLinks") (by decide +kernel) rfl u2_4 u2_3 rfl ⟨by decide, by decide, by decide +kernel⟩ (ok_X3_init l g i) (Nat.le_of_ble_eq_true rfl) (Nat.le_of_ble_eq_true rfl) (Nat.le_of_ble_eq_true rfl) (Nat.le_of_ble_eq_true rfl) (fun a9 => ?_)
  refine n_putF (j := 10) (ty := .object "GapLinks$Ports") C dX5_init_88 rfl inU5 tyX5 tyX5_ok nmX5 (by decide) u2_107 rfl rfl (by decide +kernel) rfl rfl (Nat.le_of_ble_eq_true rfl) ?_
  refine n_aload C dX5_init_91 ?_
  refine n_obj (ci := 0) (i := i) (nm := nmN0 i) (h2 := 1) (mc2 := 10) (ms2 := 480) C tyX0 tyX0_ok rfl inU0 u2_44 u2_45 u1_8 dfX0_ok dX5_init_92 dX5_init_95 dX5_init_96 (y := yX0_init) (c2 := cX0_init) (host := "GapLinks") (by decide +kernel) rfl u2_48 u2_47 rfl ⟨by decide, by decide, by decide +kernel⟩ (ok_X0_init l g i) (Nat.le_of_ble_eq_true rfl) (Nat.le_of_ble_eq_true rfl) (Nat.le_of_ble_eq_true rfl) (Nat.le_of_ble_eq_true rfl) (fun a10 => ?_)
  refine n_putF (j := 11) (ty := .object "GapLinks$Ears") C dX5_init_99 rfl inU5 tyX5 tyX5_ok nmX5 (by decide) u2_109 rfl rfl (by decide +kernel) rfl rfl (Nat.le_of_ble_eq_true rfl) ?_
  exact n_ret C dX5_init_102 (Nat.le_of_ble_eq_true rfl) (Nat.le_of_ble_eq_true rfl) (fun x y => (bif Nat.beq x 5 then h0 else (bif Nat.beq x 38 then q0 else (bif Nat.beq x 39 then q1 else (bif Nat.beq x 40 then q2 else (bif Nat.beq x 41 then q3 else (bif Nat.beq x 42 then q4 else (bif Nat.beq x 43 then q5 else (bif Nat.beq x 44 then q6 else (bif Nat.beq x 45 then q7 else (bif Nat.beq x 46 then q8 else (bif Nat.beq x 3 || (Nat.ble 30 x && Nat.ble x 36) then a9 x y else (bif Nat.beq x 0 || (Nat.ble 9 x && Nat.ble x 18) then a10 x y else 0))))))))))))) rfl rfl
def nmN6 (i : Nat) : List (Nat × Nat) := [(6, i), (47, i), (48, i), (49, i), (50, i), (51, i)]
set_option maxRecDepth 20000 in
set_option maxHeartbeats 4000000 in
theorem ok_X6_init (l : Launch) (g : Gm) (i : Nat) : Cn l g yX6_init cX6_init 1 5 392 6 i dfX6 (nmN6 i) := by
  refine Cn.of rfl rfl ?_
  intro p e R s m args below meth c h0 C hlt
  show JN g p l e R s m args below meth c h0 _ 0 [] [(h0, .inr (6, [.null, .null, .null, .null, .null]))] 0 0
  refine n_init C (Nat.le_of_ble_eq_true rfl) dX6_init_0 dX6_init_1 u1_49 u1_30 u1_31 ?_
  refine n_aload C dX6_init_4 ?_
  refine n_bipush (v := 96) C dX6_init_5 (by decide) ?_
  refine n_arrI (N := 96) C dX6_init_7 u1_72 (by decide) (by decide) (Nat.le_of_ble_eq_true rfl) (Nat.le_of_ble_eq_true rfl) (Nat.le_of_ble_eq_true rfl) (fun q0 => ?_)
  refine n_putF (j := 0) (ty := .array .int) C dX6_init_9 rfl inU6 tyX6 tyX6_ok nmX6 (by decide) u1_50 rfl rfl (by decide +kernel) rfl rfl (Nat.le_of_ble_eq_true rfl) ?_
  refine n_aload C dX6_init_12 ?_
  refine n_bipush (v := 24) C dX6_init_13 (by decide) ?_
  refine n_arrI (N := 24) C dX6_init_15 u1_72 (by decide) (by decide) (Nat.le_of_ble_eq_true rfl) (Nat.le_of_ble_eq_true rfl) (Nat.le_of_ble_eq_true rfl) (fun q1 => ?_)
  refine n_putF (j := 1) (ty := .array .int) C dX6_init_17 rfl inU6 tyX6 tyX6_ok nmX6 (by decide) u1_51 rfl rfl (by decide +kernel) rfl rfl (Nat.le_of_ble_eq_true rfl) ?_
  refine n_aload C dX6_init_20 ?_
  refine n_bipush (v := 16) C dX6_init_21 (by decide) ?_
  refine n_arrI (N := 16) C dX6_init_23 u1_72 (by decide) (by decide) (Nat.le_of_ble_eq_true rfl) (Nat.le_of_ble_eq_true rfl) (Nat.le_of_ble_eq_true rfl) (fun q2 => ?_)
  refine n_putF (j := 2) (ty := .array .int) C dX6_init_25 rfl inU6 tyX6 tyX6_ok nmX6 (by decide) u1_54 rfl rfl (by decide +kernel) rfl rfl (Nat.le_of_ble_eq_true rfl) ?_
  refine n_aload C dX6_init_28 ?_
  refine n_sipush (v := 128) C dX6_init_29 (by decide) ?_
  refine n_arrI (N := 128) C dX6_init_32 u1_72 (by decide) (by decide) (Nat.le_of_ble_eq_true rfl) (Nat.le_of_ble_eq_true rfl) (Nat.le_of_ble_eq_true rfl) (fun q3 => ?_)
  refine n_putF (j := 3) (ty := .array .int) C dX6_init_34 rfl inU6 tyX6 tyX6_ok nmX6 (by decide) u1_56 rfl rfl (by decide +kernel) rfl rfl (Nat.le_of_ble_eq_true rfl) ?_
  refine n_aload C dX6_init_37 ?_
  refine n_sipush (v := 128) C dX6_init_38 (by decide) ?_
  refine n_arrI (N := 128) C dX6_init_41 u1_72 (by decide) (by decide) (Nat.le_of_ble_eq_true rfl) (Nat.le_of_ble_eq_true rfl) (Nat.le_of_ble_eq_true rfl) (fun q4 => ?_)
  refine n_putF (j := 4) (ty := .array .int) C dX6_init_43 rfl inU6 tyX6 tyX6_ok nmX6 (by decide) u1_58 rfl rfl (by decide +kernel) rfl rfl (Nat.le_of_ble_eq_true rfl) ?_
  exact n_ret C dX6_init_46 (Nat.le_of_ble_eq_true rfl) (Nat.le_of_ble_eq_true rfl) (fun x y => (bif Nat.beq x 6 then h0 else (bif Nat.beq x 47 then q0 else (bif Nat.beq x 48 then q1 else (bif Nat.beq x 49 then q2 else (bif Nat.beq x 50 then q3 else (bif Nat.beq x 51 then q4 else 0))))))) rfl rfl
def nmN2 (i : Nat) : List (Nat × Nat) := [(2, i), (22, i), (23, i), (24, i), (25, i), (26, i), (27, i), (28, i), (29, i)] ++ nmN6 i
set_option maxRecDepth 20000 in
set_option maxHeartbeats 4000000 in
theorem ok_X2_init (l : Launch) (g : Gm) (i : Nat) : Cn l g yX2_init cX2_init 2 14 473 2 i dfX2 (nmN2 i) := by
  refine Cn.of rfl rfl ?_
  intro p e R s m args below meth c h0 C hlt
  show JN g p l e R s m args below meth c h0 _ 0 [] [(h0, .inr (2, [.int 0, .int 0, .int 0, .int 0, .int 0, .int 0, .int 0, .null, .null, .null, .null, .null, .null, .null, .null, .null]))] 0 0
  refine n_init C (Nat.le_of_ble_eq_true rfl) dX2_init_0 dX2_init_1 u1_43 u1_30 u1_31 ?_
  refine n_aload C dX2_init_4 ?_
  refine n_iconst (v := 0) C dX2_init_5 rfl ?_
  refine n_put (j := 0) (ty := .int) C dX2_init_6 rfl inU2 tyX2 tyX2_ok nmX2 (by decide) u1_74 rfl (by decide +kernel) rfl rfl (Nat.le_of_ble_eq_true rfl) ?_
  refine n_aload C dX2_init_9 ?_
  refine n_iconst (v := 0) C dX2_init_10 rfl ?_
  refine n_put (j := 1) (ty := .int) C dX2_init_11 rfl inU2 tyX2 tyX2_ok nmX2 (by decide) u1_77 rfl (by decide +kernel) rfl rfl (Nat.le_of_ble_eq_true rfl) ?_
  refine n_aload C dX2_init_14 ?_
  refine n_iconst (v := 0) C dX2_init_15 rfl ?_
  refine n_put (j := 2) (ty := .int) C dX2_init_16 rfl inU2 tyX2 tyX2_ok nmX2 (by decide) u1_81 rfl (by decide +kernel) rfl rfl (Nat.le_of_ble_eq_true rfl) ?_
  refine n_aload C dX2_init_19 ?_
  refine n_iconst (v := 0) C dX2_init_20 rfl ?_
  refine n_put (j := 3) (ty := .int) C dX2_init_21 rfl inU2 tyX2 tyX2_ok nmX2 (by decide) u1_85 rfl (by decide +kernel) rfl rfl (Nat.le_of_ble_eq_true rfl) ?_
  refine n_aload C dX2_init_24 ?_
  refine n_iconst (v := 0) C dX2_init_25 rfl ?_
  refine n_put (j := 4) (ty := .int) C dX2_init_26 rfl inU2 tyX2 tyX2_ok nmX2 (by decide) u1_89 rfl (by decide +kernel) rfl rfl (Nat.le_of_ble_eq_true rfl) ?_
  refine n_aload C dX2_init_29 ?_
  refine n_iconst (v := 0) C dX2_init_30 rfl ?_
  refine n_put (j := 5) (ty := .int) C dX2_init_31 rfl inU2 tyX2 tyX2_ok nmX2 (by decide) u1_93 rfl (by decide +kernel) rfl rfl (Nat.le_of_ble_eq_true rfl) ?_
  refine n_aload C dX2_init_34 ?_
  refine n_iconst (v := 0) C dX2_init_35 rfl ?_
  refine n_put (j := 6) (ty := .int) C dX2_init_36 rfl inU2 tyX2 tyX2_ok nmX2 (by decide) u1_96 rfl (by decide +kernel) rfl rfl (Nat.le_of_ble_eq_true rfl) ?_
  refine n_aload C dX2_init_39 ?_
  refine n_bipush (v := 6) C dX2_init_40 (by decide) ?_
  refine n_arrI (N := 6) C dX2_init_42 u1_72 (by decide) (by decide) (Nat.le_of_ble_eq_true rfl) (Nat.le_of_ble_eq_true rfl) (Nat.le_of_ble_eq_true rfl) (fun q0 => ?_)
  refine n_putF (j := 7) (ty := .array .int) C dX2_init_44 rfl inU2 tyX2 tyX2_ok nmX2 (by decide) u1_102 rfl rfl (by decide +kernel) rfl rfl (Nat.le_of_ble_eq_true rfl) ?_
  refine n_aload C dX2_init_47 ?_
  refine n_bipush (v := 6) C dX2_init_48 (by decide) ?_
  refine n_arrJ (N := 6) C dX2_init_50 u1_73 (by decide) (by decide) (Nat.le_of_ble_eq_true rfl) (Nat.le_of_ble_eq_true rfl) (Nat.le_of_ble_eq_true rfl) (fun q1 => ?_)
  refine n_putF (j := 8) (ty := .array .long) C dX2_init_52 rfl inU2 tyX2 tyX2_ok nmX2 (by decide) u1_106 rfl rfl (by decide +kernel) rfl rfl (Nat.le_of_ble_eq_true rfl) ?_
  refine n_aload C dX2_init_55 ?_
  refine n_bipush (v := 8) C dX2_init_56 (by decide) ?_
  refine n_arrJ (N := 8) C dX2_init_58 u1_73 (by decide) (by decide) (Nat.le_of_ble_eq_true rfl) (Nat.le_of_ble_eq_true rfl) (Nat.le_of_ble_eq_true rfl) (fun q2 => ?_)
  refine n_putF (j := 9) (ty := .array .long) C dX2_init_60 rfl inU2 tyX2 tyX2_ok nmX2 (by decide) u1_108 rfl rfl (by decide +kernel) rfl rfl (Nat.le_of_ble_eq_true rfl) ?_
  refine n_aload C dX2_init_63 ?_
  refine n_bipush (v := 8) C dX2_init_64 (by decide) ?_
  refine n_arrI (N := 8) C dX2_init_66 u1_72 (by decide) (by decide) (Nat.le_of_ble_eq_true rfl) (Nat.le_of_ble_eq_true rfl) (Nat.le_of_ble_eq_true rfl) (fun q3 => ?_)
  refine n_putF (j := 10) (ty := .array .int) C dX2_init_68 rfl inU2 tyX2 tyX2_ok nmX2 (by decide) u1_110 rfl rfl (by decide +kernel) rfl rfl (Nat.le_of_ble_eq_true rfl) ?_
  refine n_aload C dX2_init_71 ?_
  refine n_bipush (v := 8) C dX2_init_72 (by decide) ?_
  refine n_arrI (N := 8) C dX2_init_74 u1_72 (by decide) (by decide) (Nat.le_of_ble_eq_true rfl) (Nat.le_of_ble_eq_true rfl) (Nat.le_of_ble_eq_true rfl) (fun q4 => ?_)
  refine n_putF (j := 11) (ty := .array .int) C dX2_init_76 rfl inU2 tyX2 tyX2_ok nmX2 (by decide) u1_115 rfl rfl (by decide +kernel) rfl rfl (Nat.le_of_ble_eq_true rfl) ?_
  refine n_aload C dX2_init_79 ?_
  refine n_bipush (v := 8) C dX2_init_80 (by decide) ?_
  refine n_arrI (N := 8) C dX2_init_82 u1_72 (by decide) (by decide) (Nat.le_of_ble_eq_true rfl) (Nat.le_of_ble_eq_true rfl) (Nat.le_of_ble_eq_true rfl) (fun q5 => ?_)
  refine n_putF (j := 12) (ty := .array .int) C dX2_init_84 rfl inU2 tyX2 tyX2_ok nmX2 (by decide) u1_120 rfl rfl (by decide +kernel) rfl rfl (Nat.le_of_ble_eq_true rfl) ?_
  refine n_aload C dX2_init_87 ?_
  refine n_bipush (v := 8) C dX2_init_88 (by decide) ?_
  refine n_arrI (N := 8) C dX2_init_90 u1_72 (by decide) (by decide) (Nat.le_of_ble_eq_true rfl) (Nat.le_of_ble_eq_true rfl) (Nat.le_of_ble_eq_true rfl) (fun q6 => ?_)
  refine n_putF (j := 13) (ty := .array .int) C dX2_init_92 rfl inU2 tyX2 tyX2_ok nmX2 (by decide) u1_125 rfl rfl (by decide +kernel) rfl rfl (Nat.le_of_ble_eq_true rfl) ?_
  refine n_aload C dX2_init_95 ?_
  refine n_bipush (v := 24) C dX2_init_96 (by decide) ?_
  refine n_arrI (N := 24) C dX2_init_98 u1_72 (by decide) (by decide) (Nat.le_of_ble_eq_true rfl) (Nat.le_of_ble_eq_true rfl) (Nat.le_of_ble_eq_true rfl) (fun q7 => ?_)
  refine n_putF (j := 14) (ty := .array .int) C dX2_init_100 rfl inU2 tyX2 tyX2_ok nmX2 (by decide) u1_129 rfl rfl (by decide +kernel) rfl rfl (Nat.le_of_ble_eq_true rfl) ?_
  refine n_aload C dX2_init_103 ?_
  refine n_obj (ci := 6) (i := i) (nm := nmN6 i) (h2 := 1) (mc2 := 5) (ms2 := 392) C tyX6 tyX6_ok rfl inU6 u1_44 u1_45 u1_4 dfX6_ok dX2_init_104 dX2_init_107 dX2_init_108 (y := yX6_init) (c2 := cX6_init) (host := "GapLinks") (by decide +kernel) rfl u1_48 u1_47 rfl ⟨by decide, by decide, by decide +kernel⟩ (ok_X6_init l g i) (Nat.le_of_ble_eq_true rfl) (Nat.le_of_ble_eq_true rfl) (Nat.le_of_ble_eq_true rfl) (Nat.le_of_ble_eq_true rfl) (fun a8 => ?_)
  refine n_putF (j := 15) (ty := .object "GapLinks$Ways") C dX2_init_111 rfl inU2 tyX2 tyX2_ok nmX2 (by decide) u1_133 rfl rfl (by decide +kernel) rfl rfl (Nat.le_of_ble_eq_true rfl) ?_
  exact n_ret C dX2_init_114 (Nat.le_of_ble_eq_true rfl) (Nat.le_of_ble_eq_true rfl) (fun x y => (bif Nat.beq x 2 then h0 else (bif Nat.beq x 22 then q0 else (bif Nat.beq x 23 then q1 else (bif Nat.beq x 24 then q2 else (bif Nat.beq x 25 then q3 else (bif Nat.beq x 26 then q4 else (bif Nat.beq x 27 then q5 else (bif Nat.beq x 28 then q6 else (bif Nat.beq x 29 then q7 else (bif Nat.beq x 6 || (Nat.ble 47 x && Nat.ble x 51) then a8 x y else 0))))))))))) rfl rfl
def nmN4 : List (Nat × Nat) := [(4, 0), (37, 0)] ++ nmN2 1
set_option maxRecDepth 20000 in
set_option maxHeartbeats 4000000 in
theorem ok_X4_init (l : Launch) (g : Gm) : Cn l g yX4_init cX4_init 3 16 1389 4 0 dfX4 (nmN4) := by
  refine Cn.of rfl rfl ?_
  intro p e R s m args below meth c h0 C hlt
  show JN g p l e R s m args below meth c h0 _ 0 [] [(h0, .inr (4, [.null, .int 0, .null, .int 0, .int 0, .int 0, .int 0, .long 0, .int 0, .int 0, .int 0, .int 0]))] 0 0
  refine n_init C (Nat.le_of_ble_eq_true rfl) dX4_init_0 dX4_init_1 u1_37 u1_30 u1_31 ?_
  refine n_aload C dX4_init_4 ?_
  refine n_sipush (v := 900) C dX4_init_5 (by decide) ?_
  refine n_arrB (N := 900) C dX4_init_8 u1_71 (by decide) (by decide) (Nat.le_of_ble_eq_true rfl) (Nat.le_of_ble_eq_true rfl) (Nat.le_of_ble_eq_true rfl) (fun q0 => ?_)
  refine n_putF (j := 0) (ty := .array .byte) C dX4_init_10 rfl inU4 tyX4 tyX4_ok nmX4 (by decide) u1_170 rfl rfl (by decide +kernel) rfl rfl (Nat.le_of_ble_eq_true rfl) ?_
  refine n_aload C dX4_init_13 ?_
  refine n_iconst (v := 0) C dX4_init_14 rfl ?_
  refine n_put (j := 1) (ty := .int) C dX4_init_15 rfl inU4 tyX4 tyX4_ok nmX4 (by decide) u1_171 rfl (by decide +kernel) rfl rfl (Nat.le_of_ble_eq_true rfl) ?_
  refine n_aload C dX4_init_18 ?_
  refine n_obj (ci := 2) (i := 1) (nm := nmN2 1) (h2 := 2) (mc2 := 14) (ms2 := 473) C tyX2 tyX2_ok rfl inU2 u1_38 u1_39 u1_3 dfX2_ok dX4_init_19 dX4_init_22 dX4_init_23 (y := yX2_init) (c2 := cX2_init) (host := "GapLinks") (by decide +kernel) rfl u1_42 u1_41 rfl ⟨by decide, by decide, by decide +kernel⟩ (ok_X2_init l g 1) (Nat.le_of_ble_eq_true rfl) (Nat.le_of_ble_eq_true rfl) (Nat.le_of_ble_eq_true rfl) (Nat.le_of_ble_eq_true rfl) (fun a1 => ?_)
  refine n_put (j := 2) (ty := .object "GapLinks$Plan") C dX4_init_26 rfl inU4 tyX4 tyX4_ok nmX4 (by decide) u1_173 rfl (by decide +kernel) rfl rfl (Nat.le_of_ble_eq_true rfl) ?_
  refine n_aload C dX4_init_29 ?_
  refine n_iconst (v := 0) C dX4_init_30 rfl ?_
  refine n_put (j := 3) (ty := .int) C dX4_init_31 rfl inU4 tyX4 tyX4_ok nmX4 (by decide) u1_174 rfl (by decide +kernel) rfl rfl (Nat.le_of_ble_eq_true rfl) ?_
  refine n_aload C dX4_init_34 ?_
  refine n_iconst (v := 0) C dX4_init_35 rfl ?_
  refine n_put (j := 4) (ty := .int) C dX4_init_36 rfl inU4 tyX4 tyX4_ok nmX4 (by decide) u1_175 rfl (by decide +kernel) rfl rfl (Nat.le_of_ble_eq_true rfl) ?_
  refine n_aload C dX4_init_39 ?_
  refine n_iconst (v := 0) C dX4_init_40 rfl ?_
  refine n_put (j := 5) (ty := .int) C dX4_init_41 rfl inU4 tyX4 tyX4_ok nmX4 (by decide) u1_176 rfl (by decide +kernel) rfl rfl (Nat.le_of_ble_eq_true rfl) ?_
  refine n_aload C dX4_init_44 ?_
  refine n_iconst (v := 0) C dX4_init_45 rfl ?_
  refine n_put (j := 6) (ty := .int) C dX4_init_46 rfl inU4 tyX4 tyX4_ok nmX4 (by decide) u1_177 rfl (by decide +kernel) rfl rfl (Nat.le_of_ble_eq_true rfl) ?_
  refine n_aload C dX4_init_49 ?_
  refine n_lconst C dX4_init_50 ?_
  refine n_put (j := 7) (ty := .long) C dX4_init_51 rfl inU4 tyX4 tyX4_ok nmX4 (by decide) u1_178 rfl (by decide +kernel) rfl rfl (Nat.le_of_ble_eq_true rfl) ?_
  refine n_aload C dX4_init_54 ?_
  refine n_iconst (v := 0) C dX4_init_55 rfl ?_
  refine n_put (j := 8) (ty := .int) C dX4_init_56 rfl inU4 tyX4 tyX4_ok nmX4 (by decide) u1_179 rfl (by decide +kernel) rfl rfl (Nat.le_of_ble_eq_true rfl) ?_
  refine n_aload C dX4_init_59 ?_
  refine n_iconst (v := 0) C dX4_init_60 rfl ?_
  refine n_put (j := 9) (ty := .boolean) C dX4_init_61 rfl inU4 tyX4 tyX4_ok nmX4 (by decide) u1_180 rfl (by decide +kernel) rfl rfl (Nat.le_of_ble_eq_true rfl) ?_
  refine n_aload C dX4_init_64 ?_
  refine n_iconst (v := 0) C dX4_init_65 rfl ?_
  refine n_put (j := 10) (ty := .int) C dX4_init_66 rfl inU4 tyX4 tyX4_ok nmX4 (by decide) u1_181 rfl (by decide +kernel) rfl rfl (Nat.le_of_ble_eq_true rfl) ?_
  refine n_aload C dX4_init_69 ?_
  refine n_iconst (v := (-1)) C dX4_init_70 rfl ?_
  refine n_put (j := 11) (ty := .int) C dX4_init_71 rfl inU4 tyX4 tyX4_ok nmX4 (by decide) u1_183 rfl (by decide +kernel) rfl rfl (Nat.le_of_ble_eq_true rfl) ?_
  exact n_ret C dX4_init_74 (Nat.le_of_ble_eq_true rfl) (Nat.le_of_ble_eq_true rfl) (fun x y => (bif Nat.beq x 4 then h0 else (bif Nat.beq x 37 then q0 else (bif Nat.beq x 2 || Nat.beq x 6 || (Nat.ble 22 x && Nat.ble x 29) || (Nat.ble 47 x && Nat.ble x 51) then a1 x y else 0)))) rfl rfl
def nmN1 : List (Nat × Nat) := [(1, 0), (19, 0), (20, 0), (21, 0)]
set_option maxRecDepth 20000 in
set_option maxHeartbeats 4000000 in
theorem ok_X1_init (l : Launch) (g : Gm) : Cn l g yX1_init cX1_init 1 3 160 1 0 dfX1 (nmN1) := by
  refine Cn.of rfl rfl ?_
  intro p e R s m args below meth c h0 C hlt
  show JN g p l e R s m args below meth c h0 _ 0 [] [(h0, .inr (1, [.int 0, .null, .null, .null]))] 0 0
  refine n_init C (Nat.le_of_ble_eq_true rfl) dX1_init_0 dX1_init_1 u1_217 u1_30 u1_31 ?_
  refine n_aload C dX1_init_4 ?_
  refine n_iconst (v := 0) C dX1_init_5 rfl ?_
  refine n_put (j := 0) (ty := .boolean) C dX1_init_6 rfl inU1 tyX1 tyX1_ok nmX1 (by decide) u1_218 rfl (by decide +kernel) rfl rfl (Nat.le_of_ble_eq_true rfl) ?_
  refine n_aload C dX1_init_9 ?_
  refine n_bipush (v := 16) C dX1_init_10 (by decide) ?_
  refine n_arrI (N := 16) C dX1_init_12 u1_72 (by decide) (by decide) (Nat.le_of_ble_eq_true rfl) (Nat.le_of_ble_eq_true rfl) (Nat.le_of_ble_eq_true rfl) (fun q0 => ?_)
  refine n_putF (j := 1) (ty := .array .int) C dX1_init_14 rfl inU1 tyX1 tyX1_ok nmX1 (by decide) u1_220 rfl rfl (by decide +kernel) rfl rfl (Nat.le_of_ble_eq_true rfl) ?_
  refine n_aload C dX1_init_17 ?_
  refine n_bipush (v := 16) C dX1_init_18 (by decide) ?_
  refine n_arrJ (N := 16) C dX1_init_20 u1_73 (by decide) (by decide) (Nat.le_of_ble_eq_true rfl) (Nat.le_of_ble_eq_true rfl) (Nat.le_of_ble_eq_true rfl) (fun q1 => ?_)
  refine n_putF (j := 2) (ty := .array .long) C dX1_init_22 rfl inU1 tyX1 tyX1_ok nmX1 (by decide) u1_221 rfl rfl (by decide +kernel) rfl rfl (Nat.le_of_ble_eq_true rfl) ?_
  refine n_aload C dX1_init_25 ?_
  refine n_sipush (v := 128) C dX1_init_26 (by decide) ?_
  refine n_arrJ (N := 128) C dX1_init_29 u1_73 (by decide) (by decide) (Nat.le_of_ble_eq_true rfl) (Nat.le_of_ble_eq_true rfl) (Nat.le_of_ble_eq_true rfl) (fun q2 => ?_)
  refine n_putF (j := 3) (ty := .array .long) C dX1_init_31 rfl inU1 tyX1 tyX1_ok nmX1 (by decide) u1_223 rfl rfl (by decide +kernel) rfl rfl (Nat.le_of_ble_eq_true rfl) ?_
  exact n_ret C dX1_init_34 (Nat.le_of_ble_eq_true rfl) (Nat.le_of_ble_eq_true rfl) (fun x y => (bif Nat.beq x 1 then h0 else (bif Nat.beq x 19 then q0 else (bif Nat.beq x 20 then q1 else (bif Nat.beq x 21 then q2 else 0))))) rfl rfl
def nmN7 : List (Nat × Nat) := [(7, 0)] ++ nmN4 ++ nmN2 0 ++ nmN1 ++ nmN5 0 ++ nmN5 1 ++ nmN5 2
set_option maxRecDepth 20000 in
set_option maxHeartbeats 4000000 in
theorem ok_X7_init (l : Launch) (g : Gm) : Cn l g yX7_init cX7_init 4 123 7667 7 0 dfX7 (nmN7) := by
  refine Cn.of rfl rfl ?_
  intro p e R s m args below meth c h0 C hlt
  show JN g p l e R s m args below meth c h0 _ 0 [] [(h0, .inr (7, [.null, .null, .null, .null, .null, .null, .int 0, .int 0, .int 0, .int 0]))] 0 0
  refine n_init C (Nat.le_of_ble_eq_true rfl) dX7_init_0 dX7_init_1 u1_29 u1_30 u1_31 ?_
  refine n_aload C dX7_init_4 ?_
  refine n_obj (ci := 4) (i := 0) (nm := nmN4) (h2 := 3) (mc2 := 16) (ms2 := 1389) C tyX4 tyX4_ok rfl inU4 u1_32 u1_33 u1_2 dfX4_ok dX7_init_5 dX7_init_8 dX7_init_9 (y := yX4_init) (c2 := cX4_init) (host := "GapLinks") (by decide +kernel) rfl u1_36 u1_35 rfl ⟨by decide, by decide, by decide +kernel⟩ (ok_X4_init l g) (Nat.le_of_ble_eq_true rfl) (Nat.le_of_ble_eq_true rfl) (Nat.le_of_ble_eq_true rfl) (Nat.le_of_ble_eq_true rfl) (fun a0 => ?_)
  refine n_putF (j := 0) (ty := .object "GapLinks$Reader") C dX7_init_12 rfl inU7 tyX7 tyX7_ok nmX7 (by decide) u2_136 rfl rfl (by decide +kernel) rfl rfl (Nat.le_of_ble_eq_true rfl) ?_
  refine n_aload C dX7_init_15 ?_
  refine n_obj (ci := 2) (i := 0) (nm := nmN2 0) (h2 := 2) (mc2 := 14) (ms2 := 473) C tyX2 tyX2_ok rfl inU2 u1_210 u1_39 u1_3 dfX2_ok dX7_init_16 dX7_init_19 dX7_init_20 (y := yX2_init) (c2 := cX2_init) (host := "GapLinks") (by decide +kernel) rfl u1_42 u1_41 rfl ⟨by decide, by decide, by decide +kernel⟩ (ok_X2_init l g 0) (Nat.le_of_ble_eq_true rfl) (Nat.le_of_ble_eq_true rfl) (Nat.le_of_ble_eq_true rfl) (Nat.le_of_ble_eq_true rfl) (fun a1 => ?_)
  refine n_put (j := 1) (ty := .object "GapLinks$Plan") C dX7_init_23 rfl inU7 tyX7 tyX7_ok nmX7 (by decide) u2_137 rfl (by decide +kernel) rfl rfl (Nat.le_of_ble_eq_true rfl) ?_
  refine n_aload C dX7_init_26 ?_
  refine n_obj (ci := 1) (i := 0) (nm := nmN1) (h2 := 1) (mc2 := 3) (ms2 := 160) C tyX1 tyX1_ok rfl inU1 u1_212 u1_213 u1_5 dfX1_ok dX7_init_27 dX7_init_30 dX7_init_31 (y := yX1_init) (c2 := cX1_init) (host := "GapLinks") (by decide +kernel) rfl u1_216 u1_215 rfl ⟨by decide, by decide, by decide +kernel⟩ (ok_X1_init l g) (Nat.le_of_ble_eq_true rfl) (Nat.le_of_ble_eq_true rfl) (Nat.le_of_ble_eq_true rfl) (Nat.le_of_ble_eq_true rfl) (fun a2 => ?_)
  refine n_putF (j := 2) (ty := .object "GapLinks$Envelope") C dX7_init_34 rfl inU7 tyX7 tyX7_ok nmX7 (by decide) u2_138 rfl rfl (by decide +kernel) rfl rfl (Nat.le_of_ble_eq_true rfl) ?_
  refine n_aload C dX7_init_37 ?_
  refine n_obj (ci := 5) (i := 0) (nm := nmN5 0) (h2 := 2) (mc2 := 28) (ms2 := 1859) C tyX5 tyX5_ok rfl inU5 u1_234 u1_235 u1_6 dfX5_ok dX7_init_38 dX7_init_41 dX7_init_42 (y := yX5_init) (c2 := cX5_init) (host := "GapLinks") (by decide +kernel) rfl u1_238 u1_237 rfl ⟨by decide, by decide, by decide +kernel⟩ (ok_X5_init l g 0) (Nat.le_of_ble_eq_true rfl) (Nat.le_of_ble_eq_true rfl) (Nat.le_of_ble_eq_true rfl) (Nat.le_of_ble_eq_true rfl) (fun a3 => ?_)
  refine n_putF (j := 3) (ty := .object "GapLinks$State") C dX7_init_45 rfl inU7 tyX7 tyX7_ok nmX7 (by decide) u2_139 rfl rfl (by decide +kernel) rfl rfl (Nat.le_of_ble_eq_true rfl) ?_
  refine n_aload C dX7_init_48 ?_
  refine n_obj (ci := 5) (i := 1) (nm := nmN5 1) (h2 := 2) (mc2 := 28) (ms2 := 1859) C tyX5 tyX5_ok rfl inU5 u1_234 u1_235 u1_6 dfX5_ok dX7_init_49 dX7_init_52 dX7_init_53 (y := yX5_init) (c2 := cX5_init) (host := "GapLinks") (by decide +kernel) rfl u1_238 u1_237 rfl ⟨by decide, by decide, by decide +kernel⟩ (ok_X5_init l g 1) (Nat.le_of_ble_eq_true rfl) (Nat.le_of_ble_eq_true rfl) (Nat.le_of_ble_eq_true rfl) (Nat.le_of_ble_eq_true rfl) (fun a4 => ?_)
  refine n_putF (j := 4) (ty := .object "GapLinks$State") C dX7_init_56 rfl inU7 tyX7 tyX7_ok nmX7 (by decide) u2_140 rfl rfl (by decide +kernel) rfl rfl (Nat.le_of_ble_eq_true rfl) ?_
  refine n_aload C dX7_init_59 ?_
  refine n_obj (ci := 5) (i := 2) (nm := nmN5 2) (h2 := 2) (mc2 := 28) (ms2 := 1859) C tyX5 tyX5_ok rfl inU5 u1_234 u1_235 u1_6 dfX5_ok dX7_init_60 dX7_init_63 dX7_init_64 (y := yX5_init) (c2 := cX5_init) (host := "GapLinks") (by decide +kernel) rfl u1_238 u1_237 rfl ⟨by decide, by decide, by decide +kernel⟩ (ok_X5_init l g 2) (Nat.le_of_ble_eq_true rfl) (Nat.le_of_ble_eq_true rfl) (Nat.le_of_ble_eq_true rfl) (Nat.le_of_ble_eq_true rfl) (fun a5 => ?_)
  refine n_putF (j := 5) (ty := .object "GapLinks$State") C dX7_init_67 rfl inU7 tyX7 tyX7_ok nmX7 (by decide) u2_141 rfl rfl (by decide +kernel) rfl rfl (Nat.le_of_ble_eq_true rfl) ?_
  refine n_aload C dX7_init_70 ?_
  refine n_iconst (v := 0) C dX7_init_71 rfl ?_
  refine n_put (j := 6) (ty := .boolean) C dX7_init_72 rfl inU7 tyX7 tyX7_ok nmX7 (by decide) u2_142 rfl (by decide +kernel) rfl rfl (Nat.le_of_ble_eq_true rfl) ?_
  refine n_aload C dX7_init_75 ?_
  refine n_iconst (v := 0) C dX7_init_76 rfl ?_
  refine n_put (j := 7) (ty := .int) C dX7_init_77 rfl inU7 tyX7 tyX7_ok nmX7 (by decide) u2_143 rfl (by decide +kernel) rfl rfl (Nat.le_of_ble_eq_true rfl) ?_
  refine n_aload C dX7_init_80 ?_
  refine n_iconst (v := 0) C dX7_init_81 rfl ?_
  refine n_put (j := 8) (ty := .int) C dX7_init_82 rfl inU7 tyX7 tyX7_ok nmX7 (by decide) u2_144 rfl (by decide +kernel) rfl rfl (Nat.le_of_ble_eq_true rfl) ?_
  refine n_aload C dX7_init_85 ?_
  refine n_iconst (v := (-1)) C dX7_init_86 rfl ?_
  refine n_put (j := 9) (ty := .int) C dX7_init_87 rfl inU7 tyX7 tyX7_ok nmX7 (by decide) u2_145 rfl (by decide +kernel) rfl rfl (Nat.le_of_ble_eq_true rfl) ?_
  exact n_ret C dX7_init_90 (Nat.le_of_ble_eq_true rfl) (Nat.le_of_ble_eq_true rfl) (fun x y => (bif Nat.beq x 7 then h0 else (bif (Nat.beq x 4 || Nat.beq x 37) || ((Nat.beq x 2 || Nat.beq x 4 || Nat.beq x 6 || (Nat.ble 22 x && Nat.ble x 29) || Nat.beq x 37 || (Nat.ble 47 x && Nat.ble x 51)) && Nat.beq y 1) then a0 x y else (bif (Nat.beq x 2 || Nat.beq x 6 || (Nat.ble 22 x && Nat.ble x 29) || (Nat.ble 47 x && Nat.ble x 51)) && Nat.beq y 0 then a1 x y else (bif Nat.beq x 1 || (Nat.ble 19 x && Nat.ble x 21) then a2 x y else (bif (Nat.beq x 0 || Nat.beq x 3 || Nat.beq x 5 || (Nat.ble 9 x && Nat.ble x 18) || (Nat.ble 30 x && Nat.ble x 36) || (Nat.ble 38 x && Nat.ble x 46)) && Nat.beq y 0 then a3 x y else (bif (Nat.beq x 0 || Nat.beq x 3 || Nat.beq x 5 || (Nat.ble 9 x && Nat.ble x 18) || (Nat.ble 30 x && Nat.ble x 36) || (Nat.ble 38 x && Nat.ble x 46)) && Nat.beq y 1 then a4 x y else (bif (Nat.beq x 0 || Nat.beq x 3 || Nat.beq x 5 || (Nat.ble 9 x && Nat.ble x 18) || (Nat.ble 30 x && Nat.ble x 36) || (Nat.ble 38 x && Nat.ble x 46)) && Nat.beq y 2 then a5 x y else 0)))))))) rfl rfl
def nmN8 : List (Nat × Nat) := [(8, 0), (52, 0), (53, 0), (54, 0), (55, 0), (56, 0), (57, 0), (58, 0), (59, 0), (60, 0), (61, 0), (62, 0), (63, 0)]
set_option maxRecDepth 20000 in
set_option maxHeartbeats 4000000 in
theorem ok_X8_init (l : Launch) (g : Gm) : Cn l g yX8_init cX8_init 1 12 6493 8 0 dfX8 (nmN8) := by
  refine Cn.of rfl rfl ?_
  intro p e R s m args below meth c h0 C hlt
  show JN g p l e R s m args below meth c h0 _ 0 [] [(h0, .inr (8, [.int 0, .int 0, .int 0, .int 0, .null, .int 0, .null, .null, .null, .null, .null, .null, .null, .null, .int 0, .int 0, .int 0, .int 0, .int 0, .int 0, .long 0, .int 0, .int 0, .int 0, .null, .null, .null, .int 0, .int 0]))] 0 0
  refine n_init C (Nat.le_of_ble_eq_true rfl) dX8_init_0 dX8_init_1 u5_126 u1_30 u1_31 ?_
  refine n_aload C dX8_init_4 ?_
  refine n_iconst (v := (-1)) C dX8_init_5 rfl ?_
  refine n_put (j := 3) (ty := .int) C dX8_init_6 rfl inU8 tyX8 tyX8_ok nmX8 (by decide) u5_130 rfl (by decide +kernel) rfl rfl (Nat.le_of_ble_eq_true rfl) ?_
  refine n_aload C dX8_init_9 ?_
  refine n_sipush (v := 900) C dX8_init_10 (by decide) ?_
  refine n_arrI (N := 900) C dX8_init_13 u1_72 (by decide) (by decide) (Nat.le_of_ble_eq_true rfl) (Nat.le_of_ble_eq_true rfl) (Nat.le_of_ble_eq_true rfl) (fun q0 => ?_)
  refine n_putF (j := 4) (ty := .array .int) C dX8_init_15 rfl inU8 tyX8 tyX8_ok nmX8 (by decide) u5_131 rfl rfl (by decide +kernel) rfl rfl (Nat.le_of_ble_eq_true rfl) ?_
  refine n_aload C dX8_init_18 ?_
  refine n_bipush (v := 7) C dX8_init_19 (by decide) ?_
  refine n_arrI (N := 7) C dX8_init_21 u1_72 (by decide) (by decide) (Nat.le_of_ble_eq_true rfl) (Nat.le_of_ble_eq_true rfl) (Nat.le_of_ble_eq_true rfl) (fun q1 => ?_)
  refine n_putF (j := 6) (ty := .array .int) C dX8_init_23 rfl inU8 tyX8 tyX8_ok nmX8 (by decide) u5_133 rfl rfl (by decide +kernel) rfl rfl (Nat.le_of_ble_eq_true rfl) ?_
  refine n_aload C dX8_init_26 ?_
  refine n_bipush (v := 7) C dX8_init_27 (by decide) ?_
  refine n_arrI (N := 7) C dX8_init_29 u1_72 (by decide) (by decide) (Nat.le_of_ble_eq_true rfl) (Nat.le_of_ble_eq_true rfl) (Nat.le_of_ble_eq_true rfl) (fun q2 => ?_)
  refine n_putF (j := 7) (ty := .array .int) C dX8_init_31 rfl inU8 tyX8 tyX8_ok nmX8 (by decide) u5_134 rfl rfl (by decide +kernel) rfl rfl (Nat.le_of_ble_eq_true rfl) ?_
  refine n_aload C dX8_init_34 ?_
  refine n_bipush (v := 6) C dX8_init_35 (by decide) ?_
  refine n_arrI (N := 6) C dX8_init_37 u1_72 (by decide) (by decide) (Nat.le_of_ble_eq_true rfl) (Nat.le_of_ble_eq_true rfl) (Nat.le_of_ble_eq_true rfl) (fun q3 => ?_)
  refine n_putF (j := 8) (ty := .array .int) C dX8_init_39 rfl inU8 tyX8 tyX8_ok nmX8 (by decide) u5_135 rfl rfl (by decide +kernel) rfl rfl (Nat.le_of_ble_eq_true rfl) ?_
  refine n_aload C dX8_init_42 ?_
  refine n_bipush (v := 6) C dX8_init_43 (by decide) ?_
  refine n_arrI (N := 6) C dX8_init_45 u1_72 (by decide) (by decide) (Nat.le_of_ble_eq_true rfl) (Nat.le_of_ble_eq_true rfl) (Nat.le_of_ble_eq_true rfl) (fun q4 => ?_)
  refine n_putF (j := 9) (ty := .array .int) C dX8_init_47 rfl inU8 tyX8 tyX8_ok nmX8 (by decide) u5_136 rfl rfl (by decide +kernel) rfl rfl (Nat.le_of_ble_eq_true rfl) ?_
  refine n_aload C dX8_init_50 ?_
  refine n_bipush (v := 56) C dX8_init_51 (by decide) ?_
  refine n_arrI (N := 56) C dX8_init_53 u1_72 (by decide) (by decide) (Nat.le_of_ble_eq_true rfl) (Nat.le_of_ble_eq_true rfl) (Nat.le_of_ble_eq_true rfl) (fun q5 => ?_)
  refine n_putF (j := 10) (ty := .array .int) C dX8_init_55 rfl inU8 tyX8 tyX8_ok nmX8 (by decide) u5_137 rfl rfl (by decide +kernel) rfl rfl (Nat.le_of_ble_eq_true rfl) ?_
  refine n_aload C dX8_init_58 ?_
  refine n_bipush (v := 56) C dX8_init_59 (by decide) ?_
  refine n_arrI (N := 56) C dX8_init_61 u1_72 (by decide) (by decide) (Nat.le_of_ble_eq_true rfl) (Nat.le_of_ble_eq_true rfl) (Nat.le_of_ble_eq_true rfl) (fun q6 => ?_)
  refine n_putF (j := 11) (ty := .array .int) C dX8_init_63 rfl inU8 tyX8 tyX8_ok nmX8 (by decide) u5_138 rfl rfl (by decide +kernel) rfl rfl (Nat.le_of_ble_eq_true rfl) ?_
  refine n_aload C dX8_init_66 ?_
  refine n_bipush (v := 14) C dX8_init_67 (by decide) ?_
  refine n_arrJ (N := 14) C dX8_init_69 u1_73 (by decide) (by decide) (Nat.le_of_ble_eq_true rfl) (Nat.le_of_ble_eq_true rfl) (Nat.le_of_ble_eq_true rfl) (fun q7 => ?_)
  refine n_putF (j := 12) (ty := .array .long) C dX8_init_71 rfl inU8 tyX8 tyX8_ok nmX8 (by decide) u5_139 rfl rfl (by decide +kernel) rfl rfl (Nat.le_of_ble_eq_true rfl) ?_
  refine n_aload C dX8_init_74 ?_
  refine n_bipush (v := 14) C dX8_init_75 (by decide) ?_
  refine n_arrJ (N := 14) C dX8_init_77 u1_73 (by decide) (by decide) (Nat.le_of_ble_eq_true rfl) (Nat.le_of_ble_eq_true rfl) (Nat.le_of_ble_eq_true rfl) (fun q8 => ?_)
  refine n_putF (j := 13) (ty := .array .long) C dX8_init_79 rfl inU8 tyX8 tyX8_ok nmX8 (by decide) u5_140 rfl rfl (by decide +kernel) rfl rfl (Nat.le_of_ble_eq_true rfl) ?_
  refine n_aload C dX8_init_82 ?_
  refine n_sipush (v := 1809) C dX8_init_83 (by decide) ?_
  refine n_arrI (N := 1809) C dX8_init_86 u1_72 (by decide) (by decide) (Nat.le_of_ble_eq_true rfl) (Nat.le_of_ble_eq_true rfl) (Nat.le_of_ble_eq_true rfl) (fun q9 => ?_)
  refine n_putF (j := 24) (ty := .array .int) C dX8_init_88 rfl inU8 tyX8 tyX8_ok nmX8 (by decide) u5_151 rfl rfl (by decide +kernel) rfl rfl (Nat.le_of_ble_eq_true rfl) ?_
  refine n_aload C dX8_init_91 ?_
  refine n_sipush (v := 1809) C dX8_init_92 (by decide) ?_
  refine n_arrI (N := 1809) C dX8_init_95 u1_72 (by decide) (by decide) (Nat.le_of_ble_eq_true rfl) (Nat.le_of_ble_eq_true rfl) (Nat.le_of_ble_eq_true rfl) (fun q10 => ?_)
  refine n_putF (j := 25) (ty := .array .int) C dX8_init_97 rfl inU8 tyX8 tyX8_ok nmX8 (by decide) u5_152 rfl rfl (by decide +kernel) rfl rfl (Nat.le_of_ble_eq_true rfl) ?_
  refine n_aload C dX8_init_100 ?_
  refine n_sipush (v := 1809) C dX8_init_101 (by decide) ?_
  refine n_arrI (N := 1809) C dX8_init_104 u1_72 (by decide) (by decide) (Nat.le_of_ble_eq_true rfl) (Nat.le_of_ble_eq_true rfl) (Nat.le_of_ble_eq_true rfl) (fun q11 => ?_)
  refine n_putF (j := 26) (ty := .array .int) C dX8_init_106 rfl inU8 tyX8 tyX8_ok nmX8 (by decide) u5_153 rfl rfl (by decide +kernel) rfl rfl (Nat.le_of_ble_eq_true rfl) ?_
  exact n_ret C dX8_init_109 (Nat.le_of_ble_eq_true rfl) (Nat.le_of_ble_eq_true rfl) (fun x y => (bif Nat.beq x 8 then h0 else (bif Nat.beq x 52 then q0 else (bif Nat.beq x 53 then q1 else (bif Nat.beq x 54 then q2 else (bif Nat.beq x 55 then q3 else (bif Nat.beq x 56 then q4 else (bif Nat.beq x 57 then q5 else (bif Nat.beq x 58 then q6 else (bif Nat.beq x 59 then q7 else (bif Nat.beq x 60 then q8 else (bif Nat.beq x 61 then q9 else (bif Nat.beq x 62 then q10 else (bif Nat.beq x 63 then q11 else 0)))))))))))))) rfl rfl
