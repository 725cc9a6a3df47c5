section GStr
variable {g : Gm} {p : Program} {l : Launch} {e : Env} {R : Room} {s : State} {m : MethodId} {args : Array Value} {below : List Frame} {meth : Method} {c : Code} {Q : Option Value → Hp → Prop} {cc : ByteArray} {nL : Nat} {own : String} {ret : Option FieldType} {h pc : Nat} {lv lv' : List (Nat × Value)} {st : List Value} {σ : Hp}
theorem r_nreturn {x : Int32} {ty : FieldType} (C : Cx g p R s m args meth c cc nL own (some ty) h) (hd : decode cc pc = .ok (.ireturn, 1)) (hz : narrow ty (.int x) = .int x) (hq : Q (some (.int x)) σ) : G g p l e R s m args below meth c Q nL pc lv [.int x] σ := fun H locs ls hP hS hl => W.zret C.ex C.cd C.rt hz (fun t ht _ => ⟨⟨_, σ, rfl, hq, by rw [ht]; exact hP⟩, hS.F ht⟩) hS.2.2 hd C.lk
theorem r_ldcS {j index : Nat} (C : Cx g p R s m args meth c cc nL "GapLinksModel" ret h) (hd : decode cc pc = .ok (.ldc index, 2)) (hj : j < 13) (hi : (strL.getD j (0, "")).1 = index) (k : G g p l e R s m args below meth c Q nL (pc + 2) lv (.ref (gK g j) :: st) σ) : G g p l e R s m args below meth c Q nL pc lv st σ := fun H locs ls hP hS hl => va_ldcS C.ex C.cd C.ow (hi ▸ C.so.2.2.2.2.1.2 j hj) hd (k H locs ls hP hS hl)
theorem r_gsC (C : Cx g p R s m args meth c cc nL "java/lang/String" ret h) (hd : decode cc pc = .ok (.getstatic 38, 3)) (k : G g p l e R s m args below meth c Q nL (pc + 3) lv (.int 1 :: st) σ) : G g p l e R s m args below meth c Q nL pc lv st σ := fun H locs ls hP hS hl => va_gets C.ex C.cd C.so.2.2.2.2.2.1 hS C.ow (C.ts _ u6_37) (fun _ hx => hx) hd (k H locs ls hP hS hl)
theorem r_gsF (C : Cx g p R s m args meth c cc nL "java/lang/String" ret h) (hd : decode cc pc = .ok (.getstatic 1053, 3)) (k1 : G g p l e R s m args below meth c Q nL (pc + 3) lv (.null :: st) σ) (k2 : ∀ t, G g p l e R s m args below meth c Q nL (pc + 3) lv (.ref t :: st) σ) : G g p l e R s m args below meth c Q nL pc lv st σ := by
  intro H locs ls hP hS hl
  rcases C.so.2.2.2.2.2.2 with hz | ⟨t, hz⟩
  · exact va_gets C.ex C.cd hz hS C.ow (C.ts _ u6_53) (fun _ hx => hx) hd (k1 H locs ls hP hS hl)
  · exact va_gets C.ex C.cd hz hS C.ow (C.ts _ u6_53) (fun _ hx => hx) hd (k2 t H locs ls hP hS hl)
theorem r_gfCoder {j : Nat} (C : Cx g p R s m args meth c cc nL "java/lang/String" ret h) (hd : decode cc pc = .ok (.getfield 15, 3)) (hj : j < 13) (k : G g p l e R s m args below meth c Q nL (pc + 3) lv (.int 0 :: st) σ) : G g p l e R s m args below meth c Q nL pc lv (.ref (gK g j) :: st) σ := fun H locs ls hP hS hl => vk_getf C.ex C.cd (C.so.2.2.2.2.1.1.1 j hj).2.1 hS C.ow (C.ts _ u8_5) (fun _ hx => hx) hd (k H locs ls hP hS hl)
theorem r_gfValue {j : Nat} (C : Cx g p R s m args meth c cc nL "java/lang/String" ret h) (hd : decode cc pc = .ok (.getfield 9, 3)) (hj : j < 13) (k : G g p l e R s m args below meth c Q nL (pc + 3) lv (.ref (gV g j) :: st) σ) : G g p l e R s m args below meth c Q nL pc lv (.ref (gK g j) :: st) σ := fun H locs ls hP hS hl => vk_getf C.ex C.cd (C.so.2.2.2.2.1.1.1 j hj).2.2.1 hS C.ow (C.ts _ u8_4) (fun _ hx => hx) hd (k H locs ls hP hS hl)
theorem r_lenV {j : Nat} (C : Cx g p R s m args meth c cc nL own ret h) (hd : decode cc pc = .ok (.arraylength, 1)) (hj : j < 13) (k : G g p l e R s m args below meth c Q nL (pc + 1) lv (.int (Int32.ofNat (slen.getD j 0)) :: st) σ) : G g p l e R s m args below meth c Q nL pc lv (.ref (gV g j) :: st) σ := fun H locs ls hP hS hl => va_tlen C.ex C.cd (C.so.2.2.2.2.1.1.1 j hj).2.2.2 hS rfl hd (k H locs ls hP hS hl)
theorem r_baloadV {j : Nat} {x : Int32} (C : Cx g p R s m args meth c cc nL own ret h) (hd : decode cc pc = .ok (.baload, 1)) (hj : j < 13) (hin : vp_in x (slen.getD j 0)) (k : G g p l e R s m args below meth c Q nL (pc + 1) lv (.int ((sbyt.getD j []).getD (ix x) 0) :: st) σ) : G g p l e R s m args below meth c Q nL pc lv (.int x :: .ref (gV g j) :: st) σ := fun H locs ls hP hS hl => va_tb C.ex C.cd (C.so.2.2.2.2.1.1.1 j hj).2.2.2 hS hin rfl hd (k H locs ls hP hS hl)
theorem r_aload_nV {n : Fin 4} {i : Nat} {v : Value} (C : Cx g p R s m args meth c cc nL own ret h) (hv : v = .null ∨ ∃ t, v = .ref t) (hd : decode cc pc = .ok (.aload_n n, 1)) (hi : (n : Nat) = i) (j : Nat) (hj : lv[j]? = some (i, v)) (k : G g p l e R s m args below meth c Q nL (pc + 1) lv (v :: st) σ) : G g p l e R s m args below meth c Q nL pc lv st σ := by
  intro H locs ls hP hS hl
  rcases hv with rfl | ⟨t, rfl⟩
  · exact lv_aload_nN C.ex C.cd hd hi (lv_at hl j hj) (k H locs ls hP hS hl)
  · exact lv_aload_n C.ex C.cd hd hi (lv_at hl j hj) (k H locs ls hP hS hl)
theorem r_callVStr {y : MethodName} {c2 : ByteArray} {mL h2 index nA j : Nat} {rt : Option FieldType} {As st0 : List Value} {Q' : Int32 → Hp → Prop} (rest : List Value) (C : Cx g p R s m args meth c cc nL own ret h) (hd : decode cc pc = .ok (.invokevirtual index, 3)) (w : CWv own index y c2 mL rt nA) (hM : Ct l g y c2 mL rt h2 (.ref (gK g j) :: As) σ (QI Q')) (hh : h2 + 1 ≤ h) (hj : j < 13) (hy : y.cls = "java/lang/String") (hst : st0 = As.reverse ++ .ref (gK g j) :: rest) (hn : As.length = nA) (hrest : (rest.map fun v => v.category).sum ≤ 8) (k : ∀ x σ', Q' x σ' → G g p l e R s m args below meth c Q nL (pc + 3) lv (.int x :: rest) σ') : G g p l e R s m args below meth c Q nL pc lv st0 σ := by
  intro H locs ls hP hS hl
  refine G_run (a := (Value.ref (gK g j) :: As).toArray) (rest := rest) (va_runV (C := y.cls) (b := gK g j) (As := As) (Ts := UU) ⟨C.ex, C.cd, C.ml, C.ow, C.ts⟩ hM ⟨callB_UU C w.1 hh, C.ts _ w.2.1, C.ts _ w.2.2⟩ ⟨Pc_blind, ?_, fun U hU hW => ⟨rfl, by rw [hU]; exact hP, C.so.call hS hU hW⟩⟩ rfl hn hl.1 hst (lv_room hrest) hd ⟨Nat.zero_le _, Nat.zero_le _⟩) hS hl (fun r σ' hq => by obtain ⟨x, rfl, hq⟩ := hq; exact k x σ' hq)
  rw [hy]
  exact vk_recv C.so.2.2.2.2.1.1 hj hS
end GStr
theorem ok_coder (l : Launch) (g : Gm) (j : Nat) (hj : j < 13) (σ : Hp) (Q : Int32 → Hp → Prop) (h : Q 0 σ) : Ct l g yJ0_coder_7d493 cJ0_coder_7d493 1 (some .byte) 0 [.ref (gK g j)] σ (QI Q) := by
  refine Ct.of (by decide +kernel) (Nat.le_of_ble_eq_true rfl) ?_
  intro p e R s m args below meth c C
  have C : Cx g p R s m args meth c cJ0_coder_7d493 1 "java/lang/String" (some .byte) 0 := C
  show G g p l e R s m args below meth c (QI Q) 1 0 [(0, .ref (gK g j))] [] σ
  refine r_gsC C dJ0_coder_7d493_0 ?_
  refine r_if_eq (tgt := 13) C dJ0_coder_7d493_3 rfl (fun q => absurd q (by decide)) (fun _ => ?_)
  refine r_aload_n C dJ0_coder_7d493_6 rfl 0 rfl ?_
  refine r_gfCoder C dJ0_coder_7d493_7 hj ?_
  refine r_goto (tgt := 14) C dJ0_coder_7d493_10 rfl ?_
  exact r_nreturn C dJ0_coder_7d493_14 (by decide +kernel) ⟨_, rfl, h⟩
theorem ok_isLatin1 (l : Launch) (g : Gm) (j : Nat) (hj : j < 13) (σ : Hp) (Q : Int32 → Hp → Prop) (h : Q 1 σ) : Ct l g yJ0_isLatin1_aae02 cJ0_isLatin1_aae02 1 (some .boolean) 0 [.ref (gK g j)] σ (QI Q) := by
  refine Ct.of (by decide +kernel) (Nat.le_of_ble_eq_true rfl) ?_
  intro p e R s m args below meth c C
  have C : Cx g p R s m args meth c cJ0_isLatin1_aae02 1 "java/lang/String" (some .boolean) 0 := C
  show G g p l e R s m args below meth c (QI Q) 1 0 [(0, .ref (gK g j))] [] σ
  refine r_gsC C dJ0_isLatin1_aae02_0 ?_
  refine r_if_eq (tgt := 17) C dJ0_isLatin1_aae02_3 rfl (fun q => absurd q (by decide)) (fun _ => ?_)
  refine r_aload_n C dJ0_isLatin1_aae02_6 rfl 0 rfl ?_
  refine r_gfCoder C dJ0_isLatin1_aae02_7 hj ?_
  refine r_if_ne (tgt := 17) C dJ0_isLatin1_aae02_10 rfl (fun q => absurd rfl q) (fun _ => ?_)
  refine r_iconst C dJ0_isLatin1_aae02_13 ic_1 ?_
  refine r_goto (tgt := 18) C dJ0_isLatin1_aae02_14 rfl ?_
  exact r_nreturn C dJ0_isLatin1_aae02_18 (by decide +kernel) ⟨_, rfl, h⟩
theorem ok_strlen (l : Launch) (g : Gm) (j : Nat) (hj : j < 13) (σ : Hp) (Q : Int32 → Hp → Prop) (h : Q (Int32.ofNat (slen.getD j 0)) σ) : Ct l g yJ0_length_8abf5 cJ0_length_8abf5 1 (some .int) 1 [.ref (gK g j)] σ (QI Q) := by
  refine Ct.of (by decide +kernel) (Nat.le_of_ble_eq_true rfl) ?_
  intro p e R s m args below meth c C
  have C : Cx g p R s m args meth c cJ0_length_8abf5 1 "java/lang/String" (some .int) 1 := C
  show G g p l e R s m args below meth c (QI Q) 1 0 [(0, .ref (gK g j))] [] σ
  refine r_aload_n C dJ0_length_8abf5_0 rfl 0 rfl ?_
  refine r_gfValue C dJ0_length_8abf5_1 hj ?_
  refine r_lenV C dJ0_length_8abf5_4 hj ?_
  refine r_aload_n C dJ0_length_8abf5_5 rfl 0 rfl ?_
  refine r_callVStr (Q' := fun x σ' => x = 0 ∧ σ' = σ) [.int (Int32.ofNat (slen.getD j 0))] C dJ0_length_8abf5_6 w_J0_335 (ok_coder l g j hj σ _ ⟨rfl, rfl⟩) (Nat.le_of_ble_eq_true rfl) hj rfl rfl rfl (Nat.le_of_ble_eq_true rfl) (fun x σ' hq => ?_)
  obtain ⟨rfl, rfl⟩ := hq
  refine r_ishr C dJ0_length_8abf5_9 ?_
  rw [sb_shr0]
  exact r_ireturn C dJ0_length_8abf5_10 ⟨_, rfl, h⟩
theorem ok_checkP (l : Launch) (g : Gm) (x n : Int32) (v : Value) (hv : v = .null ∨ ∃ t, v = .ref t) (σ : Hp) (Q : Int32 → Hp → Prop) (h1 : ¬ x < 0) (h2 : x < n) (h : Q x σ) : Ct l g yJ3_checkIndex_8e157 cJ3_checkIndex_8e157 3 (some .int) 0 [.int x, .int n, v] σ (QI Q) := by
  refine Ct.of (by decide +kernel) (by rcases hv with rfl | ⟨t, rfl⟩ <;> exact Nat.le_of_ble_eq_true rfl) ?_
  intro p e R s m args below meth c C
  have C : Cx g p R s m args meth c cJ3_checkIndex_8e157 3 "jdk/internal/util/Preconditions" (some .int) 0 := C
  show G g p l e R s m args below meth c (QI Q) 3 0 [(0, .int x), (1, .int n), (2, v)] [] σ
  refine r_iload_n C dJ3_checkIndex_8e157_0 rfl 0 rfl ?_
  refine r_if_lt (tgt := 9) C dJ3_checkIndex_8e157_1 rfl (fun q => absurd q h1) (fun _ => ?_)
  refine r_iload_n C dJ3_checkIndex_8e157_4 rfl 0 rfl ?_
  refine r_iload_n C dJ3_checkIndex_8e157_5 rfl 1 rfl ?_
  refine r_icmp_lt (tgt := 16) C dJ3_checkIndex_8e157_6 rfl (fun _ => ?_) (fun q => absurd h2 q)
  refine r_iload_n C dJ3_checkIndex_8e157_16 rfl 0 rfl ?_
  exact r_ireturn C dJ3_checkIndex_8e157_17 ⟨_, rfl, h⟩
theorem ok_checkS (l : Launch) (g : Gm) (x n : Int32) (σ : Hp) (Q : Hp → Prop) (h1 : ¬ x < 0) (h2 : x < n) (h : Q σ) : Ct l g yJ0_checkIndex_df160 cJ0_checkIndex_df160 2 none 1 [.int x, .int n] σ (QV Q) := by
  refine Ct.of (by decide +kernel) (Nat.le_of_ble_eq_true rfl) ?_
  intro p e R s m args below meth c C
  have C : Cx g p R s m args meth c cJ0_checkIndex_df160 2 "java/lang/String" none 1 := C
  show G g p l e R s m args below meth c (QV Q) 2 0 [(0, .int x), (1, .int n)] [] σ
  refine r_iload_n C dJ0_checkIndex_df160_0 rfl 0 rfl ?_
  refine r_iload_n C dJ0_checkIndex_df160_1 rfl 1 rfl ?_
  refine r_gsF C dJ0_checkIndex_df160_2 ?_ (fun t => ?_)
  · refine r_callSi (Q' := fun x' σ' => σ' = σ) [] C dJ0_checkIndex_df160_5 w_J0_1059 (ok_checkP l g x n .null (Or.inl rfl) σ _ h1 h2 rfl) (Nat.le_of_ble_eq_true rfl) rfl rfl (Nat.le_of_ble_eq_true rfl) (fun x' σ' hq => ?_)
    subst hq
    refine r_pop C dJ0_checkIndex_df160_8 rfl ?_
    exact r_return C dJ0_checkIndex_df160_9 ⟨rfl, h⟩
  · refine r_callSi (Q' := fun x' σ' => σ' = σ) [] C dJ0_checkIndex_df160_5 w_J0_1059 (ok_checkP l g x n (.ref t) (Or.inr ⟨t, rfl⟩) σ _ h1 h2 rfl) (Nat.le_of_ble_eq_true rfl) rfl rfl (Nat.le_of_ble_eq_true rfl) (fun x' σ' hq => ?_)
    subst hq
    refine r_pop C dJ0_checkIndex_df160_8 rfl ?_
    exact r_return C dJ0_checkIndex_df160_9 ⟨rfl, h⟩
theorem str_byte : ((List.range 13).all fun j => (sbyt.getD j []).all fun b => decide (((b &&& 255).toUInt32 % 65536).toInt32 = b) && decide (narrow .char (.int b) = .int b)) = true := by decide +kernel
theorem str_lens : ((List.range 13).all fun j => decide ((sbyt.getD j []).length = slen.getD j 0)) = true := by decide +kernel
theorem str_at {j : Nat} (hj : j < 13) {k : Nat} (hk : k < slen.getD j 0) : (((((sbyt.getD j []).getD k 0) &&& 255).toUInt32 % 65536).toInt32 = (sbyt.getD j []).getD k 0) ∧ narrow .char (.int ((sbyt.getD j []).getD k 0)) = .int ((sbyt.getD j []).getD k 0) := by
  have h1 := List.all_eq_true.mp str_byte j (List.mem_range.mpr hj)
  have h2 := of_decide_eq_true (List.all_eq_true.mp str_lens j (List.mem_range.mpr hj))
  have h3 : (sbyt.getD j []).getD k 0 ∈ sbyt.getD j [] := by
    have hk2 : k < (sbyt.getD j []).length := by rw [h2]; exact hk
    generalize sbyt.getD j [] = L at hk2 ⊢
    rw [List.getD_eq_getElem?_getD, List.getElem?_eq_getElem hk2]
    exact List.getElem_mem _
  have h4 := List.all_eq_true.mp h1 _ h3
  rw [Bool.and_eq_true] at h4
  exact ⟨of_decide_eq_true h4.1, of_decide_eq_true h4.2⟩
theorem slen_lt {j : Nat} (hj : j < 13) : slen.getD j 0 < 2 ^ 31 := by
  have h : ((List.range 13).all fun j => decide (slen.getD j 0 < 2 ^ 31)) = true := by decide +kernel
  exact of_decide_eq_true (List.all_eq_true.mp h j (List.mem_range.mpr hj))
theorem ok_charAtL (l : Launch) (g : Gm) (j : Nat) (hj : j < 13) (x : Int32) (hx : vp_in x (slen.getD j 0)) (σ : Hp) (Q : Int32 → Hp → Prop) (h : Q ((sbyt.getD j []).getD (ix x) 0) σ) : Ct l g yJ1_charAt_3b067 cJ1_charAt_3b067 2 (some .char) 2 [.ref (gV g j), .int x] σ (QI Q) := by
  refine Ct.of (by decide +kernel) (Nat.le_of_ble_eq_true rfl) ?_
  intro p e R s m args below meth c C
  have C : Cx g p R s m args meth c cJ1_charAt_3b067 2 "java/lang/StringLatin1" (some .char) 2 := C
  show G g p l e R s m args below meth c (QI Q) 2 0 [(0, .ref (gV g j)), (1, .int x)] [] σ
  obtain ⟨q, hq, rfl⟩ := vp_in_of hx (slen_lt hj)
  have hix : ix (nI q) = q := nI_clamp (Nat.lt_trans hq (slen_lt hj))
  refine r_iload_n C dJ1_charAt_3b067_0 rfl 1 rfl ?_
  refine r_aload_n C dJ1_charAt_3b067_1 rfl 0 rfl ?_
  refine r_lenV C dJ1_charAt_3b067_2 hj ?_
  refine r_callSv (Q' := fun σ' => σ' = σ) [] C dJ1_charAt_3b067_3 w_J1_9 (ok_checkS l g _ _ σ _ (nI_pos (Nat.lt_trans hq (slen_lt hj))) (nI_lt hq (slen_lt hj)) rfl) (Nat.le_of_ble_eq_true rfl) rfl rfl (Nat.le_of_ble_eq_true rfl) (fun σ' hq' => ?_)
  subst hq'
  refine r_aload_n C dJ1_charAt_3b067_6 rfl 0 rfl ?_
  refine r_iload_n C dJ1_charAt_3b067_7 rfl 1 rfl ?_
  refine r_baloadV C dJ1_charAt_3b067_8 hj hx ?_
  refine r_sipush C dJ1_charAt_3b067_9 si_255 ?_
  refine r_iand C dJ1_charAt_3b067_12 ?_
  refine r_i2c C dJ1_charAt_3b067_13 (str_at hj (by rw [hix]; exact hq)).1 ?_
  exact r_nreturn C dJ1_charAt_3b067_14 (str_at hj (by rw [hix]; exact hq)).2 ⟨_, rfl, h⟩
theorem ok_charAt (l : Launch) (g : Gm) (j : Nat) (hj : j < 13) (x : Int32) (hx : vp_in x (slen.getD j 0)) (σ : Hp) (Q : Int32 → Hp → Prop) (h : Q ((sbyt.getD j []).getD (ix x) 0) σ) : Ct l g yJ0_charAt_5068e cJ0_charAt_5068e 2 (some .char) 3 [.ref (gK g j), .int x] σ (QI Q) := by
  refine Ct.of (by decide +kernel) (Nat.le_of_ble_eq_true rfl) ?_
  intro p e R s m args below meth c C
  have C : Cx g p R s m args meth c cJ0_charAt_5068e 2 "java/lang/String" (some .char) 3 := C
  show G g p l e R s m args below meth c (QI Q) 2 0 [(0, .ref (gK g j)), (1, .int x)] [] σ
  obtain ⟨q, hq, rfl⟩ := vp_in_of hx (slen_lt hj)
  have hix : ix (nI q) = q := nI_clamp (Nat.lt_trans hq (slen_lt hj))
  refine r_aload_n C dJ0_charAt_5068e_0 rfl 0 rfl ?_
  refine r_callVStr (Q' := fun x σ' => x = 1 ∧ σ' = σ) [] C dJ0_charAt_5068e_1 w_J0_492 (ok_isLatin1 l g j hj σ _ ⟨rfl, rfl⟩) (Nat.le_of_ble_eq_true rfl) hj rfl rfl rfl (Nat.le_of_ble_eq_true rfl) (fun x σ' hq => ?_)
  obtain ⟨rfl, rfl⟩ := hq
  refine r_if_eq (tgt := 16) C dJ0_charAt_5068e_4 rfl (fun q => absurd q (by decide)) (fun _ => ?_)
  refine r_aload_n C dJ0_charAt_5068e_7 rfl 0 rfl ?_
  refine r_gfValue C dJ0_charAt_5068e_8 hj ?_
  refine r_iload_n C dJ0_charAt_5068e_11 rfl 1 rfl ?_
  refine r_callSi [] C dJ0_charAt_5068e_12 w_J0_495 (ok_charAtL l g j hj _ hx _ (fun x σ2 => x = (sbyt.getD j []).getD (ix (nI q)) 0 ∧ σ2 = σ') ⟨rfl, rfl⟩) (Nat.le_of_ble_eq_true rfl) rfl rfl (Nat.le_of_ble_eq_true rfl) (fun x σ2 hq2 => ?_)
  obtain ⟨rfl, rfl⟩ := hq2
  exact r_nreturn C dJ0_charAt_5068e_15 (str_at hj (by rw [hix]; exact hq)).2 ⟨_, rfl, h⟩
section GStr2
variable {g : Gm} {p : Program} {l : Launch} {e : Env} {R : Room} {s : State} {m : MethodId} {args : Array Value} {below : List Frame} {meth : Method} {c : Code} {Q : Option Value → Hp → Prop} {cc : ByteArray} {nL : Nat} {ret : Option FieldType} {h pc : Nat} {lv lv' : List (Nat × Value)} {st : List Value} {σ : Hp}
theorem r_strlen {j : Nat} (C : Cx g p R s m args meth c cc nL RX8 ret h) (hd : decode cc pc = .ok (.invokevirtual 98, 3)) (hj : j < 13) (hh : 2 ≤ h) (hrest : (st.map fun v => v.category).sum ≤ 8) (k : G g p l e R s m args below meth c Q nL (pc + 3) lv (.int (Int32.ofNat (slen.getD j 0)) :: st) σ) : G g p l e R s m args below meth c Q nL pc lv (.ref (gK g j) :: st) σ := by
  refine r_callVStr (Q' := fun x σ' => x = Int32.ofNat (slen.getD j 0) ∧ σ' = σ) st C hd w_8_98 (ok_strlen l g j hj σ _ ⟨rfl, rfl⟩) hh hj rfl rfl rfl hrest (fun x σ' hq => ?_)
  obtain ⟨rfl, rfl⟩ := hq
  exact k
theorem r_charAt {j : Nat} {x : Int32} (C : Cx g p R s m args meth c cc nL RX8 ret h) (hd : decode cc pc = .ok (.invokevirtual 104, 3)) (hj : j < 13) (hx : vp_in x (slen.getD j 0)) (hh : 4 ≤ h) (hrest : (st.map fun v => v.category).sum ≤ 8) (k : G g p l e R s m args below meth c Q nL (pc + 3) lv (.int ((sbyt.getD j []).getD (ix x) 0) :: st) σ) : G g p l e R s m args below meth c Q nL pc lv (.int x :: .ref (gK g j) :: st) σ := by
  refine r_callVStr (Q' := fun x' σ' => x' = (sbyt.getD j []).getD (ix x) 0 ∧ σ' = σ) st C hd w_8_104 (ok_charAt l g j hj x hx σ _ ⟨rfl, rfl⟩) hh hj rfl rfl rfl hrest (fun x σ' hq => ?_)
  obtain ⟨rfl, rfl⟩ := hq
  exact k
end GStr2
