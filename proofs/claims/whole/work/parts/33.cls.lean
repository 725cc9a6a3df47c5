theorem wp_ne {p : PD} {l j k : Nat} (hV : LV p l) (hn : nE p ≤ 6) (hk : k + 1 < wl p l j) (hj : j < rc p l) (h3 : pSw p ≤ 3) (hs : ∀ e, e < nE p → eS p e < pSw p) : wp p l j k ≠ wp p l j (k + 1) := by
  have h1 := hV.1
  have h2 := (hV.2.2.2.2.2.2.2.1 j hj).1
  have e1 := hs _ h1
  have e2 := hs _ h2
  have h4 := wl_cases p l j
  have h5 := wp_cases p l j k
  have h6 := wp_cases p l j (k + 1)
  omega
theorem u_add0 (x : SD) (f k : Nat) : u x f k (x f k + 0) = x := by
  funext a b
  rw [u_at]
  by_cases h : a = f ∧ b = k
  · rw [if_pos h, h.1, h.2, Int32.add_zero]
  · rw [if_neg h]
theorem come_full {p : PD} {q : Nat} {l num born : Int32} {s : SD} (h : s 30 q = nI (pRoom p)) : tCome p q l num born s = u s 39 (3 * (q / 16)) (s 39 (3 * (q / 16)) + 1) := by unfold tCome; rw [if_pos h]
theorem come_add {p : PD} {q : Nat} {l num born : Int32} {s : SD} (h : ¬ s 30 q = nI (pRoom p)) : tCome p q l num born s = tAdd q l num born s := by unfold tCome tAdd; rw [if_neg h]
section ClsOps3
variable {σ : Hp} {p : PD} {S P : Nat} {x s : SD}
theorem c_earAt {l i : Nat} {Q : Int32 → Hp → Prop} (hV : PV p) (hX : PX σ P p) (hl : l < nL p) (hi : i < rc p l) (k : Q (nI (3 * l + i)) (stX σ S x)) : S_X2_earAt P (nI l) (nI (re p l i)) (stX σ S x) Q := by
  have hLV := hV.2.2.2.2.2.2.2.2 l hl
  have h3 := hLV.2.2.2.2.2.2.1
  have hL := hV.2.2.2.2.2.2.1
  have hE6 := hV.2.2.2.2.2.1
  have iv : vp_in (nI l) 8 := vp_in_nI (by omega) (by decide)
  have e28 : gI (stX σ S x) 28 P (ix (nI l)) = nI (rc p l) := by rw [ix_nI (by omega), gX28]; exact (hX.2.2.2.2.2.2.2.2.1 l hl).2.2.2
  have eo : ∀ j, (nI l * 3) + nI j = nI (3 * l + j) := fun j => by
    rw [show nI l * 3 = nI (l * 3) from mul_nI l 3, add_nI]; exact congrArg nI (by omega)
  unfold S_X2_earAt
  refine pk_loop (fun m j σ' => L_X2_earAt_2 Q _ _ P (nI l) (nI (re p l i)) m (nI j) σ') (fun j σ' => σ' = stX σ S x) i 0 _ (Nat.zero_le _) rfl ?_ ?_
  · rintro m σ' rfl
    have e29 : gI (stX σ S x) 29 P (ix (nI (3 * l + i))) = nI (re p l i) := by rw [ix_nI (by omega), gX29]; exact hX.2.2.2.2.2.2.2.2.2 l i hl hi
    unfold L_X2_earAt_2 S_X7_earOf
    rw [e28, eo i]
    dsimp only
    rw [e29]
    refine ⟨iv, fun q => absurd q (nI_ge hi (by omega)), fun _ => ⟨vp_in_nI (by omega) (by decide), fun q => absurd rfl q, fun _ => ?_⟩⟩
    exact k
  · rintro m j σ' hj rfl ih
    have e29 : gI (stX σ S x) 29 P (ix (nI (3 * l + j))) = nI (re p l j) := by rw [ix_nI (by omega), gX29]; exact hX.2.2.2.2.2.2.2.2.2 l j hl (by omega)
    unfold L_X2_earAt_2 S_X7_earOf
    rw [e28, eo j]
    dsimp only
    rw [e29]
    refine ⟨iv, fun q => absurd q (nI_ge (by omega) (by omega)), fun _ => ⟨vp_in_nI (by omega) (by decide), fun _ => ?_, fun q => ?_⟩⟩
    · rw [nI_1]; exact ih _ rfl
    · exfalso
      have h1 := (hLV.2.2.2.2.2.2.2.1 j (by omega)).1
      have h2 := (hLV.2.2.2.2.2.2.2.1 i hi).1
      rw [eq_nI (by omega) (by omega)] at q
      have := hLV.2.2.2.2.2.2.2.2 j i (by omega) hi q
      omega
theorem c_spread {t : Nat} {lo : Nat → Nat} {b : Nat} {net l fp n bo sl q : Nat} {ow : Int32} {Q : Hp → Prop} (hV : PV p) (hX : PX σ P p) (hI : Inv p t lo b s) (hE : EX p x s) (hnet : net < 2) (hf : fp < 6 ∨ (12 ≤ fp ∧ fp < 16)) (hl : l < nL p) (hn : n ≤ 255) (hbo : bo ≤ t) (ho : on p l fp) (hq : q = 16 * net + fp) (hsl : sl / 12 = q) (hsl2 : sl < 384) (f1 : x 34 sl = nI l) (f2 : x 35 sl = nI n) (f3 : x 36 sl = nI bo)
    (hb : ∀ to, 6 ≤ to → to < 16 → (bitI ow to ↔ nxt p l fp to)) (hK : ∀ x', EX p x' (tSpread p net l fp (nI n) (nI bo) s) → Q (stX σ S x')) : S_X5_spread S P (nI net) ow (nI sl) (stX σ S x) Q := by
  have hr12 := hV.2.1
  have isl : vp_in (nI sl) 384 := vp_in_nI hsl2 (by decide)
  unfold S_X5_spread
  refine pk_loop (fun m i σ' => L_X5_spread_4 Q _ S P (nI net) ow (nI sl) m (nI i) σ') (fun i σ' => 6 ≤ i ∧ ∃ x', σ' = stX σ S x' ∧ x' 34 sl = nI l ∧ x' 35 sl = nI n ∧ x' 36 sl = nI bo ∧ EX p x' (itr (fun j s => tSpread1 p net l fp (nI n) (nI bo) (j + 6) s) (i - 6) s)) 16 6 _ (by decide) ⟨by decide, x, rfl, f1, f2, f3, hE⟩ ?_ ?_
  · rintro m σ' ⟨-, x', rfl, -, -, -, hE'⟩
    unfold L_X5_spread_4
    exact ⟨fun _ => hK x' hE', fun q => absurd (by decide) q⟩
  · rintro m i σ' hi ⟨h6, x', rfl, g1, g2, g3, hE'⟩ ih
    obtain ⟨s1, hs1⟩ : ∃ s1, s1 = itr (fun j s => tSpread1 p net l fp (nI n) (nI bo) (j + 6) s) (i - 6) s := ⟨_, rfl⟩
    have hI1 : Inv p t lo b s1 := hs1 ▸ inv_spreadK hV hI hnet hf hl hn hbo ho (i - 6) (by omega)
    rw [← hs1] at hE'
    have enext : itr (fun j s => tSpread1 p net l fp (nI n) (nI bo) (j + 6) s) (i + 1 - 6) s = tSpread1 p net l fp (nI n) (nI bo) i s1 := by
      have : i + 1 - 6 = (i - 6) + 1 := by omega
      rw [this, hs1]
      show tSpread1 p net l fp (nI n) (nI bo) (i - 6 + 6) _ = _
      rw [show i - 6 + 6 = i by omega]
    have ih2 : ∀ x2, x2 34 sl = nI l → x2 35 sl = nI n → x2 36 sl = nI bo → EX p x2 (tSpread1 p net l fp (nI n) (nI bo) i s1) → L_X5_spread_4 Q (fun σ5 => Q σ5) S P (nI net) ow (nI sl) m (nI i + 1) (stX σ S x2) := by
      intro x2 a1 a2 a3 h2
      rw [nI_1]
      exact ih _ ⟨by omega, x2, rfl, a1, a2, a3, by rw [enext]; exact h2⟩
    obtain ⟨c, k1, k2, -⟩ := hI1.2.1 (16 * net + i) (by omega)
    unfold tSpread1 at ih2
    unfold L_X5_spread_4
    refine ⟨fun z => absurd z (nI_ge (b := 16) hi (by decide)), fun _ => ⟨fun z => ?_, fun z => ?_⟩⟩
    · have hnx : ¬ nxt p l fp i := fun y => z ((hb i h6 hi).mpr y)
      exact ih2 x' g1 g2 g3 (by rw [cif_neg hnx]; exact hE')
    · have hnx : nxt p l fp i := (hb i h6 hi).mp z
      rw [cif_pos hnx] at ih2
      have hqi : 16 * net + i ≠ q := by
        intro y
        have hfi : fp = i := by omega
        subst hfi
        obtain ⟨j, k, w1, w2, w3, w4⟩ := nxt_step (hV.2.2.2.2.2.2.2.2 l hl) hV.2.2.2.2.2.2.2.1 hV.1 hV.2.2.2.2.2.1 hf h6 hi ho hnx
        exact wp_ne (hV.2.2.2.2.2.2.2.2 l hl) hV.2.2.2.2.2.1 w2 w1 hV.1 hV.2.2.2.2.2.2.2.1 (w3.trans w4.symm)
      have eq1 : (nI net * 16) + nI i = nI (16 * net + i) := by
        rw [show nI net * 16 = nI (net * 16) from mul_nI net 16, add_nI]; exact congrArg nI (by omega)
      have eq3 : (nI net * 3) + 0 = nI (3 * net) := by
        rw [show nI net * 3 = nI (net * 3) from mul_nI net 3, show nI (net * 3) + 0 = nI (net * 3 + 0) from add_nI _ 0]; exact congrArg nI (by omega)
      have iv3 : vp_in (nI (3 * net)) 6 := vp_in_nI (by omega) (by decide)
      rw [ix_nI (by omega), gX34, gX35, gX36, g1, g2, g3, gX2, hX.2.1, eq1, eq3]
      refine ⟨isl, isl, isl, ?_⟩
      refine c_admit (p := p) hr12 hE' (by omega) k2 k1 rfl (fun hf0 => ?_) (fun hf1 x2 hx2 hx3 hx4 => ?_)
      · refine ⟨iv3, fun _ => ?_, fun y => absurd rfl y⟩
        unfold J_X5_spread_96
        refine ⟨iv3, fun σ3 e3 => ?_⟩
        have h39 : x' 39 (3 * net) = s1 39 (3 * net) := hE'.1 39 (3 * net) rfl (by show 3 * net < 6; omega)
        rw [ix_nI (by omega), gX39, h39, sX39] at e3
        subst e3
        refine ih2 _ (by rw [u_nf _ _ (by decide)]; exact g1) (by rw [u_nf _ _ (by decide)]; exact g2) (by rw [u_nf _ _ (by decide)]; exact g3) ?_
        rw [come_full hf0, show 3 * ((16 * net + i) / 16) = 3 * net by omega]
        exact hE'.set (f := 39) rfl (by decide) (by decide) _ _
      · refine ⟨iv3, fun y => absurd y (by decide), fun _ => ?_⟩
        unfold J_X5_spread_96
        refine ⟨iv3, fun σ3 e3 => ?_⟩
        rw [ix_nI (by omega), gX39, sX39, u_add0] at e3
        subst e3
        have hz : sl / 12 ≠ 16 * net + i := by rw [hsl]; exact Ne.symm hqi
        refine ih2 _ ((hx3 34 sl (by omega) hz).trans g1) ((hx3 35 sl (by omega) hz).trans g2) ((hx3 36 sl (by omega) hz).trans g3) ?_
        rw [come_add hf1]
        exact hx2
theorem c_switch {t : Nat} {lo : Nat → Nat} {b : Nat} {net l fp n bo sl q : Nat} {Q : Hp → Prop} (hV : PV p) (hX : PX σ P p) (hO : OW σ P p) (hI : Inv p t lo b s) (hE : EX p x s) (hnet : net < 2) (hf : fp < 6 ∨ (12 ≤ fp ∧ fp < 16)) (hl : l < nL p) (hn : n ≤ 255) (hbo : bo ≤ t) (ho : on p l fp) (hq : q = 16 * net + fp) (hsl : sl / 12 = q) (hsl2 : sl < 384) (f1 : x 34 sl = nI l) (f2 : x 35 sl = nI n) (f3 : x 36 sl = nI bo)
    (k : ∀ x', EX p x' (tSwitch p q l (nI n) (nI bo) s) → Q (stX σ S x')) : S_X5_arriveAtSwitch S P (nI q) (nI sl) (stX σ S x) Q := by
  have hL := hV.2.2.2.2.2.2.1
  have hcl := cred_lt hV hl
  have hLV := hV.2.2.2.2.2.2.2.2 l hl
  have d1 : q / 16 = net := by omega
  have d2 : q % 16 = fp := by omega
  have e16 : nI q / 16 = nI net := by rw [← d1]; exact div_nI (d := 16) (by omega) (by omega) (by omega)
  have r16 : jrem (nI q) 16 = nI fp := by rw [← d2]; exact rem_nI (d := 16) (by omega) (by omega) (by omega)
  have isl : vp_in (nI sl) 384 := vp_in_nI hsl2 (by decide)
  unfold tSwitch at k
  rw [d1, d2] at k
  have h38 : x 38 net = s 38 net := hE.1 38 net rfl hnet
  have h45 : x 45 (8 * net + l) = s 45 (8 * net + l) := hE.1 45 (8 * net + l) (lv45 (by have := hV.2.2.2.2.2.2.1; omega)) (by show 8 * net + l < 16; omega)
  obtain ⟨p1, p2, p3, p4⟩ := hX.2.2.2.2.2.2.2.2.1 l hl
  have spread : ∀ (x1 s1 : SD), Inv p t lo b s1 → EX p x1 s1 → x1 34 sl = nI l → x1 35 sl = nI n → x1 36 sl = nI bo → (∀ x', EX p x' (tSpread p net l fp (nI n) (nI bo) s1) → Q (stX σ S x')) → J_X5_arriveAtSwitch_106 Q S P (nI sl) (nI net) (nI fp) (nI l) (stX σ S x1) := by
    intro x1 s1 hI1 hE1 a1 a2 a3 hk
    unfold J_X5_arriveAtSwitch_106
    have eo : (nI l * 16) + nI fp = nI (16 * l + fp) := by
      rw [show nI l * 16 = nI (l * 16) from mul_nI l 16, add_nI]; exact congrArg nI (by omega)
    rw [eo, ix_nI (by omega), gX50]
    refine ⟨vp_in_nI (by omega) (by decide), ?_⟩
    refine c_spread hV hX hI1 hE1 hnet hf hl hn hbo ho hq hsl hsl2 a1 a2 a3 (fun to h1 h2 => ?_) hk
    rw [hO l fp to hl (by omega) h2]
    refine ⟨fun ⟨j, kk, w1, w2, w3, w4⟩ => ?_, fun y => nxt_step hLV hV.2.2.2.2.2.2.2.1 hV.1 hV.2.2.2.2.2.1 hf h1 h2 ho y⟩
    have := step_nxt hLV hV.2.2.2.2.2.2.2.1 hV.1 hV.2.2.2.2.2.1 w1 w2
    rw [w3, w4] at this
    exact this
  have l39 : ∀ j, j < 3 → ((nI net * 3) + nI j = nI (3 * net + j)) := fun j _ => by
    rw [show nI net * 3 = nI (net * 3) from mul_nI net 3, add_nI]; exact congrArg nI (by omega)
  have e8 : (nI net * 8) + nI l = nI (8 * net + l) := by
    rw [show nI net * 8 = nI (net * 8) from mul_nI net 8, add_nI]; exact congrArg nI (by omega)
  have iv8 : vp_in (nI l) 8 := vp_in_nI (by omega) (by decide)
  have iv16 : vp_in (nI (8 * net + l)) 16 := vp_in_nI (by omega) (by decide)
  have iv1 : vp_in (nI (3 * net + 1)) 6 := vp_in_nI (by omega) (by decide)
  have iv2 : vp_in (nI (3 * net + 2)) 6 := vp_in_nI (by omega) (by decide)
  unfold S_X5_arriveAtSwitch S_X5_paysCredit
  rw [e16, r16, ix_nI (k := net) (by omega), ix_nI (k := sl) (by omega), gX38, gX34, h38, f1, show (nI net * 3) + 2 = nI (3 * net + 2) from l39 2 (by decide), show (nI net * 3) + 1 = nI (3 * net + 1) from l39 1 (by decide), e8]
  refine ⟨isl, vp_in_nI hnet (by decide), fun z => ?_, fun z => ?_⟩
  · rw [if_neg z] at k
    refine ⟨fun z2 => ?_, fun z2 => ?_⟩
    · simp (disch := omega) only [litI, le_nI] at z2
      rw [if_neg (by omega)] at k
      exact spread x s hI hE f1 f2 f3 k
    · simp (disch := omega) only [litI, le_nI] at z2
      rw [if_pos (by omega)] at k
      rw [ix_nI (k := l) (by omega), gX27, gX26, p3, p2, mul_nI, ix_nI (k := 8 * net + l) (by omega), gX45, h45]
      refine ⟨iv8, iv8, iv16, fun z3 => ⟨iv16, iv16, fun σ1 e1 => ?_⟩, fun z3 => ?_⟩
      · rw [sX45] at e1
        subst e1
        rw [if_pos z3] at k
        refine ⟨fun _ => ?_, fun y => absurd y (by decide)⟩
        obtain ⟨c, c1, c2⟩ := (hI.2.2.1 l hl).2.2.2 net hnet
        have z4 := z3
        rw [c2, le_nI (by omega) (by omega)] at z4
        refine spread _ _ ?_ (hE.set (f := 45) rfl (by decide) (by decide) _ _) (by rw [u_nf _ _ (by decide)]; exact f1) (by rw [u_nf _ _ (by decide)]; exact f2) (by rw [u_nf _ _ (by decide)]; exact f3) k
        rw [c2, sub_nI z4]
        exact inv_cred hI hL hnet hl (by omega)
      · rw [if_neg z3] at k
        refine ⟨fun y => absurd rfl y, fun _ => ⟨iv2, iv2, fun σ4 e4 => ⟨iv16, iv16, fun σ5 e5 => ?_⟩⟩⟩
        have h39 : x 39 (3 * net + 2) = s 39 (3 * net + 2) := hE.1 39 (3 * net + 2) rfl (by show 3 * net + 2 < 6; omega)
        rw [ix_nI (by omega), gX39, h39, sX39] at e4
        subst e4
        have hE1 := hE.set (f := 39) rfl (by decide) (by decide) (3 * net + 2) (s 39 (3 * net + 2) + 1)
        have h46 : u x 39 (3 * net + 2) (s 39 (3 * net + 2) + 1) 46 (8 * net + l) = s 46 (8 * net + l) := (hE1.1 46 (8 * net + l) rfl (by show 8 * net + l < 16; omega)).trans (u_nf _ _ (by decide))
        rw [gX46, h46, sX46] at e5
        subst e5
        exact k _ (hE1.set (f := 46) rfl (by decide) (by decide) _ _)
  · rw [if_pos z] at k
    refine ⟨iv1, iv1, fun σ6 e6 => ?_⟩
    have h39 : x 39 (3 * net + 1) = s 39 (3 * net + 1) := hE.1 39 (3 * net + 1) rfl (by show 3 * net + 1 < 6; omega)
    rw [ix_nI (by omega), gX39, h39, sX39] at e6
    subst e6
    exact k _ (hE.set (f := 39) rfl (by decide) (by decide) _ _)
theorem c_deliver {t b : Nat} {Q : Hp → Prop} (hV : PV p) (hX : PX σ P p) (hO : OW σ P p) (ht : t < 2 ^ 30) (hb : b + 32 < 2 ^ 31) (hI : Inv p t (fun _ => t) b s) (hE : EX p x s) (hK : ∀ x', EX p x' (tDeliver p s) → Q (stX σ S x')) : S_X5_deliver S P (stX σ S x) Q := by
  have hr12 := hV.2.1
  have hL := hV.2.2.2.2.2.2.1
  unfold S_X5_deliver
  refine pk_loop (fun m j σ' => L_X5_deliver_2 Q _ S P m (nI j) σ') (fun j σ' => ∃ x', σ' = stX σ S x' ∧ EX p x' (itr (tDel1 p) j s)) 32 0 _ (Nat.zero_le _) ⟨x, rfl, hE⟩ ?_ ?_
  · rintro m σ' ⟨x', rfl, hE'⟩
    unfold L_X5_deliver_2
    exact ⟨fun _ => hK x' hE', fun q => absurd (by decide) q⟩
  · rintro m j σ' hj ⟨x', rfl, hE'⟩ ih
    have hI' := inv_deliver hV ht hI j (by omega)
    have ih2 : ∀ x2, EX p x2 (tDel1 p j (itr (tDel1 p) j s)) → L_X5_deliver_2 Q (fun σ9 => Q σ9) S P m (nI j + 1) (stX σ S x2) := by
      intro x2 h2
      rw [nI_1]
      exact ih _ ⟨x2, rfl, h2⟩
    generalize hs1 : itr (tDel1 p) j s = s1 at *
    have v32 : x' 32 j = s1 32 j := hE'.1 32 j rfl hj
    have v5 : x' 5 0 = s1 5 0 := hE'.1 5 0 rfl (by decide)
    have ivj : vp_in (nI j) 32 := vp_in_nI hj (by decide)
    unfold tDel1 at ih2
    unfold L_X5_deliver_2
    rw [ix_nI (by omega), gX32, gX5, v32, v5]
    refine ⟨fun q => absurd q (nI_ge (b := 32) hj (by decide)), fun _ => ⟨ivj, fun q => ?_, fun q => ?_⟩⟩
    · exact ih2 x' (by rw [if_neg q]; exact hE')
    · rw [if_pos q] at ih2
      obtain ⟨c, h1, h2, h3, h4⟩ := hI'.2.1 j hj
      have hc0 : 0 < c := by
        rcases h4 with z | z
        · exfalso
          rw [z, hI'.1] at q
          have q2 : nI t = -nI 2 := q.symm
          rw [eq_neg (by omega) (by omega) (by omega)] at q2
          exact q2
        · exact z.1
      obtain ⟨l, n, bo, g1, g2, g3, g4, g5, g6, g7⟩ := h3 0 hc0
      obtain ⟨a, a1, a2, a3⟩ := hE'.2.2.1 j hj
      obtain ⟨f1, f2, f3⟩ := a3 c h2 (by omega) 0 hc0
      rw [show (a + 0) % 12 = a by omega] at f1 f2 f3
      rw [g4] at f1
      rw [g5] at f2
      rw [g6] at f3
      rw [Nat.add_zero] at g4 g5 g6
      have esl : (nI j * 12) + (jrem (gI (stX σ S x') 31 S (ix (nI j)) + 0) 12) = nI (12 * j + a) := by
        rw [ix_nI (by omega), gX31, a2, show nI a + 0 = nI (a + 0) from add_nI a 0, show jrem (nI (a + 0)) 12 = nI ((a + 0) % 12) from rem_nI (d := 12) (by omega) (by omega) (by omega), show nI j * 12 = nI (j * 12) from mul_nI j 12, add_nI]
        exact congrArg nI (by omega)
      unfold S_X3_slot
      rw [esl]
      refine ⟨ivj, ?_⟩
      refine c_pop hE' hj a2 a1 h2 hc0 (by omega) (fun x2 hx2 hx3 hx4 => ?_)
      have hPop : Inv p t (fun i => if i < j then t + 1 else t) (b + j) (tPop j s1) := inv_pop hV hI' hj h2 hc0 (by omega) (fun _ _ => rfl)
      have k1 : x2 34 (12 * j + a) = nI l := (hx3 34 _ (by omega)).trans f1
      have k2 : x2 35 (12 * j + a) = nI n := (hx3 35 _ (by omega)).trans f2
      have k3 : x2 36 (12 * j + a) = nI bo := (hx3 36 _ (by omega)).trans f3
      have r16 : jrem (nI j) 16 = nI (j % 16) := rem_nI (d := 16) (by omega) (by omega) (by omega)
      have e16 : nI j / 16 = nI (j / 16) := div_nI (d := 16) (by omega) (by omega) (by omega)
      unfold tLeave at ih2
      rw [g4, g5, g6, ix_nI (by omega)] at ih2
      have sw : ¬ (6 ≤ j % 16 ∧ j % 16 < 12) → S_X5_arriveAtSwitch S P (nI j) (nI (12 * j + a)) (stX σ S x2) (fun σ6 => J_X5_deliver_66 Q (L_X5_deliver_2 Q (fun σ9 => Q σ9) S P m) (fun σ9 => Q σ9) S P (nI j) σ6) := by
        intro hx
        rw [if_neg hx] at ih2
        exact c_switch hV hX hO hPop hx2 (net := j / 16) (fp := j % 16) (by omega) (by omega) g1 g2 g3 g7 (by omega) (by omega) (by omega) k1 k2 k3 (fun x3 h3 => ih2 x3 h3)
      unfold S_X5_leadsToEnd
      rw [r16]
      refine ⟨fun z => ⟨fun _ => ?_, fun y => absurd rfl y⟩, fun z => ⟨fun z2 => ⟨fun _ => ?_, fun y => absurd rfl y⟩, fun z2 => ⟨fun y => absurd y (by decide), fun _ => ?_⟩⟩⟩
      · simp (disch := omega) only [litI, lt_nI] at z
        exact sw (by omega)
      · simp (disch := omega) only [litI, lt_nI, le_nI] at z z2
        exact sw (by omega)
      · simp (disch := omega) only [litI, lt_nI, le_nI] at z z2
        have hx : 6 ≤ j % 16 ∧ j % 16 < 12 := by omega
        rw [if_pos hx] at ih2
        have he : on p l (6 + (j % 16 - 6)) := by
          rw [show 6 + (j % 16 - 6) = j % 16 by omega]; exact g7
        obtain ⟨i, hi, hre⟩ := on_end (hV.2.2.2.2.2.2.2.2 l g1) (by omega) hV.2.2.2.2.2.1 hV.2.2.2.2.2.2.2.1 hV.1 he
        rw [rIx_of (hV.2.2.2.2.2.2.2.2 l g1) hi hre] at ih2
        have hrc := (hV.2.2.2.2.2.2.2.2 l g1).2.2.2.2.2.2.1
        have isl : vp_in (nI (12 * j + a)) 384 := vp_in_nI (by omega) (by decide)
        unfold S_X5_arriveAtEnd
        rw [r16, ix_nI (k := 12 * j + a) (by omega), gX34, k1, show nI (j % 16) - 6 = nI (j % 16 - 6) from sub_nI hx.1, ← hre]
        refine ⟨isl, c_earAt hV hX g1 hi ⟨fun y => ?_, fun _ => ⟨isl, isl, ?_⟩⟩⟩
        · exfalso
          have y2 : nI (3 * l + i) = -nI 1 := y
          rw [eq_neg (by omega) (by omega) (by omega)] at y2
          exact y2
        · have p5 : tPop j s1 5 0 = s1 5 0 := pop_nf (by decide)
          rw [gX35, gX36, gX5, k2, k3, hx4, v5, e16, ← p5]
          exact c_hear hV hX hPop hx2 ht (by omega) g1 hi (by omega) g2 g3 (fun x3 h3 => ih2 x3 h3)
end ClsOps3
