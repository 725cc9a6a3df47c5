section ClsOps4
variable {σ : Hp} {p : PD} {S P : Nat} {x s : SD}
theorem c_bear {l t b : Nat} {lo : Nat → Nat} {Q : Int32 → Hp → Prop} (hV : PV p) (hX : PX σ P p) (hI : Inv p t lo b s) (hE : EX p x s) (hl : l < nL p) (k : ∀ x', EX p x' (tBear p l s) → Q (lostB p l s) (stX σ S x')) : S_X5_bear S P (nI l) (stX σ S x) Q := by
  have hL := hV.2.2.2.2.2.2.1
  have hE6 := hV.2.2.2.2.2.1
  have hr12 := hV.2.1
  have hfr := (hV.2.2.2.2.2.2.2.2 l hl).1
  obtain ⟨p1, p2, p3, p4⟩ := hX.2.2.2.2.2.2.2.2.1 l hl
  have iv8 : vp_in (nI l) 8 := vp_in_nI (by omega) (by decide)
  obtain ⟨ca, a1, a2, -⟩ := hI.2.1 (fr p l) (by omega)
  obtain ⟨cb, b1, b2, -⟩ := hI.2.1 (16 + fr p l) (by omega)
  -- one network
  have one : ∀ (K : Int32 → Hp → Prop) (m net c : Nat) (z : Int32) (x1 s1 : SD), net < 2 → EX p x1 s1 → c ≤ pRoom p → s1 30 (16 * net + fr p l) = nI c → s1 42 l = s 42 l →
      (∀ x', EX p x' (tBear1 p l net (s 42 l) s1) → L_X5_bear_5 Q K S P (nI l) m (z + (if s1 30 (16 * net + fr p l) = nI (pRoom p) then 1 else 0)) (nI net + 1) (stX σ S x')) → L_X5_bear_5 Q K S P (nI l) (m + 1) z (nI net) (stX σ S x1) := by
    intro K m net c z x1 s1 hnet hE1 hc1 hc2 h42 hk
    have e42 : x1 42 l = s 42 l := (hE1.1 42 l rfl (by show l < 8; omega)).trans h42
    have e5 : x1 5 0 = s1 5 0 := hE1.1 5 0 rfl (by decide)
    have eq1 : (nI net * 16) + nI (fr p l) = nI (16 * net + fr p l) := by
      rw [show nI net * 16 = nI (net * 16) from mul_nI net 16, add_nI]; exact congrArg nI (by omega)
    have eq3 : (nI net * 3) + 0 = nI (3 * net) := by
      rw [show nI net * 3 = nI (net * 3) from mul_nI net 3, show nI (net * 3) + 0 = nI (net * 3 + 0) from add_nI _ 0]; exact congrArg nI (by omega)
    have iv3 : vp_in (nI (3 * net)) 6 := vp_in_nI (by omega) (by decide)
    unfold tBear1 at hk
    unfold L_X5_bear_5
    rw [ix_nI (by omega), gX2, hX.2.1, gX25, p1, eq1, gX42, e42, gX5, e5, eq3]
    refine ⟨fun q => absurd q (nI_ge (b := 2) hnet (by decide)), fun _ => ⟨iv8, iv8, ?_⟩⟩
    refine c_admit (p := p) hr12 hE1 (by omega) hc2 hc1 rfl (fun hf0 => ?_) (fun hf1 x2 hx2 hx3 hx4 => ?_)
    · rw [if_pos hf0] at hk
      refine ⟨iv3, fun _ => ?_, fun y => absurd rfl y⟩
      unfold J_X5_bear_69
      refine ⟨iv3, fun σ3 e3 => ?_⟩
      have h39 : x1 39 (3 * net) = s1 39 (3 * net) := hE1.1 39 (3 * net) rfl (by show 3 * net < 6; omega)
      rw [ix_nI (by omega), gX39, h39, sX39] at e3
      subst e3
      refine ⟨fun _ => hk _ ?_, fun y => absurd rfl y⟩
      rw [come_full hf0, show 3 * ((16 * net + fr p l) / 16) = 3 * net by omega]
      exact hE1.set (f := 39) rfl (by decide) (by decide) _ _
    · rw [if_neg hf1] at hk
      refine ⟨iv3, fun y => absurd y (by decide), fun _ => ?_⟩
      unfold J_X5_bear_69
      refine ⟨iv3, fun σ3 e3 => ?_⟩
      rw [ix_nI (by omega), gX39, sX39, u_add0] at e3
      subst e3
      refine ⟨fun y => absurd y (by decide), fun _ => hk _ ?_⟩
      rw [come_add hf1]
      exact hx2
  unfold S_X5_bear
  have hA : s 30 (16 * 0 + fr p l) = nI ca := by rw [show 16 * 0 + fr p l = fr p l by omega]; exact a2
  refine ⟨3, one _ 2 0 ca 0 x s (by decide) hE a1 hA rfl (fun x1 hE1 => ?_)⟩
  have f42 : tBear1 p l 0 (s 42 l) s 42 l = s 42 l := by unfold tBear1; exact come_nf (by decide)
  have hB : tBear1 p l 0 (s 42 l) s 30 (16 * 1 + fr p l) = nI cb := by
    unfold tBear1
    rw [come_30o (by omega)]; exact b2
  rw [show nI 0 + 1 = nI 1 from rfl]
  refine one _ 1 1 cb _ x1 _ (by decide) hE1 b1 hB f42 (fun x2 hE2 => ?_)
  unfold L_X5_bear_5
  refine ⟨fun _ => ⟨iv8, s_nb ⟨iv8, fun σ9 e9 => ⟨iv8, iv8, fun σ10 e10 => ?_⟩⟩⟩, fun q => absurd (by decide) q⟩
  have g42 : x2 42 l = s 42 l := by
    rw [hE2.1 42 l rfl (by show l < 8; omega)]
    unfold tBear1
    rw [come_nf (by decide), come_nf (by decide)]
  have g43 : x2 43 l = s 43 l := by
    rw [hE2.1 43 l rfl (by show l < 8; omega)]
    unfold tBear1
    rw [come_nf (by decide), come_nf (by decide)]
  rw [ix_nI (by omega), gX42, g42, sX42] at e9
  subst e9
  rw [ix_nI (by omega), gX43, u_nf _ _ (by decide), g43, sX43] at e10
  subst e10
  have ez : (0 : Int32) + (if s 30 (16 * 0 + fr p l) = nI (pRoom p) then 1 else 0) + (if tBear1 p l 0 (s 42 l) s 30 (16 * 1 + fr p l) = nI (pRoom p) then 1 else 0) = lostB p l s := by
    unfold lostB
    rw [hB, hA, a2, b2, Int32.zero_add]
  rw [ez]
  refine k _ ?_
  unfold tBear
  exact (hE2.set (f := 42) rfl (by decide) (by decide) _ _).set (f := 43) rfl (by decide) (by decide) _ _
theorem come_41 {q l : Nat} {a n bo v : Int32} (s : SD) : tCome p q a n bo (u s 41 l v) = u (tCome p q a n bo s) 41 l v := by
  unfold tCome
  rw [u_nf _ _ (show (30:Nat) ≠ 41 by decide), u_nf _ _ (show (39:Nat) ≠ 41 by decide)]
  split
  · rw [u_comm _ _ _ (show (41:Nat) ≠ 39 by decide)]
  · rw [u_comm _ _ _ (show (41:Nat) ≠ 34 by decide), u_comm _ _ _ (show (41:Nat) ≠ 35 by decide), u_comm _ _ _ (show (41:Nat) ≠ 36 by decide), u_comm _ _ _ (show (41:Nat) ≠ 30 by decide)]
theorem bear_41 {l : Nat} {v : Int32} (s : SD) : tBear p l (u s 41 l v) = u (tBear p l s) 41 l v := by
  unfold tBear tBear1
  rw [u_nf _ _ (show (42:Nat) ≠ 41 by decide), u_nf _ _ (show (43:Nat) ≠ 41 by decide), u_nf _ _ (show (5:Nat) ≠ 41 by decide), come_41, u_nf _ _ (show (5:Nat) ≠ 41 by decide), come_41]
  rw [u_comm _ _ _ (show (41:Nat) ≠ 42 by decide), u_comm _ _ _ (show (41:Nat) ≠ 43 by decide)]
theorem c_release {t b : Nat} {lo : Nat → Nat} {Q : Hp → Prop} (hV : PV p) (hX : PX σ P p) (ht : t < 2 ^ 30) (hI : Inv p t lo b s) (hE : EX p x s) (hK : ∀ x', EX p x' (tRelease p s) → Q (stX σ S x')) : S_X5_release S P (stX σ S x) Q := by
  have hL := hV.2.2.2.2.2.2.1
  unfold S_X5_release
  refine pk_loop (fun m j σ' => L_X5_release_2 Q _ S P m (nI j) σ') (fun j σ' => ∃ x', σ' = stX σ S x' ∧ EX p x' (itr (tRel1 p) j s)) (nL p) 0 _ (Nat.zero_le _) ⟨x, rfl, hE⟩ ?_ ?_
  · rintro m σ' ⟨x', rfl, hE'⟩
    unfold L_X5_release_2
    rw [gX2, hX.2.2.2.2.2.2.1]
    exact ⟨fun _ => hK x' hE', fun q => absurd (nI_le (Nat.le_refl _) (by omega)) q⟩
  · rintro m j σ' hj ⟨x', rfl, hE'⟩ ih
    have hI' := inv_release hV hI j (by omega)
    have ih2 : ∀ x2, EX p x2 (tRel1 p j (itr (tRel1 p) j s)) → L_X5_release_2 Q (fun σ6 => Q σ6) S P m (nI j + 1) (stX σ S x2) := by
      intro x2 h2
      rw [nI_1]
      exact ih _ ⟨x2, rfl, h2⟩
    generalize hs1 : itr (tRel1 p) j s = s1 at *
    have hl8 : j < 8 := by omega
    have v40 : x' 40 j = s1 40 j := hE'.1 40 j rfl hl8
    have v41 : x' 41 j = s1 41 j := hE'.1 41 j rfl hl8
    have v5 : x' 5 0 = s1 5 0 := hE'.1 5 0 rfl (by decide)
    have iv8 : vp_in (nI j) 8 := vp_in_nI hl8 (by decide)
    obtain ⟨p1, p2, p3, p4⟩ := hX.2.2.2.2.2.2.2.2.1 j hj
    unfold tRel1 at ih2
    unfold L_X5_release_2
    rw [gX2, hX.2.2.2.2.2.2.1, ix_nI (by omega), gX40, gX5, gX41, v40, v5, v41]
    refine ⟨fun q => absurd q (nI_ge hj (by omega)), fun _ => ⟨iv8, fun q => ?_, fun q => ⟨iv8, fun q2 => ?_, fun q2 => ⟨iv8, iv8, fun σ1 e1 => ?_⟩⟩⟩⟩
    · exact ih2 x' (by rw [if_pos q]; exact hE')
    · exact ih2 x' (by rw [if_neg q, if_pos q2]; exact hE')
    · rw [sX40] at e1
      subst e1
      rw [if_neg q, if_neg q2, bear_41] at ih2
      have hE1 := hE'.set (f := 40) rfl (by decide) (by decide) j (s1 40 j - 1)
      have hI2 : Inv p t lo b (u s1 40 j (s1 40 j - 1)) := by
        obtain ⟨⟨w, w1, w2⟩, g2, g3, g4⟩ := hI'.2.2.1 j hj
        have hw0 : 0 < w := by
          rcases Nat.eq_zero_or_pos w with z | z
          · exfalso; apply q; rw [w2, z]; decide
          · exact z
        refine hI'.link (l := j) hV (fun f q1 _ _ _ k => u_nf _ _ q1) (fun l' hl' => ⟨u_nk _ _ hl', u_nf _ _ (by decide), u_nf _ _ (by decide)⟩) ?_
        refine ⟨⟨w - 1, by omega, ?_⟩, by simpa [u_at] using g2, by simpa [u_at] using g3, fun net hn => by simpa [u_at] using g4 net hn⟩
        rw [u_self, w2]; exact sub_nI hw0
      refine c_bear hV hX hI2 hE1 hj (fun x2 hE2 => ⟨iv8, iv8, fun σ4 e4 => ?_⟩)
      have w5 : x2 5 0 = s1 5 0 := by
        rw [hE2.1 5 0 rfl (by decide)]
        unfold tBear tBear1
        rw [u_nf _ _ (by decide), u_nf _ _ (by decide), come_nf (by decide), come_nf (by decide), u_nf _ _ (by decide)]
      rw [gX5, w5, gX26, p2, sX41] at e4
      subst e4
      exact ih2 _ (hE2.set (f := 41) rfl (by decide) (by decide) _ _)
theorem c_sending {t b : Nat} {Q : Hp → Prop} (hV : PV p) (hX : PX σ P p) (ht : t < 2 ^ 30) (hI : Inv p t (fun _ => t + 1) b s) (hI2 : ∀ j, j ≤ 32 → Inv p t (fun _ => t + 1) b (itr (tSend p) j s)) (hE : EX p x s) (hK : ∀ x', EX p x' (itr (tSend p) 32 s) → Q (stX σ S x')) : S_X5_beginSending S P (stX σ S x) Q := by
  have hL := hV.2.2.2.2.2.2.1
  have hr12 := hV.2.1
  unfold S_X5_beginSending
  refine pk_loop (fun m j σ' => L_X5_beginSending_2 Q _ S P m (nI j) σ') (fun j σ' => ∃ x', σ' = stX σ S x' ∧ EX p x' (itr (tSend p) j s)) 32 0 _ (Nat.zero_le _) ⟨x, rfl, hE⟩ ?_ ?_
  · rintro m σ' ⟨x', rfl, hE'⟩
    unfold L_X5_beginSending_2
    exact ⟨fun _ => hK x' hE', fun q => absurd (by decide) q⟩
  · rintro m j σ' hj ⟨x', rfl, hE'⟩ ih
    have hI' := hI2 j (by omega)
    have ih2 : ∀ x2, EX p x2 (tSend p j (itr (tSend p) j s)) → L_X5_beginSending_2 Q (fun σ8 => Q σ8) S P m (nI j + 1) (stX σ S x2) := by
      intro x2 h2
      rw [nI_1]
      exact ih _ ⟨x2, rfl, h2⟩
    generalize hs1 : itr (tSend p) j s = s1 at *
    obtain ⟨c, h1, h2, h3, h4⟩ := hI'.2.1 j hj
    have v30 : x' 30 j = nI c := (hE'.1 30 j rfl hj).trans h2
    have v32 : x' 32 j = s1 32 j := hE'.1 32 j rfl hj
    have v5 : x' 5 0 = s1 5 0 := hE'.1 5 0 rfl (by decide)
    have ivj : vp_in (nI j) 32 := vp_in_nI hj (by decide)
    have r16 : jrem (nI j) 16 = nI (j % 16) := rem_nI (d := 16) (by omega) (by omega) (by omega)
    unfold tSend at ih2
    rw [h2] at ih2
    unfold L_X5_beginSending_2 S_X3_sends S_X3_slot
    rw [ix_nI (k := j) (by omega), gX30, v30, gX32, v32, r16]
    refine ⟨fun q => absurd q (nI_ge (b := 32) hj (by decide)), fun _ => ⟨ivj, fun q => ?_, fun q => ⟨ivj, fun q2 => ⟨fun y => absurd rfl y, fun _ => ⟨ivj, ?_⟩⟩, fun q2 => ⟨fun _ => ?_, fun y => absurd y (by decide)⟩⟩⟩⟩
    · have hc0 : c = 0 := by
        rw [show (0 : Int32) = nI 0 from rfl, le_nI (by omega) (by omega)] at q
        omega
      refine ih2 x' ?_
      rw [hc0]
      by_cases z : s1 32 j = -2
      · rw [if_pos z, if_pos (show nI 0 = 0 from rfl)]; exact hE'
      · rw [if_neg z]; exact hE'
    · have hc0 : 0 < c := by
        rw [show (0 : Int32) = nI 0 from rfl, le_nI (by omega) (by omega)] at q
        omega
      rw [if_pos q2, if_neg (nI_ne0 hc0 (by omega))] at ih2
      obtain ⟨l, n, bo, g1, g2, g3, g4, g5, g6, g7⟩ := h3 0 hc0
      obtain ⟨a, a1, a2, a3⟩ := hE'.2.2.1 j hj
      obtain ⟨f1, f2, f3⟩ := a3 c h2 (by omega) 0 hc0
      rw [show (a + 0) % 12 = a by omega] at f1 f2 f3
      rw [g4] at f1
      rw [Nat.add_zero] at f3 g4
      have esl : (nI j * 12) + (jrem (gI (stX σ S x') 31 S j + 0) 12) = nI (12 * j + a) := by
        rw [gX31, a2, show nI a + 0 = nI (a + 0) from add_nI a 0, show jrem (nI (a + 0)) 12 = nI ((a + 0) % 12) from rem_nI (d := 12) (by omega) (by omega) (by omega), show nI j * 12 = nI (j * 12) from mul_nI j 12, add_nI]
        exact congrArg nI (by omega)
      obtain ⟨p1, p2, p3, p4⟩ := hX.2.2.2.2.2.2.2.2.1 l g1
      have isl : vp_in (nI (12 * j + a)) 384 := vp_in_nI (by omega) (by decide)
      have ivl : vp_in (nI l) 8 := vp_in_nI (by omega) (by decide)
      rw [esl]
      dsimp only
      rw [ix_nI (k := 12 * j + a) (by omega), gX34, f1, ix_nI (k := l) (by omega), gX27, p3, gX5, v5]
      rw [g4, ix_nI (by omega)] at ih2
      refine ⟨isl, ivl, ivj, fun σ5 e5 => ?_⟩
      rw [sX32] at e5
      subst e5
      have hE1 := hE'.set (f := 32) rfl (by decide) (by decide) j (s1 5 0 + nI (ln p l))
      refine ⟨fun q3 => ?_, fun q3 => ⟨ivl, isl, ivl, fun σ6 e6 => ?_⟩⟩
      · simp (disch := omega) only [litI, le_nI] at q3
        unfold tWait at ih2
        rw [if_neg (by omega)] at ih2
        exact ih2 _ hE1
      · simp (disch := omega) only [litI, le_nI] at q3
        unfold tWait at ih2
        rw [if_pos (by omega), u_nf (f := 32) _ _ (by decide), u_nf (f := 32) _ _ (by decide), u_nf (f := 32) _ _ (by decide)] at ih2
        have v44 : x' 44 l = s1 44 l := hE'.1 44 l (lv44 (by omega)) (by show l < 8; omega)
        rw [gX44, gX5, gX36, u_nf _ _ (by decide), u_nf _ _ (by decide), u_nf _ _ (by decide), v44, v5, f3, sX44] at e6
        subst e6
        by_cases z : s1 44 l < s1 5 0 - s1 36 (12 * j)
        · rw [if_neg (Int32.not_le.mpr z)] at ih2
          rw [if_pos z]
          exact ih2 _ (hE1.set (f := 44) rfl (by decide) (by decide) _ _)
        · rw [if_pos (Int32.not_lt.mp z)] at ih2
          rw [if_neg z]
          refine ih2 _ (hE1.xcongr (fun f k => ?_))
          rw [u_at]
          by_cases y : f = 44 ∧ k = l
          · rw [if_pos y, y.1, y.2, u_nf _ _ (by decide), v44]
          · rw [if_neg y]
    · rw [if_neg q2] at ih2
      exact ih2 x' hE'
theorem c_note {Q : Hp → Prop} (hE : EX p x s) (hK : ∀ x', EX p x' (itr tNote 32 s) → Q (stX σ S x')) : S_X3_noteMost S (stX σ S x) Q := by
  unfold S_X3_noteMost
  refine pk_loop (fun m j σ' => L_X3_noteMost_2 Q _ S m (nI j) σ') (fun j σ' => ∃ x', σ' = stX σ S x' ∧ EX p x' (itr tNote j s)) 32 0 _ (Nat.zero_le _) ⟨x, rfl, hE⟩ ?_ ?_
  · rintro m σ' ⟨x', rfl, hE'⟩
    unfold L_X3_noteMost_2
    exact ⟨fun _ => hK x' hE', fun q => absurd (by decide) q⟩
  · rintro m j σ' hj ⟨x', rfl, hE'⟩ ih
    have v30 : x' 30 j = itr tNote j s 30 j := hE'.1 30 j rfl hj
    have v33 : x' 33 j = itr tNote j s 33 j := hE'.1 33 j rfl hj
    have ivj : vp_in (nI j) 32 := vp_in_nI hj (by decide)
    unfold L_X3_noteMost_2
    rw [ix_nI (by omega), gX33, gX30, v30, v33]
    refine ⟨fun q => absurd q (nI_ge (b := 32) hj (by decide)), fun _ => ⟨ivj, ivj, ivj, fun σ1 e1 => ?_⟩⟩
    rw [sX33] at e1
    subst e1
    rw [nI_1]
    refine ih _ ⟨_, rfl, ?_⟩
    have ev : (if itr tNote j s 33 j < itr tNote j s 30 j then itr tNote j s 30 j else itr tNote j s 33 j) = (if itr tNote j s 30 j ≤ itr tNote j s 33 j then itr tNote j s 33 j else itr tNote j s 30 j) := by
      by_cases z : itr tNote j s 33 j < itr tNote j s 30 j
      · rw [if_pos z, if_neg (Int32.not_le.mpr z)]
      · rw [if_neg z, if_pos (Int32.not_lt.mp z)]
    rw [ev]
    exact hE'.set (f := 33) rfl (by decide) (by decide) _ _
end ClsOps4
