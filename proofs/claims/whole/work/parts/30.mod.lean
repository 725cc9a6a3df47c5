section ModOps5
variable {σ : Hp} {p : PD} {r : Nat → Int32} {tk c0 : Int32} {s : SD}
theorem m_crL {l net' t b : Nat} {lo : Nat → Nat} {Q K : Hp → Prop} (hV : PV p) (hP : PM σ p) (hI : Inv p t lo b s) (hE : EM r tk c0 s) (hl : l < nL p) (hK : ∀ r', EM r' tk c0 (tCr p l 1 (tCr p l 0 s)) → K (stM σ r' tk)) : ∃ m, L_X8_goesTick_25 Q K (nI l) m (nI 0) (stM σ r tk) := by
  have hL := hV.2.2.2.2.2.2.1
  have hcl := cred_lt hV hl
  have h40 := (hV.2.2.2.2.2.2.2.2 l hl).2.2.2.1
  have one : ∀ (m net : Nat) (r1 : Nat → Int32) (s1 : SD), net < 2 → Inv p t lo b s1 → EM r1 tk c0 s1 → (∀ r', EM r' tk c0 (tCr p l net s1) → L_X8_goesTick_25 Q K (nI l) m (nI net + 1) (stM σ r' tk)) → L_X8_goesTick_25 Q K (nI l) (m + 1) (nI net) (stM σ r1 tk) := by
    intro m net r1 s1 hnet hI1 hE1 hk
    obtain ⟨c, c1, c2⟩ := (hI1.2.2.1 l hl).2.2.2 net hnet
    have v45 : r1 (41 + 8 * net + l) = nI c := ((congrArg r1 (Nat.add_assoc 41 (8 * net) l)).trans (hE1.1 45 (8 * net + l) (by show 8 * net + l < 16; omega))).trans c2
    have e1 : ((41 + (8 * nI net)) + nI l : Int32) = nI (41 + 8 * net + l) := by simp only [litI, mul_nI, add_nI]
    have iv : vp_in (nI (41 + 8 * net + l)) 1809 := vp_in_nI (by omega) (by decide)
    have e2 : nI (p 2 (7 * l + 2)) = nI (ln p l) := rfl
    have fin : ∀ v, v = (if nI c + nI (ln p l) ≤ nI (cred p l) then nI c + nI (ln p l) else nI (cred p l)) → J_X8_goesTick_87 Q (L_X8_goesTick_25 Q K (nI l) m) K (nI l) (nI net) v (nI (41 + 8 * net + l)) (stM σ r1 tk) := by
      intro v hv
      unfold J_X8_goesTick_87
      refine ⟨iv, fun σ8 e8 => ?_⟩
      rw [ix_nI (by omega), sM61] at e8
      subst e8
      refine hk _ ?_
      unfold tCr
      rw [c2, ← hv]
      refine hE1.set (f := 45) (k := 8 * net + l) (by show 8 * net + l < 16; omega) (by show _ = 41 + (8 * net + l); omega) _
    unfold L_X8_goesTick_25
    rw [e1]
    have hn2 : ¬ (2 : Int32) ≤ nI net := nI_ge (b := 2) hnet (by decide)
    refine ⟨fun q => absurd q hn2, fun _ => ⟨iv, m_linkOf hV hP hl rfl (j := 2) rfl (by decide) (m_cred hV hP hl rfl ?_)⟩⟩
    rw [ix_nI (by omega), gM61, v45, e2]
    refine ⟨fun q => ⟨iv, m_linkOf hV hP hl rfl (j := 2) rfl (by decide) ?_⟩, fun q => m_cred hV hP hl rfl ?_⟩
    · rw [e2]
      exact fin _ (by rw [if_pos q])
    · exact fin _ (by rw [if_neg q])
  refine ⟨3, one 2 0 r s (by decide) hI hE (fun r1 h1 => ?_)⟩
  rw [show nI 0 + 1 = nI 1 from rfl]
  refine one 1 1 r1 _ (by decide) (inv_cr hV hI hl (by decide)) h1 (fun r2 h2 => ?_)
  unfold L_X8_goesTick_25
  exact ⟨fun _ => hK r2 h2, fun q => absurd (by decide) q⟩
theorem m_growL {t b : Nat} {lo : Nat → Nat} {Q K : Hp → Prop} (hV : PV p) (hP : PM σ p) (hI : Inv p t lo b s) (hE : EM r tk c0 s) (hK : ∀ r', EM r' tk c0 (tGrow p s) → K (stM σ r' tk)) : ∃ m, L_X8_goesTick_12 Q K m (nI 0) (stM σ r tk) := by
  have hL := hV.2.2.2.2.2.2.1
  have hn : gI σ 53 0 6 = nI (nL p) := hP.1 6 (by decide)
  have v6 : vp_in 6 7 := vp_in_nI (n := 6) (by decide) (by decide)
  have z6 : ix 6 = 6 := rfl
  refine pk_loop (fun m j σ' => L_X8_goesTick_12 Q K m (nI j) σ') (fun j σ' => ∃ r', σ' = stM σ r' tk ∧ EM r' tk c0 (itr (fun l s => tCr p l 1 (tCr p l 0 s)) j s)) (nL p) 0 _ (Nat.zero_le _) ⟨r, rfl, hE⟩ ?_ ?_
  · rintro m σ' ⟨r', rfl, hE'⟩
    unfold L_X8_goesTick_12
    rw [z6, gM53, hn]
    exact ⟨v6, fun _ => hK r' hE', fun q => absurd (nI_le (Nat.le_refl _) (by omega)) q⟩
  · rintro m j σ' hj ⟨r', rfl, hE'⟩ ih
    unfold L_X8_goesTick_12
    rw [z6, gM53, hn]
    refine ⟨v6, fun q => absurd q (nI_ge hj (by omega)), fun _ => ?_⟩
    refine m_crL (net' := 0) hV hP (inv_grow hV hI j (by omega)) hE' hj (fun r2 h2 => ?_)
    rw [nI_1]
    exact ih _ ⟨r2, rfl, h2⟩
theorem m_delL {t b : Nat} {Q K : Hp → Prop} (hV : PV p) (hP : PM σ p) (ht : t < 2 ^ 30) (hI : Inv p t (fun _ => t) b s) (hE : EM r tk c0 s) (hK : ∀ r' tk', EM r' tk' c0 (tDeliver p s) → K (stM σ r' tk')) : ∃ m, L_X8_goesTick_102 Q K m (nI 0) (stM σ r tk) := by
  have hr := hV.2.1
  refine pk_loop (fun m j σ' => L_X8_goesTick_102 Q K m (nI j) σ') (fun j σ' => ∃ r' tk', σ' = stM σ r' tk' ∧ EM r' tk' c0 (itr (tDel1 p) j s)) 32 0 _ (Nat.zero_le _) ⟨r, tk, rfl, hE⟩ ?_ ?_
  · rintro m σ' ⟨r', tk', rfl, hE'⟩
    unfold L_X8_goesTick_102
    exact ⟨fun _ => hK r' tk' hE', fun q => absurd (by decide) q⟩
  · rintro m j σ' hj ⟨r', tk', rfl, hE'⟩ ih
    have hI' := inv_deliver hV ht hI j (by omega)
    have ih2 : ∀ r2 tk2, EM r2 tk2 c0 (tDel1 p j (itr (tDel1 p) j s)) → L_X8_goesTick_102 Q K m (nI j + 1) (stM σ r2 tk2) := by
      intro r2 tk2 h2
      rw [nI_1]
      exact ih _ ⟨r2, tk2, rfl, h2⟩
    generalize hs1 : itr (tDel1 p) j s = s1 at *
    have v32 : r' (81 + 39 * j + 1) = s1 32 j := hE'.1 32 j hj
    have v5 : r' 0 = s1 5 0 := hE'.1 5 0 (by decide)
    have e1 : ((81 + (39 * nI j)) + 1 : Int32) = nI (81 + 39 * j + 1) := by simp only [litI, mul_nI, add_nI]
    unfold L_X8_goesTick_102
    rw [e1, ix_nI (by omega), show ix 0 = 0 from rfl, gM61, gM61, v32, v5]
    refine ⟨fun q => absurd q (nI_ge (b := 32) hj (by decide)), fun _ => ⟨vp_in_nI (by omega) (by decide), vp0, fun q => ?_, fun q => ?_⟩⟩
    · exact ih2 r' tk' (by unfold tDel1; rw [if_neg q]; exact hE')
    · obtain ⟨c, h1, h2, h3, h4⟩ := hI'.2.1 j hj
      have hc0 : 0 < c := by
        rcases h4 with z | z
        · exfalso
          rw [z, hI'.1] at q
          have q2 : nI t = -nI 2 := q.symm
          rw [eq_neg (by omega) (by omega) (by omega)] at q2
          exact q2
        · exact z.1
      have e16 : nI j / 16 = nI (j / 16) := div_nI (d := 16) (by omega) (by omega) (by omega)
      have r16 : jrem (nI j) 16 = nI (j % 16) := rem_nI (d := 16) (by omega) (by omega) (by omega)
      have ej : 16 * (j / 16) + j % 16 = j := by omega
      rw [e16, r16]
      refine m_leave hV hP ht hI' hE' (by omega) (by omega) (by rw [ej]; exact h2) hc0 h1 (fun r2 tk2 h2 => ?_)
      rw [ej] at h2
      exact ih2 r2 tk2 (by unfold tDel1; rw [if_pos q]; exact h2)
theorem m_relL {t b : Nat} {lo : Nat → Nat} {Q K : Hp → Prop} (hV : PV p) (hP : PM σ p) (ht : t < 2 ^ 30) (hI : Inv p t lo b s) (hE : EM r tk c0 s) (hK : ∀ r', EM r' tk c0 (tRelease p s) → K (stM σ r' tk)) : ∃ m, L_X8_goesTick_151 Q K m (nI 0) (stM σ r tk) := by
  have hL := hV.2.2.2.2.2.2.1
  have hn : gI σ 53 0 6 = nI (nL p) := hP.1 6 (by decide)
  have v6 : vp_in 6 7 := vp_in_nI (n := 6) (by decide) (by decide)
  have z6 : ix 6 = 6 := rfl
  have z0 : ix 0 = 0 := rfl
  refine pk_loop (fun m j σ' => L_X8_goesTick_151 Q K m (nI j) σ') (fun j σ' => ∃ r', σ' = stM σ r' tk ∧ EM r' tk c0 (itr (tRel1 p) j s)) (nL p) 0 _ (Nat.zero_le _) ⟨r, rfl, hE⟩ ?_ ?_
  · rintro m σ' ⟨r', rfl, hE'⟩
    unfold L_X8_goesTick_151
    rw [z6, gM53, hn]
    exact ⟨v6, fun _ => hK r' hE', fun q => absurd (nI_le (Nat.le_refl _) (by omega)) q⟩
  · rintro m j σ' hj ⟨r', rfl, hE'⟩ ih
    have hI' := inv_release hV hI j (by omega)
    have ih2 : ∀ r2, EM r2 tk c0 (tRel1 p j (itr (tRel1 p) j s)) → L_X8_goesTick_151 Q K m (nI j + 1) (stM σ r2 tk) := by
      intro r2 h2
      rw [nI_1]
      exact ih _ ⟨r2, rfl, h2⟩
    generalize hs1 : itr (tRel1 p) j s = s1 at *
    have hl8 : j < 8 := by omega
    have v40 : r' (1 + 5 * j + 0) = s1 40 j := hE'.1 40 j hl8
    have v41 : r' (1 + 5 * j + 1) = s1 41 j := hE'.1 41 j hl8
    have v5 : r' 0 = s1 5 0 := hE'.1 5 0 (by decide)
    have e0 : ((1 + (5 * nI j)) + 0 : Int32) = nI (1 + 5 * j + 0) := by simp only [litI, mul_nI, add_nI]
    have e1 : ((1 + (5 * nI j)) + 1 : Int32) = nI (1 + 5 * j + 1) := by simp only [litI, mul_nI, add_nI]
    have iv0 : vp_in (nI (1 + 5 * j + 0)) 1809 := vp_in_nI (by omega) (by decide)
    have iv1 : vp_in (nI (1 + 5 * j + 1)) 1809 := vp_in_nI (by omega) (by decide)
    unfold tRel1 at ih2
    unfold L_X8_goesTick_151 S_X8_linkAt
    rw [z6, gM53, hn, e0, e1]
    dsimp only
    rw [ix_nI (by omega), z0, gM61, v40, gM61, v5, ix_nI (by omega), gM61, v41]
    refine ⟨v6, fun q => absurd q (nI_ge hj (by omega)), fun _ => ⟨iv0, fun q => ?_, fun q => ⟨iv1, vp0, fun q2 => ?_, fun q2 => ⟨iv0, iv0, fun σ24 e24 => ⟨vp0, ?_⟩⟩⟩⟩⟩
    · exact ih2 r' (by rw [if_pos q]; exact hE')
    · exact ih2 r' (by rw [if_neg q, if_pos q2]; exact hE')
    · rw [sM61] at e24
      subst e24
      rw [if_neg q, if_neg q2] at ih2
      have hE1 : EM (upd r' (1 + 5 * j + 0) (s1 40 j - 1)) tk c0 (u s1 40 j (s1 40 j - 1)) := hE'.set (f := 40) (k := j) hl8 rfl _
      have w5 : upd r' (1 + 5 * j + 0) (s1 40 j - 1) 0 = s1 5 0 := (hE1.1 5 0 (by decide)).trans (u_nf _ _ (by decide))
      refine m_linkOf hV hP hj rfl (j := 1) rfl (by decide) ⟨iv1, fun σ29 e29 => ?_⟩
      have e2 : nI (p 2 (7 * j + 1)) = nI (gp p j) := rfl
      rw [gM61, w5, e2, sM61] at e29
      subst e29
      have hE2 := hE1.set (f := 41) (k := j) hl8 (x := 1 + 5 * j + 1) rfl (s1 5 0 + nI (gp p j))
      have hI2 : Inv p t lo b (u (u s1 40 j (s1 40 j - 1)) 41 j (s1 5 0 + nI (gp p j))) := by
        obtain ⟨⟨w, w1, w2⟩, g2, g3, g4⟩ := hI'.2.2.1 j hj
        have hcl := cred_lt hV hj
        have hw0 : 0 < w := by
          rcases Nat.eq_zero_or_pos w with z | z
          · exfalso; apply q; rw [w2, z]; decide
          · exact z
        refine hI'.link (l := j) hV (fun f q1 q2 _ _ k => by rw [u_nf _ _ q2, u_nf _ _ q1]) (fun l' hl' => ⟨by rw [u_nf _ _ (by decide), u_nk _ _ hl'], by rw [u_nk _ _ hl', u_nf _ _ (by decide)], by rw [u_nf _ _ (by decide), u_nf _ _ (by decide)]⟩) ?_
        refine ⟨⟨w - 1, by omega, ?_⟩, ⟨t + gp p j, by omega, ?_⟩, by simpa [u_at] using g3, fun net hn => by simpa [u_at] using g4 net hn⟩
        · rw [u_nf _ _ (by decide), u_self, w2]; exact sub_nI hw0
        · rw [u_self, hI'.1]; exact add_nI _ _
      exact m_bear hV hP hI2 hE2 hj rfl (fun r2 h2 => ih2 r2 h2)
theorem m_sendsL {t b : Nat} {Q K : Hp → Prop} (hV : PV p) (hP : PM σ p) (ht : t < 2 ^ 30) (hI : Inv p t (fun _ => t + 1) b s) (hE : EM r tk c0 s) (hK : ∀ r', EM r' tk c0 (tSends p s) → K (stM σ r' tk)) : ∃ m, L_X8_goesTick_245 Q K m (nI 0) (stM σ r tk) := by
  refine pk_loop (fun m j σ' => L_X8_goesTick_245 Q K m (nI j) σ') (fun j σ' => ∃ r', σ' = stM σ r' tk ∧ EM r' tk c0 (itr (fun q s => tNote q (tSend p q s)) j s)) 32 0 _ (Nat.zero_le _) ⟨r, rfl, hE⟩ ?_ ?_
  · rintro m σ' ⟨r', rfl, hE'⟩
    unfold L_X8_goesTick_245
    exact ⟨fun _ => hK r' hE', fun q => absurd (by decide) q⟩
  · rintro m j σ' hj ⟨r', rfl, hE'⟩ ih
    have hI' := inv_sends hV hI j (by omega)
    have ih2 : ∀ r2, EM r2 tk c0 (tNote j (tSend p j (itr (fun q s => tNote q (tSend p q s)) j s))) → L_X8_goesTick_245 Q K m (nI j + 1) (stM σ r2 tk) := by
      intro r2 h2
      rw [nI_1]
      exact ih _ ⟨r2, rfl, h2⟩
    generalize hs1 : itr (fun q s => tNote q (tSend p q s)) j s = s1 at *
    have e16 : nI j / 16 = nI (j / 16) := div_nI (d := 16) (by omega) (by omega) (by omega)
    have r16 : jrem (nI j) 16 = nI (j % 16) := rem_nI (d := 16) (by omega) (by omega) (by omega)
    have ej : 16 * (j / 16) + j % 16 = j := by omega
    have e0 : ((81 + (39 * nI j)) + 0 : Int32) = nI (81 + 39 * j) := by simp only [litI, mul_nI, add_nI, Nat.add_zero]
    have e2 : ((81 + (39 * nI j)) + 2 : Int32) = nI (81 + 39 * j + 2) := by simp only [litI, mul_nI, add_nI]
    have iv0 : vp_in (nI (81 + 39 * j)) 1809 := vp_in_nI (by omega) (by decide)
    have iv2 : vp_in (nI (81 + 39 * j + 2)) 1809 := vp_in_nI (by omega) (by decide)
    unfold L_X8_goesTick_245
    refine ⟨fun q => absurd q (nI_ge (b := 32) hj (by decide)), fun _ => ?_⟩
    rw [e16, r16]
    refine m_send hV hP ht hI' hE' (by omega) (by omega) (fun r2 h2 => ?_)
    rw [ej] at h2
    have v30 : r2 (81 + 39 * j) = tSend p j s1 30 j := h2.1 30 j hj
    have v33 : r2 (81 + 39 * j + 2) = tSend p j s1 33 j := h2.1 33 j hj
    have fin : ∀ v, v = (if tSend p j s1 30 j ≤ tSend p j s1 33 j then tSend p j s1 33 j else tSend p j s1 30 j) → J_X8_goesTick_316 Q (L_X8_goesTick_245 Q K m) K (nI j) v (nI (81 + 39 * j + 2)) (stM σ r2 tk) := by
      intro v hv
      unfold J_X8_goesTick_316
      refine ⟨iv2, fun σ35 e35 => ?_⟩
      rw [ix_nI (by omega), sM61] at e35
      subst e35
      refine ih2 _ ?_
      unfold tNote
      rw [← hv]
      exact h2.set (f := 33) (k := j) hj rfl _
    rw [e0, e2, ix_nI (by omega), ix_nI (by omega), gM61, gM61, v30, v33]
    exact ⟨iv0, iv2, fun q => ⟨iv2, fin _ (by rw [if_pos q])⟩, fun q => ⟨iv0, fin _ (by rw [if_neg q])⟩⟩
theorem m_tick {t b : Nat} {Q : Hp → Prop} (hV : PV p) (hP : PM σ p) (ht : t + 1 < 2 ^ 30) (hI : Inv p t (fun _ => t + 1) b s) (hE : EM r tk c0 s) (k : ∀ r' tk', EM r' tk' c0 (tick p s) → Q (stM σ r' tk')) : S_X8_goesTick (stM σ r tk) Q := by
  have v5 : r 0 = s 5 0 := hE.1 5 0 (by decide)
  have z0 : ix 0 = 0 := rfl
  unfold S_X8_goesTick
  refine ⟨vp0, vp0, fun σ1 e1 => ?_⟩
  rw [z0, gM61, v5, sM61] at e1
  subst e1
  have hE1 : EM (upd r 0 (s 5 0 + 1)) tk c0 (u s 5 0 (s 5 0 + 1)) := hE.set (f := 5) (k := 0) (by decide) rfl _
  have hI1 := inv_time hI
  have hI2 := inv_grow hV hI1 (nL p) (Nat.le_refl _)
  have hI3 : Inv p (t + 1) (fun _ => t + 1 + 1) (b + 32) (tDeliver p (tGrow p (u s 5 0 (s 5 0 + 1)))) := (inv_deliver hV ht hI2 32 (Nat.le_refl _)).mono (fun q hq => by rw [if_pos hq]; exact Nat.le_refl _) (Nat.le_refl _)
  have hI4 := inv_release hV hI3 (nL p) (Nat.le_refl _)
  refine m_growL hV hP hI1 hE1 (fun r2 h2 => ?_)
  refine m_delL hV hP ht hI2 h2 (fun r3 tk3 h3 => ?_)
  refine m_relL hV hP ht hI3 h3 (fun r4 h4 => ?_)
  exact m_sendsL hV hP ht hI4 h4 (fun r5 h5 => k r5 tk3 h5)
end ModOps5
