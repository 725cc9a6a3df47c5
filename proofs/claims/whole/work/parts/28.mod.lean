section ModOps3
variable {σ : Hp} {p : PD} {r : Nat → Int32} {tk c0 : Int32} {s : SD}
theorem m_isWhole {ear net : Nat} {num : Int32} {Q : Int32 → Hp → Prop} (hE : EM r tk c0 s) (he : ear < 24) (hnet : net < 2) (k1 : whole1 (s 17 (2 * ear + net)) num → Q 1 (stM σ r tk)) (k0 : ¬ whole1 (s 17 (2 * ear + net)) num → Q 0 (stM σ r tk)) : S_X8_isWhole (nI (1329 + 20 * ear)) (nI net) num (stM σ r tk) Q := by
  have h17 : r (1329 + 20 * ear + 8 + net) = s 17 (2 * ear + net) := by
    have := hE.1 17 (2 * ear + net) (by show 2 * ear + net < 48; omega)
    rw [← this]
    refine congrArg r ?_
    show _ = 1329 + 20 * ((2 * ear + net) / 2) + 8 + (2 * ear + net) % 2
    omega
  have e : gI (stM σ r tk) 61 0 (ix ((nI (1329 + 20 * ear) + 8) + nI net)) = s 17 (2 * ear + net) := by
    rw [show (8 : Int32) = nI 8 from rfl, add_nI, add_nI, ix_nI (by omega), gM61, h17]
  have i1 : vp_in ((nI (1329 + 20 * ear) + 8) + nI net) 1809 := by
    rw [show (8 : Int32) = nI 8 from rfl, add_nI, add_nI]
    exact vp_in_nI (by omega) (by decide)
  unfold S_X8_isWhole
  rw [e]
  unfold whole1 at k1 k0
  refine ⟨i1, fun q => k1 (Or.inl q), fun q => ⟨fun q2 => k1 (Or.inr (Or.inl q2)), fun q2 => s_beh ⟨fun q3 => k1 (Or.inr (Or.inr (Or.inl q3))), fun q3 => s_beh (s_beh ⟨fun q4 => k0 ?_, fun q4 => k1 (Or.inr (Or.inr (Or.inr q4)))⟩)⟩⟩⟩
  rintro (z | z | z | z)
  · exact q z
  · exact q2 z
  · exact q3 z
  · exact q4 z
theorem s_ahead {a b : Int32} {σ : Hp} {Q : Int32 → Hp → Prop} (h : Q (aheadN a b) σ) : S_X8_ahead a b σ Q := by
  unfold S_X8_ahead
  unfold aheadN at h
  refine ⟨fun q => ⟨fun q2 => ?_, fun q2 => ?_⟩, fun q => ?_⟩
  · rw [if_neg q, if_neg q2] at h; exact h
  · rw [if_neg q, if_pos q2] at h; exact h
  · rw [if_pos q] at h; exact h
theorem i_at {a d x : Nat} (hx : x = a + d) (h : x < 1809) {e : Int32} (he : e = nI d) : vp_in (nI a + e) 1809 ∧ ix (nI a + e) = x := by
  subst he; subst hx
  rw [add_nI]
  exact ⟨vp_in_nI h (by decide), ix_nI (by omega)⟩
theorem m_isTaken {ear : Nat} {num : Int32} {Q : Int32 → Hp → Prop} (hP : PM σ p) (hE : EM r tk c0 s) (he : ear < 24) (k1 : fresh1 p s ear num → Q 1 (stM σ r tk)) (k0 : ¬ fresh1 p s ear num → Q 0 (stM σ r tk)) : S_X8_isTaken (nI (1329 + 20 * ear)) num (stM σ r tk) Q := by
  have h9 : r (1329 + 20 * ear) = s 9 ear := hE.1 9 ear he
  have h12 : r (1329 + 20 * ear + 3) = s 12 ear := hE.1 12 ear he
  have h13 : r (1329 + 20 * ear + 4) = s 13 ear := hE.1 13 ear he
  have h5 : r 0 = s 5 0 := hE.1 5 0 (by decide)
  have hsk : gI σ 53 0 4 = nI (pSkew p) := hP.1 4 (by decide)
  have hwi : gI σ 53 0 3 = nI (pWin p) := hP.1 3 (by decide)
  have fin : ¬ (s 9 ear = 0) → ¬ (nI (pSkew p) < s 5 0 - s 13 ear) → (num = 0 → s 12 ear = 0) → J_X8_isTaken_54 Q num (s 12 ear) (stM σ r tk) := by
    intro a1 a2 a3
    unfold J_X8_isTaken_54
    refine s_ahead ?_
    have e3 : gI (stM σ r tk) 53 0 (ix 3) = nI (pWin p) := (gM53 σ r tk 0 3).trans hwi
    rw [e3]
    refine ⟨vp_in_nI (n := 3) (by decide) (by decide), s_in ?_⟩
    unfold fresh1 at k1 k0
    by_cases z1 : aheadN (s 12 ear) num < 1
    · rw [if_pos z1]
      refine ⟨zb0, k0 ?_⟩
      rintro (y | y | y | y)
      · exact a1 y
      · exact a2 y
      · exact y.2 (a3 y.1)
      · exact absurd y.1 (Int32.not_le.mpr z1)
    · rw [if_neg z1]
      by_cases z2 : nI (pWin p) < aheadN (s 12 ear) num
      · rw [if_pos z2]
        refine ⟨zb0, k0 ?_⟩
        rintro (y | y | y | y)
        · exact a1 y
        · exact a2 y
        · exact y.2 (a3 y.1)
        · exact absurd y.2 (Int32.not_le.mpr z2)
      · rw [if_neg z2]
        exact ⟨zb1, k1 (Or.inr (Or.inr (Or.inr ⟨Int32.not_lt.mp z1, Int32.not_lt.mp z2⟩)))⟩
  unfold S_X8_isTaken
  simp (disch := omega) only [litI, mul_nI, add_nI, Nat.add_zero, Nat.zero_add, Nat.mul_zero, Nat.zero_mul, Nat.mul_one, vpin_nI, ix_nI, true_and, and_true, forall_eq, gM61, gM28, gM53, gM55, gM57, sM61, sM28, pk_us, pk_un, h9, h12, h13, h5, hsk]
  unfold fresh1 at k1
  refine ⟨fun q => k1 (Or.inl q), fun q => ⟨fun q2 => k1 (Or.inr (Or.inl q2)), fun q2 => ⟨fun q3 => fin q q2 (fun z => absurd z q3), fun q3 => ⟨fun q4 => fin q q2 (fun _ => q4), fun q4 => k1 (Or.inr (Or.inr (Or.inl ⟨q3, q4⟩)))⟩⟩⟩⟩
/-- the shift of the ten latest, from the last place down to place k -/
def memP (ear k : Nat) (s : SD) : SD := fun f x => if f = 18 ∧ x / 10 = ear ∧ k < x % 10 then s 18 (x - 1) else s f x
theorem memP_at (ear k : Nat) (s : SD) (f x : Nat) : memP ear k s f x = if f = 18 ∧ x / 10 = ear ∧ k < x % 10 then s 18 (x - 1) else s f x := rfl
theorem tMem_at (ear : Nat) (num : Int32) (s : SD) (f k : Nat) : tMem ear num s f k = if f = 18 ∧ k / 10 = ear then (if k % 10 = 0 then num else s 18 (k - 1)) else s f k := rfl
theorem memP_9 (ear : Nat) (s : SD) : memP ear 9 s = s := by
  funext f x
  unfold memP
  rw [if_neg (by omega)]
theorem memP_step {ear k : Nat} (hk : k + 1 < 10) (s : SD) : u (memP ear (k + 1) s) 18 (10 * ear + (k + 1)) (s 18 (10 * ear + k)) = memP ear k s := by
  funext f x
  rw [u_at, memP_at, memP_at]
  by_cases h1 : f = 18 ∧ x = 10 * ear + (k + 1)
  · obtain ⟨rfl, rfl⟩ := h1
    rw [if_pos ⟨rfl, rfl⟩, if_pos ⟨rfl, by omega, by omega⟩]
    rfl
  · rw [if_neg h1]
    by_cases h2 : f = 18 ∧ x / 10 = ear ∧ k + 1 < x % 10
    · rw [if_pos h2, if_pos ⟨h2.1, h2.2.1, by omega⟩]
    · rw [if_neg h2, if_neg (by omega)]
theorem memP_0 (ear : Nat) (num : Int32) (s : SD) : u (memP ear 0 s) 18 (10 * ear) num = tMem ear num s := by
  funext f x
  rw [u_at, memP_at, tMem_at]
  by_cases h1 : f = 18 ∧ x = 10 * ear
  · obtain ⟨rfl, rfl⟩ := h1
    rw [if_pos ⟨rfl, rfl⟩, if_pos ⟨rfl, by omega⟩, if_pos (by omega)]
  · rw [if_neg h1]
    by_cases h2 : f = 18 ∧ x / 10 = ear ∧ 0 < x % 10
    · rw [if_pos h2, if_pos ⟨h2.1, h2.2.1⟩, if_neg (by omega)]
    · rw [if_neg h2]
      by_cases h3 : f = 18 ∧ x / 10 = ear
      · exfalso; omega
      · rw [if_neg h3]
theorem m_memL {ear : Nat} {x3 : Int32} {Q K : Hp → Prop} (he : ear < 24) (hE : EM r tk c0 s) (hK : ∀ r', EM r' tk c0 (memP ear 0 s) → K (stM σ r' tk)) : ∃ m, L_X8_takes_161 Q K (nI (1329 + 20 * ear)) x3 m (nI 9) (stM σ r tk) := by
  have key : ∀ (e : Nat) (σ' : Hp), (e ≤ 9 ∧ ∃ r', σ' = stM σ r' tk ∧ EM r' tk c0 (memP ear e s)) → L_X8_takes_161 Q K (nI (1329 + 20 * ear)) x3 (e + 1) (nI e) σ' := by
    refine pk_loopD (fun m i σ' => L_X8_takes_161 Q K (nI (1329 + 20 * ear)) x3 m (nI i) σ') (fun i σ' => i ≤ 9 ∧ ∃ r', σ' = stM σ r' tk ∧ EM r' tk c0 (memP ear i s)) ?_ ?_
    · rintro n σ' ⟨-, r', rfl, hE'⟩
      unfold L_X8_takes_161
      exact ⟨fun _ => hK r' hE', fun q => absurd (by decide) q⟩
    · rintro n i σ' ⟨hi, r', rfl, hE'⟩ ih
      unfold L_X8_takes_161
      refine ⟨fun q => absurd q (nI_nle (by omega) (by omega)), fun _ => ?_⟩
      have hx : r' (1329 + 20 * ear + 10 + (i + 1) - 1) = s 18 (10 * ear + i) := by
        have h1 := hE'.1 18 (10 * ear + i) (by show 10 * ear + i < 240; omega)
        have h2 : memP ear (i + 1) s 18 (10 * ear + i) = s 18 (10 * ear + i) := by
          unfold memP
          rw [if_neg (by omega)]
        rw [← h2, ← h1]
        refine congrArg r' ?_
        show _ = 1329 + 20 * ((10 * ear + i) / 10) + 10 + (10 * ear + i) % 10
        omega
      simp (disch := omega) only [litI, mul_nI, add_nI, Nat.add_zero, Nat.zero_add, Nat.mul_zero, Nat.zero_mul, Nat.mul_one, vpin_nI, ix_nI, true_and, and_true, forall_eq, gM61, gM28, gM53, gM55, gM57, sM61, sM28, pk_us, pk_un, sub_nI, hx]
      rw [show nI (i + 1) + (-nI 1) = nI i from m1_nI (by omega)]
      refine ih _ ⟨by omega, _, rfl, ?_⟩
      rw [← memP_step (by omega)]
      refine hE'.set (f := 18) (k := 10 * ear + (i + 1)) (by show 10 * ear + (i + 1) < 240; omega) ?_ _
      show _ = 1329 + 20 * ((10 * ear + (i + 1)) / 10) + 10 + (10 * ear + (i + 1)) % 10
      omega
  exact ⟨10, key 9 _ ⟨by decide, r, rfl, by rw [memP_9]; exact hE⟩⟩
theorem m_tkLast {ear : Nat} {num v : Int32} {Q : Hp → Prop} (he : ear < 24) (hE : EM r tk c0 s) (hk : ∀ r' tk', EM r' tk' c0 (tMem ear num (u (u s 16 ear v) 0 0 (s 0 0 + 1))) → Q (stM σ r' tk')) : J_X8_takes_156 Q (nI (1329 + 20 * ear)) num v (nI (1329 + 20 * ear) + 7) (stM σ r tk) := by
  have i7 := i_at (a := 1329 + 20 * ear) (d := 7) (x := 1329 + 20 * ear + 7) rfl (by omega) (e := 7) rfl
  have i10 := i_at (a := 1329 + 20 * ear) (d := 10) (x := 1329 + 20 * ear + 10) rfl (by omega) (e := 10) rfl
  unfold J_X8_takes_156
  refine ⟨i7.1, fun σ6 h6 => ?_⟩
  subst h6
  rw [i7.2, sM61]
  refine m_memL he (hE.set (f := 16) (k := ear) he rfl v) (fun r' hE' => ⟨i10.1, fun σ10 h10 σ11 h11 => ?_⟩)
  subst h10
  subst h11
  rw [i10.2, sM61, gM28, sM28]
  refine hk _ _ ?_
  have hset := hE'.set (f := 18) (k := 10 * ear) (by show 10 * ear < 240; omega) (x := 1329 + 20 * ear + 10) (by show _ = 1329 + 20 * (10 * ear / 10) + 10 + 10 * ear % 10; omega) num
  rw [memP_0] at hset
  refine ⟨fun f x hx => ?_, ?_⟩
  · rw [hset.1 f x hx]
    have hf : f ≠ 0 := fun q => by subst q; exact absurd hx (Nat.not_lt_zero _)
    rw [tMem_at, tMem_at, u_nf (f := 0) _ _ (by decide), u_nf (f := 0) _ _ hf]
  · rw [tMem_at, if_neg (by omega), u_self, hE.2]
    show s 0 0 - c0 + 1 = s 0 0 + 1 - c0
    rw [Int32.sub_eq_add_neg, Int32.sub_eq_add_neg, Int32.add_assoc, Int32.add_comm (-c0) 1, ← Int32.add_assoc]
theorem m_tkMid {ear : Nat} {num v lt x16 : Int32} {Q : Hp → Prop} (he : ear < 24) (hE : EM r tk c0 s) (e16 : s 16 ear = x16) (hk : ∀ r' tk', EM r' tk' c0 (tMem ear num (u (u (u s 15 ear v) 16 ear (if x16 = -2 then lt else if x16 ≤ lt then x16 else lt)) 0 0 (s 0 0 + 1))) → Q (stM σ r' tk')) : J_X8_takes_105 Q (nI (1329 + 20 * ear)) num lt v (nI (1329 + 20 * ear) + 6) (stM σ r tk) := by
  have i7 := i_at (a := 1329 + 20 * ear) (d := 7) (x := 1329 + 20 * ear + 7) rfl (by omega) (e := 7) rfl
  have i6 := i_at (a := 1329 + 20 * ear) (d := 6) (x := 1329 + 20 * ear + 6) rfl (by omega) (e := 6) rfl
  have hE2 := hE.set (f := 15) (k := ear) he (x := 1329 + 20 * ear + 6) rfl v
  have g16 : upd r (1329 + 20 * ear + 6) v (1329 + 20 * ear + 7) = x16 := (hE2.1 16 ear he).trans ((u_nf _ _ (by decide)).trans e16)
  have hk2 : ∀ v', v' = (if x16 = -2 then lt else if x16 ≤ lt then x16 else lt) → J_X8_takes_156 Q (nI (1329 + 20 * ear)) num v' (nI (1329 + 20 * ear) + 7) (stM σ (upd r (1329 + 20 * ear + 6) v) tk) := by
    intro v' hv'
    refine m_tkLast he hE2 (fun r' tk' h => ?_)
    rw [u_nf (f := 15) _ _ (by decide)] at h
    rw [hv'] at h
    exact hk r' tk' h
  unfold J_X8_takes_105
  refine ⟨i6.1, fun σ5 hσ5 => ?_⟩
  subst hσ5
  rw [i6.2, sM61, i7.2, gM61, g16]
  refine ⟨i7.1, fun q => hk2 _ (by rw [if_pos q]), fun q => ⟨i7.1, fun q2 => ⟨i7.1, hk2 _ (by rw [if_neg q, if_pos q2])⟩, fun q2 => hk2 _ (by rw [if_neg q, if_neg q2])⟩⟩
theorem m_takes {ear net : Nat} {num born : Int32} {Q : Hp → Prop} (he : ear < 24) (hE : EM r tk c0 s) (k : ∀ r' tk', EM r' tk' c0 (tTake ear net num born s) → Q (stM σ r' tk')) : S_X8_takes (nI (1329 + 20 * ear)) (nI net) num born (stM σ r tk) Q := by
  have h5 : r 0 = s 5 0 := hE.1 5 0 (by decide)
  have h9 : r (1329 + 20 * ear) = s 9 ear := hE.1 9 ear he
  have i0 := i_at (a := 1329 + 20 * ear) (d := 0) (x := 1329 + 20 * ear) rfl (by omega) (e := 0) rfl
  have i3 := i_at (a := 1329 + 20 * ear) (d := 3) (x := 1329 + 20 * ear + 3) rfl (by omega) (e := 3) rfl
  have i4 := i_at (a := 1329 + 20 * ear) (d := 4) (x := 1329 + 20 * ear + 4) rfl (by omega) (e := 4) rfl
  have i5 := i_at (a := 1329 + 20 * ear) (d := 5) (x := 1329 + 20 * ear + 5) rfl (by omega) (e := 5) rfl
  have i6 := i_at (a := 1329 + 20 * ear) (d := 6) (x := 1329 + 20 * ear + 6) rfl (by omega) (e := 6) rfl
  have z0 : ix 0 = 0 := rfl
  have hE1 := hE.set (f := 9) (k := ear) he (x := 1329 + 20 * ear) rfl (s 9 ear + 1)
  have hE2 := hE1.set (f := 12) (k := ear) he (x := 1329 + 20 * ear + 3) rfl num
  have hE3 := hE2.set (f := 13) (k := ear) he (x := 1329 + 20 * ear + 4) rfl (s 5 0)
  have hE4 := hE3.set (f := 14) (k := ear) he (x := 1329 + 20 * ear + 5) rfl (nI net)
  have g5 := (hE2.1 5 0 (by decide)).trans ((u_nf _ _ (by decide)).trans (u_nf _ _ (by decide)))
  have g5 : upd (upd r (1329 + 20 * ear) (s 9 ear + 1)) (1329 + 20 * ear + 3) num 0 = s 5 0 := g5
  have g15 := (hE4.1 15 ear he).trans ((u_nf _ _ (by decide)).trans ((u_nf _ _ (by decide)).trans ((u_nf _ _ (by decide)).trans (u_nf _ _ (by decide)))))
  have g15 : upd (upd (upd (upd r (1329 + 20 * ear) (s 9 ear + 1)) (1329 + 20 * ear + 3) num) (1329 + 20 * ear + 4) (s 5 0)) (1329 + 20 * ear + 5) (nI net) (1329 + 20 * ear + 6) = s 15 ear := g15
  have fin : ∀ v', v' = late1 s ear born → J_X8_takes_105 Q (nI (1329 + 20 * ear)) num (s 5 0 - born) v' (nI (1329 + 20 * ear) + 6) (stM σ (upd (upd (upd (upd r (1329 + 20 * ear) (s 9 ear + 1)) (1329 + 20 * ear + 3) num) (1329 + 20 * ear + 4) (s 5 0)) (1329 + 20 * ear + 5) (nI net)) tk) := by
    intro v' hv'
    refine m_tkMid (x16 := s 16 ear) he hE4 ?_ (fun r' tk' h => k r' tk' ?_)
    · rw [u_nf _ _ (by decide), u_nf _ _ (by decide), u_nf _ _ (by decide), u_nf _ _ (by decide)]
    · rw [u_nf (f := 14) _ _ (by decide), u_nf (f := 13) _ _ (by decide), u_nf (f := 12) _ _ (by decide), u_nf (f := 9) _ _ (by decide), hv'] at h
      exact h
  unfold S_X8_takes
  refine ⟨vp0, i0.1, i0.1, fun σ1 e1 => ⟨i3.1, fun σ2 e2 => ⟨vp0, i4.1, fun σ3 e3 => ⟨i5.1, fun σ4 e4 => ⟨i6.1, ?_⟩⟩⟩⟩⟩
  rw [i0.2, gM61, h9, sM61] at e1
  subst e1
  rw [i3.2, sM61] at e2
  subst e2
  rw [i4.2, z0, gM61, g5, sM61] at e3
  subst e3
  rw [i5.2, sM61] at e4
  subst e4
  rw [i6.2, gM61, g15, z0, gM61, h5]
  unfold J_X8_takes_91
  refine ⟨fun q => fin _ (by unfold late1; rw [if_pos q]), fun q => ⟨i6.1, fun q2 => ⟨i6.1, fin _ (by unfold late1; rw [if_neg q, if_pos q2])⟩, fun q2 => fin _ (by unfold late1; rw [if_neg q, if_neg q2])⟩⟩
theorem m_hear {l i net n t b : Nat} {lo : Nat → Nat} {num born : Int32} {Q : Hp → Prop} (hV : PV p) (hP : PM σ p) (hE : EM r tk c0 s) (hl : l < nL p) (hi : i < rc p l) (hnet : net < 2) (k : ∀ r' tk', EM r' tk' c0 (tHear p (3 * l + i) net num born s) → Q (stM σ r' tk')) : S_X8_arrivesAtEnd (nI net) (nI (re p l i)) (nI l) num born (stM σ r tk) Q := by
  have hLV := hV.2.2.2.2.2.2.2.2 l hl
  have h3 := hLV.2.2.2.2.2.2.1
  have hL := hV.2.2.2.2.2.2.1
  have hE6 := hV.2.2.2.2.2.1
  have hear : 3 * l + i < 24 := by omega
  unfold S_X8_arrivesAtEnd
  refine pk_loop (fun m j σ' => L_X8_arrivesAtEnd_3 Q _ (nI net) (nI (re p l i)) (nI l) num born m (nI j) σ') (fun j σ' => σ' = stM σ r tk) i 0 _ (Nat.zero_le _) rfl ?_ ?_
  · rintro m σ' rfl
    unfold L_X8_arrivesAtEnd_3
    refine m_recv hV hP hl hi rfl rfl ⟨fun _ => ?_, fun q => absurd rfl q⟩
    unfold S_X8_hearAt
    have e : (1329 + (20 * ((3 * nI l) + nI i)) : Int32) = nI (1329 + 20 * (3 * l + i)) := by simp only [litI, mul_nI, add_nI]
    rw [e]
    generalize hg : 3 * l + i = ear at *
    have iw : vp_in ((nI (1329 + 20 * ear) + 8) + nI net) 1809 ∧ ix ((nI (1329 + 20 * ear) + 8) + nI net) = 1329 + 20 * ear + 8 + net := by
      rw [show (8 : Int32) = nI 8 from rfl, add_nI, add_nI]
      exact ⟨vp_in_nI (by omega) (by decide), ix_nI (by omega)⟩
    have hE1 := hE.set (f := 17) (k := 2 * ear + net) (by show 2 * ear + net < 48; omega) (x := 1329 + 20 * ear + 8 + net) (by show _ = 1329 + 20 * ((2 * ear + net) / 2) + 8 + (2 * ear + net) % 2; omega) num
    unfold tHear at k
    refine m_isWhole hE hear hnet (fun hw => ?_) (fun hw => ?_)
    · rw [cif_pos hw] at k
      refine ⟨iw.1, fun σ10 h10 => ?_⟩
      subst h10
      rw [iw.2, sM61]
      refine ⟨fun _ => ?_, fun q => absurd q (by decide)⟩
      unfold tHear1 at k
      refine m_isTaken hP hE1 hear (fun hf => ?_) (fun hf => ?_)
      · rw [cif_pos hf] at k
        refine ⟨fun q => absurd q (by decide), fun _ => ?_⟩
        exact m_takes hear hE1 k
      · rw [cif_neg hf] at k
        refine ⟨fun _ => ?_, fun q => absurd rfl q⟩
        have h11 : upd r (1329 + 20 * ear + 8 + net) num (1329 + 20 * ear + 2) = u s 17 (2 * ear + net) num 11 ear := hE1.1 11 ear hear
        simp (disch := omega) only [litI, add_nI, vpin_nI, ix_nI, true_and, forall_eq, gM61, sM61, h11]
        exact k _ _ (hE1.set (f := 11) (k := ear) hear rfl _)
    · rw [cif_neg hw] at k
      refine ⟨iw.1, fun σ10 h10 => ?_⟩
      subst h10
      rw [iw.2, sM61]
      refine ⟨fun q => absurd rfl q, fun _ => ?_⟩
      have h10 : upd r (1329 + 20 * ear + 8 + net) num (1329 + 20 * ear + 1) = s 10 ear := (hE1.1 10 ear hear).trans (u_nf _ _ (by decide))
      simp (disch := omega) only [litI, add_nI, vpin_nI, ix_nI, true_and, forall_eq, gM61, sM61, h10]
      exact k _ _ (hE1.set (f := 10) (k := ear) hear rfl _)
  · rintro m j σ' hj rfl ih
    unfold L_X8_arrivesAtEnd_3
    refine m_recv hV hP hl (by omega) rfl rfl ⟨fun q => ?_, fun _ => ?_⟩
    · exfalso
      have h1 := (hLV.2.2.2.2.2.2.2.1 j (by omega)).1
      have h2 := (hLV.2.2.2.2.2.2.2.1 i hi).1
      rw [eq_nI (by omega) (by omega)] at q
      have := hLV.2.2.2.2.2.2.2.2 j i (by omega) hi q
      omega
    · rw [nI_1]
      exact ih _ rfl
end ModOps3
