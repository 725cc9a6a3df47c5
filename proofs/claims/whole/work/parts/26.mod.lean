/-! ===== the reference's methods, over numbers ===== -/
def EM (r : Nat → Int32) (tk c0 : Int32) (s : SD) : Prop := ER r s ∧ tk = s 0 0 - c0
theorem EM.set {r : Nat → Int32} {tk c0 : Int32} {s : SD} (h : EM r tk c0 s) {f k : Nat} (hk : k < vlen f) {x : Nat} (hx : x = mi f k) (v : Int32) : EM (upd r x v) tk c0 (u s f k v) := by
  refine ⟨h.1.set hk hx v, ?_⟩
  have hf : f ≠ 0 := fun q => by subst q; exact absurd hk (Nat.not_lt_zero _)
  rw [u_nf _ _ (Ne.symm hf)]
  exact h.2
theorem s_in {x a b : Int32} {σ : Hp} {Q : Int32 → Hp → Prop} (h : Q (if x < a then 0 else if b < x then 0 else 1) σ) : S_X8_in x a b σ Q := by
  unfold S_X8_in
  refine ⟨fun q => ?_, fun q => ⟨fun q2 => ?_, fun q2 => ?_⟩⟩
  · rw [if_pos q] at h; exact h
  · rw [if_neg q, if_pos q2] at h; exact h
  · rw [if_neg q, if_neg q2] at h; exact h
theorem s_beh {x : Int32} {σ : Hp} {Q : Int32 → Hp → Prop} (h : Q (beh x) σ) : S_X8_behind x σ Q := by
  unfold S_X8_behind
  unfold beh at h
  refine ⟨fun q => ?_, fun q => ?_⟩
  · rw [if_neg q] at h; exact h
  · rw [if_pos q] at h; exact h
section ModOps
variable {σ : Hp} {p : PD} {r : Nat → Int32} {tk c0 : Int32} {s : SD}
theorem m_linkOf {l j : Nat} {x y : Int32} {Q : Int32 → Hp → Prop} (hV : PV p) (hP : PM σ p) (hl : l < nL p) (hx : x = nI l) (hy : y = nI j) (hj : j < 4) (k : Q (nI (p 2 (7 * l + j))) (stM σ r tk)) : S_X8_linkOf x y (stM σ r tk) Q := by
  subst hx; subst hy
  have hL := hV.2.2.2.2.2.2.1
  unfold S_X8_linkOf
  simp (disch := omega) only [litI, mul_nI, add_nI, Nat.add_zero, Nat.zero_add, Nat.mul_zero, Nat.zero_mul, Nat.mul_one, vpin_nI, ix_nI, true_and, and_true, forall_eq, gM61, gM28, gM53, gM55, gM57, sM61, sM28, pk_us, pk_un, hP.2.2.1 l hl j hj]
  exact k
theorem m_recv {l i : Nat} {x y : Int32} {Q : Int32 → Hp → Prop} (hV : PV p) (hP : PM σ p) (hl : l < nL p) (hi : i < rc p l) (hx : x = nI l) (hy : y = nI i) (k : Q (nI (re p l i)) (stM σ r tk)) : S_X8_receiverOf x y (stM σ r tk) Q := by
  subst hx; subst hy
  have hL := hV.2.2.2.2.2.2.1
  have h3 := (hV.2.2.2.2.2.2.2.2 l hl).2.2.2.2.2.2.1
  unfold S_X8_receiverOf S_X8_linkOf
  have e : (7 * nI l) + (4 + nI i) = nI (7 * l + 4 + i) := by
    simp only [litI, mul_nI, add_nI]
    exact congrArg nI (by omega)
  rw [e]
  simp (disch := omega) only [litI, mul_nI, add_nI, Nat.add_zero, Nat.zero_add, Nat.mul_zero, Nat.zero_mul, Nat.mul_one, vpin_nI, ix_nI, true_and, and_true, forall_eq, gM61, gM28, gM53, gM55, gM57, sM61, sM28, pk_us, pk_un, hP.2.2.2 l hl i hi]
  exact k
theorem m_cred {l : Nat} {x : Int32} {Q : Int32 → Hp → Prop} (hV : PV p) (hP : PM σ p) (hl : l < nL p) (hx : x = nI l) (k : Q (nI (cred p l)) (stM σ r tk)) : S_X8_mostCredit x (stM σ r tk) Q := by
  unfold S_X8_mostCredit
  refine m_linkOf hV hP hl hx (j := 2) rfl (by decide) ?_
  refine m_linkOf hV hP hl hx (j := 1) rfl (by decide) ?_
  have e : gI σ 53 0 2 = nI (pJit p) := hP.1 2 (by decide)
  simp (disch := omega) only [litI, mul_nI, add_nI, Nat.add_zero, Nat.zero_add, Nat.mul_zero, Nat.zero_mul, Nat.mul_one, vpin_nI, ix_nI, true_and, and_true, forall_eq, gM61, gM28, gM53, gM55, gM57, sM61, sM28, pk_us, pk_un, e]
  exact k
theorem m_come {net pt c : Nat} {l num born : Int32} {Q : Int32 → Hp → Prop} (hP : PM σ p) (hE : EM r tk c0 s) (hnet : net < 2) (hpt : pt < 16) (hc : s 30 (16 * net + pt) = nI c) (hc12 : c ≤ pRoom p) (hroom : pRoom p ≤ 12)
    (k : ∀ r', EM r' tk c0 (tCome p (16 * net + pt) l num born s) → Q (if s 30 (16 * net + pt) = nI (pRoom p) then 0 else 1) (stM σ r' tk)) : S_X8_comes (nI net) (nI pt) l num born (stM σ r tk) Q := by
  obtain ⟨q, hq⟩ : ∃ q, q = 16 * net + pt := ⟨_, rfl⟩
  have hq32 : q < 32 := by omega
  rw [← hq] at hc k
  have h30 : r (81 + 39 * q) = nI c := (hE.1 30 q hq32).trans hc
  have hrm : gI σ 53 0 1 = nI (pRoom p) := hP.1 1 (by decide)
  unfold S_X8_comes S_X8_portAt
  simp (disch := omega) only [litI, mul_nI, add_nI, Nat.add_zero, Nat.zero_add, Nat.mul_zero, Nat.zero_mul, Nat.mul_one, vpin_nI, ix_nI, true_and, and_true, forall_eq, gM61, gM28, gM53, gM55, gM57, sM61, sM28, pk_us, pk_un, ← hq, h30, hrm]
  have hd : 3 * (q / 16) = 3 * net := by omega
  refine ⟨fun h => ?_, fun h => ?_⟩
  · have e : tCome p q l num born s = u (u (u (u s 34 (12 * q + c) l) 35 (12 * q + c) num) 36 (12 * q + c) born) 30 q (nI (c + 1)) := by
      unfold tCome
      rw [hc, if_neg h, ix_nI (by omega), nI_1]
    rw [hc, if_neg h, e] at k
    have hc2 : c < 12 := by
      rw [eq_nI (by omega) (by omega)] at h
      omega
    have d1 : (12 * q + c) / 12 = q := by omega
    have d2 : (12 * q + c) % 12 = c := by omega
    have v1 : 12 * q + c < 384 := by omega
    refine k _ ((((hE.set (f := 34) (k := 12 * q + c) v1 ?_ l).set (f := 35) (k := 12 * q + c) v1 ?_ num).set (f := 36) (k := 12 * q + c) v1 ?_ born).set (f := 30) (k := q) hq32 rfl _)
    · show _ = 81 + 39 * ((12 * q + c) / 12) + 3 + 3 * ((12 * q + c) % 12)
      rw [d1, d2]
    · show _ = 81 + 39 * ((12 * q + c) / 12) + 3 + 3 * ((12 * q + c) % 12) + 1
      rw [d1, d2]
    · show _ = 81 + 39 * ((12 * q + c) / 12) + 3 + 3 * ((12 * q + c) % 12) + 2
      rw [d1, d2]
  · have e : tCome p q l num born s = u s 39 (3 * net) (s 39 (3 * net) + nI 1) := by
      unfold tCome
      rw [hc, if_pos h, hd]
      rfl
    rw [hc, if_pos h, e] at k
    have h39 : r (73 + 3 * net) = s 39 (3 * net) := hE.1 39 (3 * net) (by show 3 * net < 6; omega)
    rw [h39]
    exact k _ (hE.set (f := 39) (k := 3 * net) (by show 3 * net < 6; omega) rfl _)
def lostB (p : PD) (l : Nat) (s : SD) : Int32 := (if s 30 (fr p l) = nI (pRoom p) then 1 else 0) + (if s 30 (16 + fr p l) = nI (pRoom p) then 1 else 0)
theorem come_30o {q q' : Nat} {l num born : Int32} (h : q' ≠ q) : tCome p q l num born s 30 q' = s 30 q' := by
  unfold tCome
  split
  · rw [u_nf _ _ (by decide)]
  · rw [u_nk _ _ h, u_nf _ _ (by decide), u_nf _ _ (by decide), u_nf _ _ (by decide)]
theorem vp0 : vp_in 0 1809 := vp_in_nI (n := 0) (by decide) (by decide)
theorem m_bearL {l n ca cb : Nat} {Q : Int32 → Hp → Prop} {K : Int32 → Hp → Prop} (hV : PV p) (hP : PM σ p) (hE : EM r tk c0 s) (hl : l < nL p) (a1 : ca ≤ pRoom p) (a2 : s 30 (fr p l) = nI ca) (b1 : cb ≤ pRoom p) (b2 : s 30 (16 + fr p l) = nI cb)
    (hK : ∀ r' z, EM r' tk c0 (tBear1 p l 1 (nI n) (tBear1 p l 0 (nI n) s)) → z = lostB p l s → K z (stM σ r' tk)) : ∃ m, L_X8_isBorn_16 Q K (nI l) (nI n) m (nI 0) (nI 0) (stM σ r tk) := by
  have hE6 := hV.2.2.2.2.2.1
  have hr12 := hV.2.1
  have hfr := (hV.2.2.2.2.2.2.2.2 l hl).1
  have h5 : r 0 = s 5 0 := hE.1 5 0 (by decide)
  have e0 : gI (stM σ r tk) 61 0 (ix 0) = s 5 0 := (gM61 σ r tk _).trans h5
  have hA : s 30 (16 * 0 + fr p l) = nI ca := by rw [show 16 * 0 + fr p l = fr p l by omega]; exact a2
  refine ⟨3, ?_⟩
  unfold L_X8_isBorn_16
  refine ⟨fun q => absurd q (by decide), fun _ => ?_⟩
  refine m_linkOf hV hP hl rfl (j := 0) rfl (by decide) ?_
  refine ⟨vp0, ?_⟩
  rw [e0]
  refine m_come (net := 0) (pt := fr p l) hP hE (by decide) (by omega) hA a1 hr12 (fun r1 hE1 => ?_)
  have step : ∀ z1, L_X8_isBorn_16 Q K (nI l) (nI n) 2 (nI 0 + (if s 30 (fr p l) = nI (pRoom p) then 1 else 0)) (nI 0 + 1) (stM σ r1 tk) ∨ z1 = (0 : Int32) := by
    intro z1
    left
    have h5a : r1 0 = tCome p (16 * 0 + fr p l) (nI l) (nI n) (s 5 0) s 5 0 := hE1.1 5 0 (by decide)
    have e1 : gI (stM σ r1 tk) 61 0 (ix 0) = tCome p (16 * 0 + fr p l) (nI l) (nI n) (s 5 0) s 5 0 := (gM61 σ r1 tk _).trans h5a
    have hB : tCome p (16 * 0 + fr p l) (nI l) (nI n) (s 5 0) s 30 (16 * 1 + fr p l) = nI cb := by
      rw [come_30o (by omega)]; exact b2
    unfold L_X8_isBorn_16
    refine ⟨fun q => absurd q (by decide), fun _ => ?_⟩
    refine m_linkOf hV hP hl rfl (j := 0) rfl (by decide) ?_
    refine ⟨vp0, ?_⟩
    rw [e1]
    refine m_come (net := 1) (pt := fr p l) hP hE1 (by decide) (by omega) hB b1 hr12 (fun r2 hE2 => ?_)
    have fin : ∀ z, z = (if s 30 (16 + fr p l) = nI (pRoom p) then (1 : Int32) else 0) → J_X8_isBorn_51 Q (L_X8_isBorn_16 Q K (nI l) (nI n) 1) K (nI l) (nI n) (nI 0 + 1) z (nI 0 + (if s 30 (fr p l) = nI (pRoom p) then 1 else 0)) (stM σ r2 tk) := by
      intro z hz
      unfold J_X8_isBorn_51
      unfold L_X8_isBorn_16
      refine ⟨fun _ => ?_, fun q => absurd (by decide) q⟩
      refine hK r2 _ hE2 ?_
      unfold lostB
      rw [hz, show nI 0 = (0 : Int32) from rfl, Int32.zero_add]
    rw [hB]
    have b3 : s 30 (16 + fr p l) = nI cb := b2
    by_cases hf : nI cb = nI (pRoom p)
    · rw [if_pos hf]
      exact ⟨fun _ => fin _ (by rw [b3, if_pos hf]), fun q => absurd rfl q⟩
    · rw [if_neg hf]
      exact ⟨fun q => absurd q (by decide), fun _ => fin _ (by rw [b3, if_neg hf])⟩
  have step := (step 1).resolve_right (by decide)
  rw [hA]
  by_cases hf : nI ca = nI (pRoom p)
  · rw [if_pos hf]
    rw [a2, if_pos hf] at step
    exact ⟨fun _ => step, fun q => absurd rfl q⟩
  · rw [if_neg hf]
    rw [a2, if_neg hf] at step
    exact ⟨fun q => absurd q (by decide), fun _ => step⟩
theorem m_bear {l t b : Nat} {lo : Nat → Nat} {x : Int32} {Q : Int32 → Hp → Prop} (hV : PV p) (hP : PM σ p) (hI : Inv p t lo b s) (hE : EM r tk c0 s) (hl : l < nL p) (hx : x = nI l) (k : ∀ r', EM r' tk c0 (tBear p l s) → Q (lostB p l s) (stM σ r' tk)) : S_X8_isBorn x (stM σ r tk) Q := by
  subst hx
  have hL := hV.2.2.2.2.2.2.1
  have hE6 := hV.2.2.2.2.2.1
  have hr12 := hV.2.1
  have hfr := (hV.2.2.2.2.2.2.2.2 l hl).1
  obtain ⟨n, n1, n2⟩ := (hI.2.2.1 l hl).2.2.1
  obtain ⟨ca, a1, a2, -⟩ := hI.2.1 (fr p l) (by omega)
  obtain ⟨cb, b1, b2, -⟩ := hI.2.1 (16 + fr p l) (by omega)
  have h42 : r (1 + 5 * l + 2) = nI n := (hE.1 42 l (by show l < 8; omega)).trans n2
  unfold S_X8_isBorn S_X8_linkAt
  simp (disch := omega) only [litI, mul_nI, add_nI, Nat.add_zero, Nat.zero_add, Nat.mul_zero, Nat.zero_mul, Nat.mul_one, vpin_nI, ix_nI, true_and, and_true, forall_eq, gM61, gM28, gM53, gM55, gM57, sM61, sM28, pk_us, pk_un, h42]
  refine m_bearL hV hP hE hl a1 a2 b1 b2 (fun r' z hE' hz => ?_)
  subst hz
  refine s_beh ?_
  have h43 : r' (1 + 5 * l + 3) = s 43 l := by
    have := hE'.1 43 l (by show l < 8; omega)
    refine this.trans ?_
    unfold tBear1
    rw [come_nf (by decide), come_nf (by decide)]
  simp (disch := omega) only [litI, mul_nI, add_nI, Nat.add_zero, Nat.zero_add, Nat.mul_zero, Nat.zero_mul, Nat.mul_one, vpin_nI, ix_nI, true_and, and_true, forall_eq, gM61, gM28, gM53, gM55, gM57, sM61, sM28, pk_us, pk_un, h43]
  refine k _ ?_
  unfold tBear
  rw [n2]
  exact (hE'.set (f := 42) (k := l) (by show l < 8; omega) rfl _).set (f := 43) (k := l) (by show l < 8; omega) rfl _
theorem m_lies {l sw to : Nat} {Q : Int32 → Hp → Prop} (hV : PV p) (hP : PM σ p) (hl : l < nL p) (hsw : sw < 100) (ht : 6 ≤ to) (ht2 : to < 16) (k1 : lies p l sw to → Q 1 (stM σ r tk)) (k0 : ¬ lies p l sw to → Q 0 (stM σ r tk)) : S_X8_liesBehind (nI l) (nI sw) (nI to) (stM σ r tk) Q := by
  have hLV := hV.2.2.2.2.2.2.2.2 l hl
  have h3 := hLV.2.2.2.2.2.2.1
  have hE6 := hV.2.2.2.2.2.1
  have hS3 := hV.1
  unfold S_X8_liesBehind
  refine pk_loop (fun n i σ' => L_X8_liesBehind_3 Q (fun σ8 => Q 0 σ8) (fun σ9 => Q 1 σ9) (nI l) (nI sw) (nI to) n (nI i) σ') (fun i σ' => σ' = stM σ r tk ∧ ∀ j, j < i → ¬ liesI p l sw to j) (rc p l) 0 _ (Nat.zero_le _) ⟨rfl, fun j hj => absurd hj (Nat.not_lt_zero _)⟩ ?_ ?_
  · rintro n σ' ⟨rfl, hno⟩
    unfold L_X8_liesBehind_3
    refine m_linkOf hV hP hl rfl (j := 3) rfl (by decide) ?_
    refine ⟨fun _ => k0 (fun ⟨i, hi, hx⟩ => hno i hi hx), fun q => absurd (nI_le (Nat.le_refl _) (by show rc p l < 2 ^ 31; omega)) q⟩
  · rintro n i σ' hi ⟨rfl, hno⟩ ih
    have hri := (hLV.2.2.2.2.2.2.2.1 i hi).1
    have hes := hV.2.2.2.2.2.2.2.1 _ hri
    have hg : gI (stM σ r tk) 55 0 (re p l i) = nI (eS p (re p l i)) := (gM55 σ r tk 0 _).trans (hP.2.1 _ hri)
    have yes : liesI p l sw to i → Q 1 (stM σ r tk) := fun h => k1 ⟨i, hi, h⟩
    have no : ¬ liesI p l sw to i → L_X8_liesBehind_3 Q (fun σ8 => Q 0 σ8) (fun σ9 => Q 1 σ9) (nI l) (nI sw) (nI to) n (nI i + 1) (stM σ r tk) := by
      intro h
      rw [nI_1]
      refine ih _ ⟨rfl, fun j hj => ?_⟩
      rcases Nat.lt_or_ge j i with z | z
      · exact hno j z
      · have : j = i := by omega
        rw [this]; exact h
    have fin0 : ¬ liesI p l sw to i → J_X8_liesBehind_109 Q (L_X8_liesBehind_3 Q (fun σ8 => Q 0 σ8) (fun σ9 => Q 1 σ9) (nI l) (nI sw) (nI to) n) (fun σ8 => Q 0 σ8) (fun σ9 => Q 1 σ9) (nI l) (nI sw) (nI to) (nI i) 0 (stM σ r tk) := fun h => ⟨fun _ => no h, fun q => absurd rfl q⟩
    have fin1 : liesI p l sw to i → J_X8_liesBehind_109 Q (L_X8_liesBehind_3 Q (fun σ8 => Q 0 σ8) (fun σ9 => Q 1 σ9) (nI l) (nI sw) (nI to) n) (fun σ8 => Q 0 σ8) (fun σ9 => Q 1 σ9) (nI l) (nI sw) (nI to) (nI i) 1 (stM σ r tk) := fun h => ⟨fun q => absurd q (by decide), fun _ => yes h⟩
    unfold liesI at fin0 fin1
    unfold L_X8_liesBehind_3
    refine m_linkOf hV hP hl rfl (j := 3) rfl (by decide) ?_
    refine ⟨fun q => absurd q (nI_ge hi (by show rc p l < 2 ^ 31; omega)), fun _ => ?_⟩
    refine m_recv hV hP hl hi rfl rfl ?_
    refine ⟨vp_in_nI (by omega) (by decide), ?_⟩
    rw [ix_nI (by omega), hg]
    refine ⟨fun q => ⟨fun q2 => ⟨fun q3 => ?_, fun q3 => ⟨fun q4 => ?_, fun q4 => ?_⟩⟩, fun q2 => ⟨fun q3 => ?_, fun q3 => ⟨fun q4 => ?_, fun q4 => ?_⟩⟩⟩, fun q => ⟨fun q3 => ?_, fun q3 => ?_⟩⟩
    · simp (disch := omega) only [litI, le_nI, sub_nI, eq_nI] at q q2
      simp (disch := omega) only [litI, le_nI, sub_nI, eq_nI] at q3
      exact fin0 (by rw [if_neg (by omega), if_neg (by omega)]; omega)
    · simp (disch := omega) only [litI, le_nI, sub_nI, eq_nI] at q q2
      simp (disch := omega) only [litI, le_nI, sub_nI, eq_nI] at q3
      simp (disch := omega) only [litI, le_nI, sub_nI, eq_nI] at q4
      exact fin0 (by rw [if_neg (by omega), if_neg (by omega)]; omega)
    · simp (disch := omega) only [litI, le_nI, sub_nI, eq_nI] at q q2
      simp (disch := omega) only [litI, le_nI, sub_nI, eq_nI] at q3
      simp (disch := omega) only [litI, le_nI, sub_nI, eq_nI] at q4
      exact fin1 (by rw [if_neg (by omega), if_neg (by omega)]; omega)
    · simp (disch := omega) only [litI, le_nI, sub_nI, eq_nI] at q q2
      simp (disch := omega) only [litI, le_nI, sub_nI, eq_nI] at q3
      exact fin0 (by rw [if_neg (by omega), if_pos (by omega)]; omega)
    · simp (disch := omega) only [litI, le_nI, sub_nI, eq_nI] at q q2
      simp (disch := omega) only [litI, le_nI, sub_nI, eq_nI] at q3
      simp (disch := omega) only [litI, le_nI, sub_nI, eq_nI] at q4
      exact fin0 (by rw [if_neg (by omega), if_pos (by omega)]; omega)
    · simp (disch := omega) only [litI, le_nI, sub_nI, eq_nI] at q q2
      simp (disch := omega) only [litI, le_nI, sub_nI, eq_nI] at q3
      simp (disch := omega) only [litI, le_nI, sub_nI, eq_nI] at q4
      exact fin1 (by rw [if_neg (by omega), if_pos (by omega)]; omega)
    · simp (disch := omega) only [litI, le_nI, sub_nI, eq_nI] at q
      simp (disch := omega) only [litI, le_nI, sub_nI, eq_nI] at q3
      exact fin0 (by rw [if_pos (by omega)]; omega)
    · simp (disch := omega) only [litI, le_nI, sub_nI, eq_nI] at q
      simp (disch := omega) only [litI, le_nI, sub_nI, eq_nI] at q3
      refine m_recv hV hP hl hi rfl rfl ⟨fun q4 => ?_, fun q4 => ?_⟩
      · simp (disch := omega) only [litI, le_nI, sub_nI, eq_nI] at q4
        exact fin0 (by rw [if_pos (by omega)]; omega)
      · simp (disch := omega) only [litI, le_nI, sub_nI, eq_nI] at q4
        exact fin1 (by rw [if_pos (by omega)]; omega)
end ModOps
