section ModOps2
variable {σ : Hp} {p : PD} {r : Nat → Int32} {tk c0 : Int32} {s : SD}
theorem inv_spreadK {t : Nat} {lo : Nat → Nat} {b : Nat} {net l fp n bo : Nat} (hV : PV p) (h : Inv p t lo b s) (hnet : net < 2) (hf : fp < 6 ∨ (12 ≤ fp ∧ fp < 16)) (hl : l < nL p) (hn : n ≤ 255) (hbo : bo ≤ t) (ho : on p l fp) (m : Nat) (hm : m ≤ 10) : Inv p t lo b (itr (fun j s => tSpread1 p net l fp (nI n) (nI bo) (j + 6) s) m s) := by
  refine itr_ind (P := fun _ a => Inv p t lo b a) h m (fun k a hk ha => ?_)
  unfold tSpread1
  by_cases hx : nxt p l fp (k + 6)
  · rw [cif_pos hx]
    refine inv_come hV ha (by omega) hl hn hbo ?_
    have : (16 * net + (k + 6)) % 16 = k + 6 := by omega
    rw [this]
    exact on_next (hV.2.2.2.2.2.2.2.2 l hl) hV.2.2.2.2.2.2.2.1 hV.1 hV.2.2.2.2.2.1 hf (by omega) (by omega) ho hx
  · rw [cif_neg hx]
    exact ha
theorem m_spread {t : Nat} {lo : Nat → Nat} {b : Nat} {net l fp n bo : Nat} {Q : Hp → Prop} {K : Hp → Prop} (hV : PV p) (hP : PM σ p) (hI : Inv p t lo b s) (hE : EM r tk c0 s) (hnet : net < 2) (hf : fp < 6 ∨ (12 ≤ fp ∧ fp < 16)) (hl : l < nL p) (hn : n ≤ 255) (hbo : bo ≤ t) (ho : on p l fp) (hsw : swb p fp < 100)
    (hK : ∀ r', EM r' tk c0 (tSpread p net l fp (nI n) (nI bo) s) → K (stM σ r' tk)) : ∃ m, L_X8_arrivesAtSwitch_134 Q K (nI net) (nI fp) (nI l) (nI n) (nI bo) (nI (swb p fp)) m (nI 6) (stM σ r tk) := by
  refine pk_loop (fun m i σ' => L_X8_arrivesAtSwitch_134 Q K (nI net) (nI fp) (nI l) (nI n) (nI bo) (nI (swb p fp)) m (nI i) σ') (fun i σ' => 6 ≤ i ∧ ∃ r', σ' = stM σ r' tk ∧ EM r' tk c0 (itr (fun j s => tSpread1 p net l fp (nI n) (nI bo) (j + 6) s) (i - 6) s)) 16 6 _ (by decide) ⟨by decide, r, rfl, hE⟩ ?_ ?_
  · rintro m σ' ⟨-, r', rfl, hE'⟩
    unfold L_X8_arrivesAtSwitch_134
    exact ⟨fun _ => hK r' hE', fun q => absurd (by decide) q⟩
  · rintro m i σ' hi ⟨h6, r', rfl, hE'⟩ ih
    · obtain ⟨s1, hs1⟩ : ∃ s1, s1 = itr (fun j s => tSpread1 p net l fp (nI n) (nI bo) (j + 6) s) (i - 6) s := ⟨_, rfl⟩
      have hI1 : Inv p t lo b s1 := hs1 ▸ inv_spreadK hV hI hnet hf hl hn hbo ho (i - 6) (by omega)
      rw [← hs1] at hE'
      have enext : itr (fun j s => tSpread1 p net l fp (nI n) (nI bo) (j + 6) s) (i + 1 - 6) s = tSpread1 p net l fp (nI n) (nI bo) i s1 := by
        have : i + 1 - 6 = (i - 6) + 1 := by omega
        rw [this, hs1]
        show tSpread1 p net l fp (nI n) (nI bo) (i - 6 + 6) _ = _
        rw [show i - 6 + 6 = i by omega]
      have ih2 : ∀ r2, EM r2 tk c0 (tSpread1 p net l fp (nI n) (nI bo) i s1) → L_X8_arrivesAtSwitch_134 Q K (nI net) (nI fp) (nI l) (nI n) (nI bo) (nI (swb p fp)) m (nI i + 1) (stM σ r2 tk) := by
        intro r2 h2
        rw [nI_1]
        exact ih _ ⟨by omega, r2, rfl, by rw [enext]; exact h2⟩
      have no : ¬ nxt p l fp i → L_X8_arrivesAtSwitch_134 Q K (nI net) (nI fp) (nI l) (nI n) (nI bo) (nI (swb p fp)) m (nI i + 1) (stM σ r' tk) := fun h => ih2 r' (by unfold tSpread1; rw [cif_neg h]; exact hE')
      obtain ⟨c, k1, k2, -⟩ := hI1.2.1 (16 * net + i) (by omega)
      have fin : ¬ isBack fp i → J_X8_arrivesAtSwitch_184 Q (L_X8_arrivesAtSwitch_134 Q K (nI net) (nI fp) (nI l) (nI n) (nI bo) (nI (swb p fp)) m) K (nI net) (nI fp) (nI l) (nI n) (nI bo) (nI (swb p fp)) (nI i) (stM σ r' tk) := by
        intro hb
        unfold J_X8_arrivesAtSwitch_184 J_X8_arrivesAtSwitch_185
        refine ⟨fun q => absurd rfl q, fun _ => ?_⟩
        refine m_lies hV hP hl hsw h6 hi (fun h => ?_) (fun h => ?_)
        · refine ⟨fun q => absurd q (by decide), fun _ => ?_⟩
          refine m_come (pt := i) hP hE' hnet hi k2 k1 hV.2.1 (fun r2 h2 => ?_)
          exact ih2 r2 (by unfold tSpread1; rw [cif_pos ⟨hb, h⟩]; exact h2)
        · exact ⟨fun _ => no (fun q => h q.2), fun q => absurd rfl q⟩
      have bad : isBack fp i → J_X8_arrivesAtSwitch_185 Q (L_X8_arrivesAtSwitch_134 Q K (nI net) (nI fp) (nI l) (nI n) (nI bo) (nI (swb p fp)) m) K (nI net) (nI fp) (nI l) (nI n) (nI bo) (nI (swb p fp)) (nI i) 1 (stM σ r' tk) := by
        intro hb
        exact ⟨fun _ => no (fun q => q.1 hb), fun q => absurd q (by decide)⟩
      unfold isBack at fin bad
      unfold L_X8_arrivesAtSwitch_134
      refine ⟨fun q => absurd q (nI_ge (b := 16) hi (by decide)), fun _ => ⟨fun q => ?_, fun q => ⟨fun q2 => ?_, fun q2 => ⟨fun q3 => ⟨fun q4 => ⟨fun q5 => ?_, fun q5 => ?_⟩, fun q4 => ⟨fun q5 => ?_, fun q5 => ?_⟩⟩, fun q3 => ⟨fun q4 => ⟨fun q5 => ?_, fun q5 => ?_⟩, fun q4 => ⟨fun q5 => ?_, fun q5 => ?_⟩⟩⟩⟩⟩⟩
      · simp (disch := omega) only [litI, lt_nI] at q
        exact fin (by omega)
      · simp (disch := omega) only [litI, lt_nI] at q q2
        exact fin (by omega)
      · simp (disch := omega) only [litI, lt_nI, le_nI] at q q2 q3 q4
        exact fin (by omega)
      · exact absurd rfl q5
      · exact absurd q5 (by decide)
      · simp (disch := omega) only [litI, lt_nI, le_nI] at q q2 q3 q4
        exact bad (by omega)
      · exact absurd q5 (by decide)
      · simp (disch := omega) only [litI, lt_nI, le_nI] at q q2 q3 q4
        exact bad (by omega)
      · simp (disch := omega) only [litI, lt_nI, le_nI] at q q2 q3 q4
        exact fin (by omega)
      · exact absurd rfl q5
theorem m_switch {t : Nat} {lo : Nat → Nat} {b : Nat} {net l fp n bo : Nat} {Q : Hp → Prop} (hV : PV p) (hP : PM σ p) (hI : Inv p t lo b s) (hE : EM r tk c0 s) (hnet : net < 2) (hf : fp < 6 ∨ (12 ≤ fp ∧ fp < 16)) (hl : l < nL p) (hn : n ≤ 255) (hbo : bo ≤ t) (ho : on p l fp)
    (k : ∀ r', EM r' tk c0 (tSwitch p (16 * net + fp) l (nI n) (nI bo) s) → Q (stM σ r' tk)) : S_X8_arrivesAtSwitch (nI net) (nI fp) (nI l) (nI n) (nI bo) (stM σ r tk) Q := by
  have hL := hV.2.2.2.2.2.2.1
  have hcl := cred_lt hV hl
  have hswc := swb_cases p fp
  have hE6 := hV.2.2.2.2.2.1
  have hsw : swb p fp < 100 := by
    rcases hf with q | q
    · have h1 := on_low ho q
      have h2 := hV.2.2.2.2.2.2.2.1 _ (hV.2.2.2.2.2.2.2.2 l hl).1
      have h3 := hV.1
      subst h1
      omega
    · omega
  have d1 : (16 * net + fp) / 16 = net := by omega
  have d2 : (16 * net + fp) % 16 = fp := by omega
  unfold tSwitch at k
  rw [d1, d2] at k
  have h38 : r (79 + net) = s 38 net := hE.1 38 net (by show net < 2; exact hnet)
  have h39 : ∀ j, j < 3 → r (73 + 3 * net + j) = s 39 (3 * net + j) := fun j hj => (congrArg r (Nat.add_assoc 73 (3 * net) j)).trans (hE.1 39 (3 * net + j) (by show 3 * net + j < 6; omega))
  have h45 : r (41 + 8 * net + l) = s 45 (8 * net + l) := (congrArg r (Nat.add_assoc 41 (8 * net) l)).trans (hE.1 45 (8 * net + l) (by show 8 * net + l < 16; omega))
  have h46 : r (57 + 8 * net + l) = s 46 (8 * net + l) := (congrArg r (Nat.add_assoc 57 (8 * net) l)).trans (hE.1 46 (8 * net + l) (by show 8 * net + l < 16; omega))
  have spread : ∀ (r1 : Nat → Int32) (s1 : SD), Inv p t lo b s1 → EM r1 tk c0 s1 → (∀ r', EM r' tk c0 (tSpread p net l fp (nI n) (nI bo) s1) → Q (stM σ r' tk)) → J_X8_arrivesAtSwitch_123 Q (nI net) (nI fp) (nI l) (nI n) (nI bo) (stM σ r1 tk) := by
    intro r1 s1 hI1 hE1 hk
    unfold J_X8_arrivesAtSwitch_123 S_X8_switchBehind
    refine ⟨fun q => ⟨fun q2 => ?_, fun q2 => ?_⟩, fun q => ⟨?_, ?_⟩⟩
    · simp (disch := omega) only [litI, le_nI] at q q2
      have e : nI fp - 14 = nI (swb p fp) := by
        rw [show swb p fp = fp - 14 by omega]; exact sub_nI q2
      rw [e]
      exact m_spread hV hP hI1 hE1 hnet hf hl hn hbo ho hsw hk
    · simp (disch := omega) only [litI, le_nI] at q q2
      have e : nI fp - 11 = nI (swb p fp) := by
        rw [show swb p fp = fp - 11 by omega]; exact sub_nI (b := 11) (by omega)
      rw [e]
      exact m_spread hV hP hI1 hE1 hnet hf hl hn hbo ho hsw hk
    · simp (disch := omega) only [litI, le_nI] at q
      exact vp_in_nI (by omega) (by decide)
    · simp (disch := omega) only [litI, le_nI] at q
      have h1 := on_low ho (by omega)
      have h2 := (hV.2.2.2.2.2.2.2.2 l hl).1
      have e : gI (stM σ r1 tk) 55 0 (ix (nI fp)) = nI (swb p fp) := by
        rw [ix_nI (by omega), gM55, hP.2.1 fp (by omega)]
        exact congrArg nI (by omega)
      rw [e]
      exact m_spread hV hP hI1 hE1 hnet hf hl hn hbo ho hsw hk
  unfold S_X8_arrivesAtSwitch
  have e38 : gI (stM σ r tk) 61 0 (ix (79 + nI net)) = s 38 net := by
    rw [show (79 : Int32) + nI net = nI (79 + net) from add_nI 79 net, ix_nI (by omega), gM61, h38]
  have i38 : vp_in (79 + nI net) 1809 := by
    rw [show (79 : Int32) + nI net = nI (79 + net) from add_nI 79 net]; exact vp_in_nI (by omega) (by decide)
  rw [e38]
  refine ⟨i38, fun q => ?_, fun q => ?_⟩
  · rw [if_neg q] at k
    refine ⟨fun q2 => ?_, fun q2 => ?_⟩
    · simp (disch := omega) only [litI, le_nI] at q2
      rw [if_neg (by omega)] at k
      exact spread r s hI hE k
    · simp (disch := omega) only [litI, le_nI] at q2
      rw [if_pos (by omega)] at k
      refine m_linkOf hV hP hl rfl (j := 2) rfl (by decide) ?_
      refine m_linkOf hV hP hl rfl (j := 1) rfl (by decide) ?_
      obtain ⟨c, c1, c2⟩ := (hI.2.2.1 l hl).2.2.2 net hnet
      have h39' : r (73 + 3 * net + 2) = s 39 (3 * net + 2) := h39 2 (by decide)
      have e2 : p 2 (7 * l + 2) * p 2 (7 * l + 1) = ln p l * gp p l := rfl
      simp (disch := omega) only [litI, mul_nI, add_nI, Nat.add_zero, Nat.zero_add, Nat.mul_zero, Nat.zero_mul, Nat.mul_one, vpin_nI, ix_nI, true_and, and_true, forall_eq, gM61, gM28, gM53, gM55, gM57, sM61, sM28, pk_us, pk_un, h45, h46, h39', e2]
      refine ⟨fun q3 => ?_, fun q3 => ?_⟩
      · rw [if_pos q3] at k
        have q4 := q3
        rw [c2, le_nI (by omega) (by omega)] at q4
        refine spread _ _ ?_ (hE.set (f := 45) (k := 8 * net + l) (by show 8 * net + l < 16; omega) (by show _ = 41 + (8 * net + l); omega) _) k
        rw [c2, sub_nI q4]
        exact inv_cred hI hL hnet hl (by omega)
      · rw [if_neg q3] at k
        exact k _ ((hE.set (f := 39) (k := 3 * net + 2) (by show 3 * net + 2 < 6; omega) (by show _ = 73 + (3 * net + 2); omega) _).set (f := 46) (k := 8 * net + l) (by show 8 * net + l < 16; omega) (by show _ = 57 + (8 * net + l); omega) _)
  · rw [if_pos q] at k
    have h39' : r (73 + 3 * net + 1) = s 39 (3 * net + 1) := h39 1 (by decide)
    simp (disch := omega) only [litI, mul_nI, add_nI, Nat.add_zero, Nat.zero_add, Nat.mul_zero, Nat.zero_mul, Nat.mul_one, vpin_nI, ix_nI, true_and, and_true, forall_eq, gM61, gM28, gM53, gM55, gM57, sM61, sM28, pk_us, pk_un, h39']
    exact k _ (hE.set (f := 39) (k := 3 * net + 1) (by show 3 * net + 1 < 6; omega) (by show _ = 73 + (3 * net + 1); omega) _)
end ModOps2
