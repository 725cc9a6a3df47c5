/-! ===== the envelope measured ===== -/
def FE (σ σ' : Hp) : Prop := (∀ a b c, a ≠ 1 → a ≠ 19 → gI σ' a b c = gI σ a b c) ∧ (∀ a b c, a ≠ 20 → a ≠ 21 → gL σ' a b c = gL σ a b c) ∧ (∀ a, gR σ' a = gR σ a)
theorem FE.refl (σ : Hp) : FE σ σ := ⟨fun _ _ _ _ _ => rfl, fun _ _ _ _ _ => rfl, fun _ => rfl⟩
theorem FE.s {σ σ' : Hp} (h : FE σ σ') {a : Nat} (ha : a = 1 ∨ a = 19) (i c : Nat) (v : Int32) : FE σ (sI σ' a i c v) := by
  refine ⟨fun x y z q1 q2 => ?_, h.2.1, h.2.2⟩
  rw [gI_sI, if_neg (by omega)]
  exact h.1 x y z q1 q2
theorem FE.l {σ σ' : Hp} (h : FE σ σ') {a : Nat} (ha : a = 20 ∨ a = 21) (i c : Nat) (v : Int64) : FE σ (sL σ' a i c v) := by
  refine ⟨h.1, fun x y z q1 q2 => ?_, h.2.2⟩
  rw [gL_sL, if_neg (by omega)]
  exact h.2.1 x y z q1 q2
theorem PX.fe {P : Nat} {σ σ' : Hp} {p : PD} (h : PX σ P p) (hd : FE σ σ') : PX σ' P p := by
  have g : ∀ a c, a ≠ 1 → a ≠ 19 → gI σ' a P c = gI σ a P c := fun a c q q2 => hd.1 a P c q q2
  unfold PX at h ⊢
  simp only [g 2 _ (by decide) (by decide), g 22 _ (by decide) (by decide), g 25 _ (by decide) (by decide), g 26 _ (by decide) (by decide), g 27 _ (by decide) (by decide), g 28 _ (by decide) (by decide), g 29 _ (by decide) (by decide)]
  exact h
theorem UB.fe {P : Nat} {σ σ' : Hp} {p : PD} (h : UB σ P p) (hd : FE σ σ') : UB σ' P p := by
  intro l pt hl hpt
  rw [hd.1 49 P pt (by decide) (by decide)]
  exact h l pt hl hpt
theorem smN_mul {f g : Nat → Nat} {c : Nat} : ∀ (m : Nat), (∀ l, l < m → f l * c = g l) → smN f m * c = smN g m
  | 0, _ => Nat.zero_mul c
  | m + 1, h => by rw [smN_succ, smN_succ, Nat.add_mul, smN_mul m (fun l hl => h l (by omega)), h m (by omega)]
theorem jit_gap {g a j : Nat} (hg : isGap g) : a * (j * 16777216) / g = 16777216 / g * a * j := by
  rw [← Nat.mul_assoc, Nat.mul_assoc (16777216 / g) a j]
  generalize a * j = x
  rcases hg with h | h | h | h | h | h <;> subst h <;> omega
def pdJ (j : Nat) : Nat := if j = 0 then 12 else if j = 1 then 13 else if j = 2 then 15 else if j = 3 then 14 else j + 2
theorem pdJ_cases (j : Nat) : (j = 0 ∧ pdJ j = 12) ∨ (j = 1 ∧ pdJ j = 13) ∨ (j = 2 ∧ pdJ j = 15) ∨ (j = 3 ∧ pdJ j = 14) ∨ (4 ≤ j ∧ pdJ j = j + 2) := by
  unfold pdJ
  by_cases h0 : j = 0
  · rw [if_pos h0]; omega
  · rw [if_neg h0]
    by_cases h1 : j = 1
    · rw [if_pos h1]; omega
    · rw [if_neg h1]
      by_cases h2 : j = 2
      · rw [if_pos h2]; omega
      · rw [if_neg h2]
        by_cases h3 : j = 3
        · rw [if_pos h3]; omega
        · rw [if_neg h3]; omega
theorem dsv_pd : ∀ j, j < 10 → dsv.getD j 0 = nI (pdJ j) := by decide +kernel
def dnJ (j pt : Nat) : Prop := pt < 6 ∨ (pt = 12 ∧ 0 < j) ∨ (pt = 13 ∧ 1 < j) ∨ (pt = 15 ∧ 2 < j) ∨ (pt = 14 ∧ 3 < j) ∨ (6 ≤ pt ∧ pt < 12 ∧ pt < j + 2)
section Meas
variable {P : Nat} {p : PD}
theorem c_lengths {σ : Hp} {pt : Nat} {Q : Int64 → Hp → Prop} (hV : PV p) (hX : PX σ P p) (hU : UB σ P p) (hpt : pt < 16) (k : Q (lN (smN (fun l => cif (on p l pt) (ln p l) 0) (nL p))) σ) : S_X1_lengthsThrough P (nI pt) σ Q := by
  have h8 := hV.2.2.2.2.2.2.1
  have go : ∀ j m, m + j = nL p → L_X1_lengthsThrough_5 Q (fun w5 σ4 => Q w5 σ4) P (nI pt) (j + 1) (lN (smN (fun l => cif (on p l pt) (ln p l) 0) m)) (nI m) σ := by
    intro j
    induction j with
    | zero =>
      intro m hm
      have : m = nL p := by omega
      subst this
      unfold L_X1_lengthsThrough_5
      rw [hX.2.2.2.2.2.2.1]
      exact ⟨fun _ => k, fun q => absurd (nI_le (Nat.le_refl (nL p)) (by omega)) q⟩
    | succ j ih =>
      intro m hm
      have hm' : m < nL p := by omega
      have this := ih (m + 1) (by omega)
      rw [smN_succ] at this
      have hx := hX.2.2.2.2.2.2.2.2.1 m hm'
      have gl := gap_l hV hm'
      unfold L_X1_lengthsThrough_5
      rw [hX.2.2.2.2.2.2.1, le_nI (by omega) (by omega)]
      refine ⟨fun q => by omega, fun _ => c_uses hU hm' hpt (fun o => b1' ⟨vp_in_nI (by omega) (by decide), ?_⟩) (fun o => b0' ?_)⟩
      · rw [cif_pos o] at this
        unfold J_X1_lengthsThrough_38
        rw [ix_nI (by omega), hx.2.2.1, gl.2.2.2.2.2.2.1, lN_add, show nI m + 1 = nI (m + 1) from add_nI m 1]
        exact this
      · rw [cif_neg o, Nat.add_zero] at this
        unfold J_X1_lengthsThrough_38
        rw [show nI m + 1 = nI (m + 1) from add_nI m 1]
        exact this
  exact ⟨nL p + 1, go (nL p) 0 (by omega)⟩
theorem c_perGap {σ : Hp} {l v : Nat} {Q : Int64 → Hp → Prop} (hV : PV p) (hX : PX σ P p) (hl : l < nL p) (hv : v < 2 ^ 57) (k : Q (lN (ln p l * v / gp p l)) σ) : S_X1_perGap P (nI l) (lN v) σ Q := by
  have h8 := hV.2.2.2.2.2.2.1
  have hx := hX.2.2.2.2.2.2.2.2.1 l hl
  obtain ⟨g1, g2, g3, g4, g5, g6, g7, g8⟩ := gap_l hV hl
  have b1 : ln p l * v ≤ 40 * v := Nat.mul_le_mul_right _ g5
  unfold S_X1_perGap
  rw [ix_nI (by omega), hx.2.1, hx.2.2.1, g6, g7, lN_mul, pk_lDiv (by omega) (by omega) (by omega), show (nI (gp p l) ≤ (0 : Int32)) = (nI (gp p l) ≤ nI 0) from rfl, le_nI (by omega) (by decide)]
  exact ⟨vp_in_nI (by omega) (by decide), fun q => by omega, fun _ => ⟨vp_in_nI (by omega) (by decide), g8, k⟩⟩
def AH (σ : Hp) (P : Nat) (p : PD) : Prop := ∀ l pt, l < nL p → on p l pt → 6 ≤ pt → gI σ 51 P (16 * l + pt) = nI (ahN p l pt)
theorem AH.fe {σ σ' : Hp} (h : AH σ P p) (hd : FE σ σ') : AH σ' P p := by
  intro l pt hl ho h6
  rw [hd.1 51 P _ (by decide) (by decide)]
  exact h l pt hl ho h6
/-- the delays and bursts measured so far -/
def MJ (σ : Hp) (p : PD) (j : Nat) : Prop := (∀ pt, dnJ j pt → gL σ 20 0 pt = lN (deN p pt)) ∧ (∀ l pt, l < nL p → on p l pt → 6 ≤ pt → dnJ j pt → gL σ 21 0 (16 * l + pt) = lN (buN p l pt))
theorem c_burstAt {σ : Hp} {l j : Nat} {Q : Int64 → Hp → Prop} (hV : PV p) (hX : PX σ P p) (hA : AH σ P p) (hj : j < 10) (hl : l < nL p) (ho : on p l (pdJ j)) (hM : MJ σ p j) (k : Q (lN (buN p l (pdJ j))) σ) : S_X1_burstAt P (nI l) (nI (pdJ j)) σ Q := by
  have h8 := hV.2.2.2.2.2.2.1
  have pc := pdJ_cases j
  have h6 : 6 ≤ pdJ j := by omega
  obtain ⟨h16, ho2, hc, _⟩ := on_prev hV hl ho h6
  have ac := ahN_cases p l (pdJ j)
  have be := buN_eq hV hl ho h6
  obtain ⟨g1, g2, g3, g4, g5, g6, g7, g8⟩ := gap_l hV hl
  have hx := hX.2.2.2.2.2.2.2.2.1 l hl
  have hjit := hV.2.2.1
  have hfr := (hV.2.2.2.2.2.2.2.2 l hl).1
  have hn6 := hV.2.2.2.2.2.1
  unfold S_X1_burstAt
  rw [show (16 : Int32) = nI 16 from rfl, mul_nI, add_nI, Nat.mul_comm l 16, ix_nI (k := 16 * l + pdJ j) (by omega), hA l _ hl ho h6, show (6 : Int32) = nI 6 from rfl, le_nI (by decide) (by omega)]
  refine ⟨vp_in_nI (by omega) (by decide), fun q => ?_, fun q => ?_⟩
  · have hc' := hc.resolve_left (by omega)
    have dn : dnJ j (ahN p l (pdJ j)) := by
      have d1 := dpN_cases (ahN p l (pdJ j))
      have d2 := dpN_cases (pdJ j)
      unfold dnJ
      omega
    have d1 := deN_le hV (ahN p l (pdJ j))
    rw [add_nI, ix_nI (k := 16 * l + ahN p l (pdJ j)) (by omega), ix_nI (k := ahN p l (pdJ j)) (by omega), hM.1 _ dn, hM.2 l _ hl ho2 q dn]
    refine ⟨vp_in_nI (by omega) (by decide), vp_in_nI (by omega) (by decide), c_perGap hV hX hl (by omega) ?_⟩
    rw [lN_add, per_gap g1 (deN_dvd hV hc'.1), ← be.2 q]
    exact k
  · rw [hX.2.2.1, nI_l (by omega), show (16777216 : Int64) = lN 16777216 from rfl, lN_mul, ix_nI (k := l) (by omega), hx.2.2.1, g7, lN_mul]
    refine ⟨vp_in_nI (by omega) (by decide), c_perGap hV hX hl (by omega) ?_⟩
    rw [lN_add, jit_gap g1, Nat.mul_comm (ln p l) 16777216]
    have := be.1 (by omega)
    unfold b0N at this
    rw [← this]
    exact k
theorem c_bursts {σ : Hp} {j : Nat} {Q : Int64 → Hp → Prop} (hV : PV p) (hX : PX σ P p) (hU : UB σ P p) (hA : AH σ P p) (hj : j < 10) (hM : MJ σ p j) (k : ∀ σ', FE σ σ' → (∀ a b c, gI σ' a b c = gI σ a b c) → MJ σ' p j → (∀ l, l < nL p → on p l (pdJ j) → gL σ' 21 0 (16 * l + pdJ j) = lN (buN p l (pdJ j))) → Q (lN (deN p (pdJ j))) σ') : S_X1_burstsThrough P (nI (pdJ j)) σ Q := by
  have h8 := hV.2.2.2.2.2.2.1
  have pc := pdJ_cases j
  have p16 : pdJ j < 16 := by omega
  have ndn : ¬ dnJ j (pdJ j) := by unfold dnJ; omega
  have hde : deN p (pdJ j) = smN (fun l => cif (on p l (pdJ j)) (buN p l (pdJ j)) 0) (nL p) := by
    unfold deN
    rw [if_neg (by omega)]
  have go : ∀ n m σ1, m + n = nL p → FE σ σ1 → (∀ a b c, gI σ1 a b c = gI σ a b c) → MJ σ1 p j → (∀ l, l < m → on p l (pdJ j) → gL σ1 21 0 (16 * l + pdJ j) = lN (buN p l (pdJ j))) → L_X1_burstsThrough_5 Q (fun w8 σ7 => Q w8 σ7) P (nI (pdJ j)) (n + 1) (lN (smN (fun l => cif (on p l (pdJ j)) (buN p l (pdJ j)) 0) m)) (nI m) σ1 := by
    intro n
    induction n with
    | zero =>
      intro m σ1 hm hF hI hM1 hb
      have : m = nL p := by omega
      subst this
      unfold L_X1_burstsThrough_5
      rw [(hX.fe hF).2.2.2.2.2.2.1, ← hde]
      exact ⟨fun _ => k σ1 hF hI hM1 hb, fun q => absurd (nI_le (Nat.le_refl (nL p)) (by omega)) q⟩
    | succ n ih =>
      intro m σ1 hm hF hI hM1 hb
      have hm' : m < nL p := by omega
      unfold L_X1_burstsThrough_5
      rw [(hX.fe hF).2.2.2.2.2.2.1, le_nI (by omega) (by omega)]
      refine ⟨fun q => by omega, fun _ => c_uses (hU.fe hF) hm' p16 (fun o => b1' ?_) (fun o => b0' ?_)⟩
      · refine c_burstAt hV (hX.fe hF) (hA.fe hF) hj hm' o hM1 ?_
        rw [show (16 : Int32) = nI 16 from rfl, mul_nI, add_nI, Nat.mul_comm m 16, ix_nI (by omega)]
        refine ⟨vp_in_nI (by omega) (by decide), ?_⟩
        rintro _ rfl
        refine ⟨vp_in_nI (by omega) (by decide), ?_⟩
        unfold J_X1_burstsThrough_62
        rw [gL_sL, if_pos ⟨rfl, rfl, rfl⟩, lN_add, show nI m + 1 = nI (m + 1) from add_nI m 1]
        have := ih (m + 1) (sL σ1 21 0 (16 * m + pdJ j) (lN (buN p m (pdJ j)))) (by omega) (hF.l (by omega) _ _ _) hI ⟨fun pt d => ?_, fun l pt hl ho' h6' d => ?_⟩ (fun l hl ho' => ?_)
        · rw [smN_succ, cif_pos o] at this
          exact this
        · rw [gL_sL, if_neg (by omega)]
          exact hM1.1 pt d
        · have q16 := (on_prev hV hl ho' h6').1
          rw [gL_sL, if_neg]
          · exact hM1.2 l pt hl ho' h6' d
          · intro z
            have : pt = pdJ j := by omega
            rw [this] at d
            exact ndn d
        · rw [gL_sL]
          by_cases z : l = m
          · subst z
            rw [if_pos ⟨rfl, rfl, rfl⟩]
          · rw [if_neg (by omega)]
            exact hb l (by omega) ho'
      · unfold J_X1_burstsThrough_62
        rw [show nI m + 1 = nI (m + 1) from add_nI m 1]
        have := ih (m + 1) σ1 (by omega) hF hI hM1 (fun l hl ho' => ?_)
        · rw [smN_succ, cif_neg o, Nat.add_zero] at this
          exact this
        · rcases Nat.lt_or_ge l m with z | z
          · exact hb l z ho'
          · rw [show l = m by omega] at ho'
            exact absurd ho' o
  exact ⟨nL p + 1, go (nL p) 0 σ (by omega) (FE.refl σ) (fun _ _ _ => rfl) hM (fun l hl => by omega)⟩
theorem c_measure {σ : Hp} {Q : Hp → Prop} (hV : PV p) (hX : PX σ P p) (hU : UB σ P p) (hA : AH σ P p) (k : ∀ σ', FE σ σ' → EVn σ' p → Q σ') : S_X1_measure P σ Q := by
  have h8 := hV.2.2.2.2.2.2.1
  -- the last part
  have g3 : ∀ n j σ1, j + n = 10 → FE σ σ1 → (∀ pt, pt < 16 → gI σ1 19 0 pt = nI (ldN p pt)) → ((gI σ1 1 0 0 = 0 ∧ ∀ pt, pt < 16 → ldN p pt ≤ 256) ∨ (gI σ1 1 0 0 = 1 ∧ ∃ pt, pt < 16 ∧ 256 < ldN p pt)) → MJ σ1 p j → L_X1_measure_99 Q (fun σ17 => Q σ17) P 10 (n + 1) (nI j) σ1 := by
    intro n
    induction n with
    | zero =>
      intro j σ1 hj hF h19 h1 hM
      have : j = 10 := by omega
      subst this
      unfold L_X1_measure_99
      refine ⟨fun _ => k σ1 hF ⟨h19, fun pt hpt => hM.1 pt (by unfold dnJ; omega), fun l pt hl ho h6 => ?_, h1⟩, fun z => absurd (by decide) z⟩
      have := (on_prev hV hl ho h6).1
      exact hM.2 l pt hl ho h6 (by unfold dnJ; omega)
    | succ n ih =>
      intro j σ1 hj hF h19 h1 hM
      have pc := pdJ_cases j
      have p16 : pdJ j < 16 := by omega
      unfold L_X1_measure_99
      rw [show (10 : Int32) = nI 10 from rfl, le_nI (by decide) (by omega), ix_nI (k := j) (by omega), dsv_pd j (by omega)]
      refine ⟨fun z => by omega, fun _ => ⟨vp_in_nI (by omega) (by decide), c_bursts hV (hX.fe hF) (hU.fe hF) (hA.fe hF) (by omega) hM (fun σ2 F2 I2 M2 b2 => ⟨vp_in_nI p16 (by decide), ?_⟩)⟩⟩
      rintro _ rfl
      rw [ix_nI (by omega), show nI j + 1 = nI (j + 1) from add_nI j 1]
      have F3 : FE σ σ2 := ⟨fun a b c q1 q2 => (F2.1 a b c q1 q2).trans (hF.1 a b c q1 q2), fun a b c q1 q2 => (F2.2.1 a b c q1 q2).trans (hF.2.1 a b c q1 q2), fun a => (F2.2.2 a).trans (hF.2.2 a)⟩
      refine ih (j + 1) (sL σ2 20 0 (pdJ j) (lN (deN p (pdJ j)))) (by omega) (F3.l (by omega) _ _ _) (fun pt hpt => ?_) ?_ ⟨fun pt d => ?_, fun l pt hl ho h6 d => ?_⟩
      · rw [gI_sL, I2]
        exact h19 pt hpt
      · rw [gI_sL, I2]
        exact h1
      · rw [gL_sL]
        by_cases z : pt = pdJ j
        · rw [if_pos ⟨rfl, rfl, z⟩, z]
        · rw [if_neg (by omega)]
          exact M2.1 pt (by unfold dnJ at d ⊢; omega)
      · rw [gL_sL, if_neg (by omega)]
        by_cases z : pt = pdJ j
        · subst z
          exact b2 l hl ho
        · exact M2.2 l pt hl ho h6 (by unfold dnJ at d ⊢; omega)
  have g2 : ∀ n m σ1, m + n = 6 → FE σ σ1 → (∀ pt, pt < 16 → gI σ1 19 0 pt = nI (ldN p pt)) → ((gI σ1 1 0 0 = 0 ∧ ∀ pt, pt < 16 → ldN p pt ≤ 256) ∨ (gI σ1 1 0 0 = 1 ∧ ∃ pt, pt < 16 ∧ 256 < ldN p pt)) → (∀ pt, pt < m → gL σ1 20 0 pt = lN (deN p pt)) → L_X1_measure_62 Q (fun σ12 => (∃ n16, L_X1_measure_99 Q (fun σ17 => Q σ17) P 10 n16 0 σ12)) P (n + 1) (nI m) σ1 := by
    intro n
    induction n with
    | zero =>
      intro m σ1 hm hF h19 h1 h20
      have : m = 6 := by omega
      subst this
      unfold L_X1_measure_62
      refine ⟨fun _ => ⟨11, g3 10 0 σ1 (by omega) hF h19 h1 ⟨fun pt d => h20 pt (by unfold dnJ at d; omega), fun l pt hl ho h6 d => ?_⟩⟩, fun z => absurd (by decide) z⟩
      unfold dnJ at d
      omega
    | succ n ih =>
      intro m σ1 hm hF h19 h1 h20
      unfold L_X1_measure_62
      rw [show (6 : Int32) = nI 6 from rfl, le_nI (by decide) (by omega)]
      refine ⟨fun z => by omega, fun _ => c_lengths hV (hX.fe hF) (hU.fe hF) (by omega) ⟨vp_in_nI (by omega) (by decide), ?_⟩⟩
      rintro _ rfl
      have ed : smN (fun l => cif (on p l m) (ln p l) 0) (nL p) * 16777216 = deN p m := by
        unfold deN
        rw [if_pos (by omega)]
        refine smN_mul (nL p) (fun l hl => ?_)
        by_cases o : on p l m
        · rw [cif_pos o, cif_pos o, Nat.mul_comm]
        · rw [cif_neg o, cif_neg o, Nat.zero_mul]
      rw [show (16777216 : Int64) = lN 16777216 from rfl, lN_mul, ed, ix_nI (by omega), show nI m + 1 = nI (m + 1) from add_nI m 1]
      refine ih (m + 1) _ (by omega) (hF.l (by omega) _ _ _) h19 h1 (fun pt hpt => ?_)
      rw [gL_sL]
      by_cases z : pt = m
      · rw [if_pos ⟨rfl, rfl, z⟩, z]
      · rw [if_neg (by omega)]
        exact h20 pt (by omega)
  have g1 : ∀ n m σ1, m + n = 16 → FE σ σ1 → (∀ pt, pt < m → gI σ1 19 0 pt = nI (ldN p pt)) → ((gI σ1 1 0 0 = 0 ∧ ∀ pt, pt < m → ldN p pt ≤ 256) ∨ (gI σ1 1 0 0 = 1 ∧ ∃ pt, pt < m ∧ 256 < ldN p pt)) → L_X1_measure_7 Q (fun σ7 => (∃ n11, L_X1_measure_62 Q (fun σ12 => (∃ n16, L_X1_measure_99 Q (fun σ17 => Q σ17) P 10 n16 0 σ12)) P n11 0 σ7)) P (n + 1) (nI m) σ1 := by
    intro n
    induction n with
    | zero =>
      intro m σ1 hm hF h19 h1
      have : m = 16 := by omega
      subst this
      unfold L_X1_measure_7
      exact ⟨fun _ => ⟨7, g2 6 0 σ1 (by omega) hF h19 h1 (fun pt hpt => by omega)⟩, fun z => absurd (by decide) z⟩
    | succ n ih =>
      intro m σ1 hm hF h19 h1
      unfold L_X1_measure_7
      rw [show (16 : Int32) = nI 16 from rfl, le_nI (by decide) (by omega)]
      refine ⟨fun z => by omega, fun _ => c_loadWith (gp p) hV (hX.fe hF) (hU.fe hF) (by omega) (fun l hl => (gap_256 (hV.2.2.2.2.2.2.2.2 l hl).2.1).2) (fun l hl e => absurd e (ne_m1 (by omega))) (fun l hl _ => rfl) ⟨vp_in_nI (by omega) (by decide), ?_⟩⟩
      rintro _ rfl
      have hle := ldN_le hV m
      rw [show smN (fun l => cif (on p l m) (ln p l * (256 / gp p l)) 0) (nL p) = ldN p m from rfl, ix_nI (k := m) (by omega), gI_sI, if_neg (by omega), gI_sI, if_pos ⟨rfl, rfl, rfl⟩, show (nI (ldN p m) ≤ (256 : Int32)) = (nI (ldN p m) ≤ nI 256) from rfl, le_nI (by omega) (by decide)]
      have h19' : ∀ v, ∀ pt, pt < m + 1 → gI (sI (sI σ1 19 0 m (nI (ldN p m))) 1 0 0 v) 19 0 pt = nI (ldN p pt) := by
        intro v pt hpt
        rw [gI_sI, if_neg (by omega), gI_sI]
        by_cases z : pt = m
        · rw [if_pos ⟨rfl, rfl, z⟩, z]
        · rw [if_neg (by omega)]
          exact h19 pt (by omega)
      have F' : ∀ v, FE σ (sI (sI σ1 19 0 m (nI (ldN p m))) 1 0 0 v) := fun v => (hF.s (by omega) _ _ _).s (by omega) _ _ _
      have yes : (∃ pt, pt < m + 1 ∧ 256 < ldN p pt) → J_X1_measure_46 Q (L_X1_measure_7 Q (fun σ7 => (∃ n11, L_X1_measure_62 Q (fun σ12 => (∃ n16, L_X1_measure_99 Q (fun σ17 => Q σ17) P 10 n16 0 σ12)) P n11 0 σ7)) P (n + 1)) (fun σ7 => (∃ n11, L_X1_measure_62 Q (fun σ12 => (∃ n16, L_X1_measure_99 Q (fun σ17 => Q σ17) P 10 n16 0 σ12)) P n11 0 σ7)) P (nI m) (sI σ1 19 0 m (nI (ldN p m))) := by
        intro c
        unfold J_X1_measure_46 J_X1_measure_51
        refine ⟨zb1, ?_⟩
        rintro _ rfl
        rw [show nI m + 1 = nI (m + 1) from add_nI m 1]
        exact ih (m + 1) _ (by omega) (F' 1) (h19' 1) (Or.inr ⟨by rw [gI_sI, if_pos ⟨rfl, rfl, rfl⟩], c⟩)
      rcases h1 with ⟨z0, z1⟩ | ⟨z0, pt, z1, z2⟩
      · rw [z0]
        refine b0 ⟨vp_in_nI (by omega) (by decide), fun c => ?_, fun c => yes ⟨m, by omega, by omega⟩⟩
        unfold J_X1_measure_51
        refine ⟨zb0, ?_⟩
        rintro _ rfl
        rw [show nI m + 1 = nI (m + 1) from add_nI m 1]
        refine ih (m + 1) _ (by omega) (F' 0) (h19' 0) (Or.inl ⟨by rw [gI_sI, if_pos ⟨rfl, rfl, rfl⟩], fun pt hpt => ?_⟩)
        rcases Nat.lt_or_ge pt m with y | y
        · exact z1 pt y
        · rw [show pt = m by omega]
          exact c
      · rw [z0]
        exact b1 (yes ⟨pt, by omega, z2⟩)
  unfold S_X1_measure
  rintro _ rfl
  exact ⟨17, g1 16 0 _ (by omega) ((FE.refl σ).s (by omega) _ _ _) (fun pt hpt => by omega) (Or.inl ⟨by rw [gI_sI, if_pos ⟨rfl, rfl, rfl⟩], fun pt hpt => by omega⟩)⟩
end Meas
