section Cases6
variable {n : Nat} {σ : Hp} {p : PD} {P : Nat} {Q : Int32 → Hp → Prop}
theorem ne_m1 {k : Nat} (hk : k < 2 ^ 31) : ¬ nI k = -1 := fun h => by
  have := eq_neg hk (b := 1) (by decide) (by decide)
  rw [← this]
  exact h
theorem c_endNamed {x : Int64} (hq : RQ n σ p P) (h1 : ∀ e, e < nE p → lg_cmp (gL σ 59 0 e) x = 0 → (∀ e', e' < e → ¬ lg_cmp (gL σ 59 0 e') x = 0) → Q (nI e) σ) (h0 : (∀ e, e < nE p → ¬ lg_cmp (gL σ 59 0 e) x = 0) → Q (-1) σ) : S_X2_endNamed P x σ Q := by
  have h6 := hq.nE6
  have hN := hq.1.2.2.2.2.2.2.1.1
  have go : ∀ j k, k + j = nE p → (∀ e, e < k → ¬ lg_cmp (gL σ 59 0 e) x = 0) → L_X2_endNamed_2 Q (fun σ2 => Q (-1) σ2) (fun w4 σ3 => Q w4 σ3) P x (j + 1) (nI k) σ := by
    intro j
    induction j with
    | zero =>
      intro k hk hno
      have : k = nE p := by omega
      subst this
      unfold L_X2_endNamed_2
      rw [hq.X.2.2.2.2.2.1]
      exact ⟨fun _ => h0 hno, fun q => absurd (nI_le (Nat.le_refl (nE p)) (by omega)) q⟩
    | succ j ih =>
      intro k hk hno
      unfold L_X2_endNamed_2
      rw [hq.X.2.2.2.2.2.1, le_nI (by omega) (by omega), ix_nI (by omega), hN k (by omega), show (1 : Int32) = nI 1 from rfl, add_nI]
      refine ⟨fun q => by omega, fun _ => ⟨vp_in_nI (by omega) (by decide), fun q => ih (k + 1) (by omega) (fun e he => ?_), fun q => h1 k (by omega) q hno⟩⟩
      rcases Nat.lt_or_ge e k with a | a
      · exact hno e a
      · rw [show e = k by omega]
        exact q
  exact ⟨nE p + 1, go (nE p) 0 (by omega) (fun e he => by omega)⟩
theorem c_linkNamed {x : Int64} (hq : RQ n σ p P) (h1 : ∀ e, e < nL p → lg_cmp (gL σ 59 0 (6 + e)) x = 0 → (∀ e', e' < e → ¬ lg_cmp (gL σ 59 0 (6 + e')) x = 0) → Q (nI e) σ) (h0 : (∀ e, e < nL p → ¬ lg_cmp (gL σ 59 0 (6 + e)) x = 0) → Q (-1) σ) : S_X2_linkNamed P x σ Q := by
  have h6 := hq.nL8
  have hN := hq.1.2.2.2.2.2.2.1.2
  have go : ∀ j k, k + j = nL p → (∀ e, e < k → ¬ lg_cmp (gL σ 59 0 (6 + e)) x = 0) → L_X2_linkNamed_2 Q (fun σ2 => Q (-1) σ2) (fun w4 σ3 => Q w4 σ3) P x (j + 1) (nI k) σ := by
    intro j
    induction j with
    | zero =>
      intro k hk hno
      have : k = nL p := by omega
      subst this
      unfold L_X2_linkNamed_2
      rw [hq.X.2.2.2.2.2.2.1]
      exact ⟨fun _ => h0 hno, fun q => absurd (nI_le (Nat.le_refl (nL p)) (by omega)) q⟩
    | succ j ih =>
      intro k hk hno
      unfold L_X2_linkNamed_2
      rw [hq.X.2.2.2.2.2.2.1, le_nI (by omega) (by omega), ix_nI (by omega), hN k (by omega), show (1 : Int32) = nI 1 from rfl, add_nI]
      refine ⟨fun q => by omega, fun _ => ⟨vp_in_nI (by omega) (by decide), fun q => ih (k + 1) (by omega) (fun e he => ?_), fun q => h1 k (by omega) q hno⟩⟩
      rcases Nat.lt_or_ge e k with a | a
      · exact hno e a
      · rw [show e = k by omega]
        exact q
  exact ⟨nL p + 1, go (nL p) 0 (by omega) (fun e he => by omega)⟩
theorem m_named6 {x : Int64} {K42 : Hp → Prop} {K34 : Int32 → Hp → Prop} (hq : RQ n σ p P) (h1 : ∀ e, e < nE p → lg_cmp (gL σ 59 0 e) x = 0 → (∀ e', e' < e → ¬ lg_cmp (gL σ 59 0 e') x = 0) → K34 (nI e) σ) (h0 : (∀ e, e < nE p → ¬ lg_cmp (gL σ 59 0 e) x = 0) → K42 σ) : ∃ m, L_X8_named_6 Q K42 K34 x m 0 σ := by
  have h6 := hq.nE6
  rcases Nat.eq_zero_or_pos (nL p) with e0 | e0
  · refine ⟨1, ?_⟩
    unfold L_X8_named_6
    rw [hq.told0 e0]
    exact b0' (h0 (fun e he => by have := (hq.none e0).1; omega))
  have go : ∀ j k, k + j = nE p → (∀ e, e < k → ¬ lg_cmp (gL σ 59 0 e) x = 0) → L_X8_named_6 Q K42 K34 x (j + 1) (nI k) σ := by
    intro j
    induction j with
    | zero =>
      intro k hk hno
      have : k = nE p := by omega
      subst this
      unfold L_X8_named_6
      rw [hq.told1 e0, show ix 5 = 5 from rfl, hq.m5]
      exact b1' ⟨vp_in_nI (n := 5) (by decide) (by decide), fun _ => h0 hno, fun q => absurd (nI_le (Nat.le_refl (nE p)) (by omega)) q⟩
    | succ j ih =>
      intro k hk hno
      unfold L_X8_named_6
      rw [hq.told1 e0, show ix 5 = 5 from rfl, hq.m5, le_nI (by omega) (by omega), ix_nI (by omega)]
      refine b1' ⟨vp_in_nI (n := 5) (by decide) (by decide), fun q => by omega, fun _ => ⟨vp_in_nI (by omega) (by decide), fun q => ?_, fun q => h1 k (by omega) q hno⟩⟩
      have := ih (k + 1) (by omega) (fun e he => by
        rcases Nat.lt_or_ge e k with a | a
        · exact hno e a
        · rw [show e = k by omega]
          exact q)
      rw [show (1 : Int32) = nI 1 from rfl, add_nI]
      exact this
  exact ⟨nE p + 1, go (nE p) 0 (by omega) (fun e he => by omega)⟩
theorem m_named44 {x : Int64} {K42 : Hp → Prop} {K34 : Int32 → Hp → Prop} (hq : RQ n σ p P) (h1 : ∀ e, e < nL p → lg_cmp (gL σ 59 0 (6 + e)) x = 0 → (∀ e', e' < e → ¬ lg_cmp (gL σ 59 0 (6 + e')) x = 0) → K34 (nI e) σ) (h0 : (∀ e, e < nL p → ¬ lg_cmp (gL σ 59 0 (6 + e)) x = 0) → K42 σ) : ∃ m, L_X8_named_44 Q K42 K34 x m 0 σ := by
  have h6 := hq.nL8
  rcases Nat.eq_zero_or_pos (nL p) with e0 | e0
  · refine ⟨1, ?_⟩
    unfold L_X8_named_44
    rw [hq.told0 e0]
    exact b0' (h0 (fun e he => by omega))
  have go : ∀ j k, k + j = nL p → (∀ e, e < k → ¬ lg_cmp (gL σ 59 0 (6 + e)) x = 0) → L_X8_named_44 Q K42 K34 x (j + 1) (nI k) σ := by
    intro j
    induction j with
    | zero =>
      intro k hk hno
      have : k = nL p := by omega
      subst this
      unfold L_X8_named_44
      rw [hq.told1 e0, show ix 6 = 6 from rfl, hq.m6]
      exact b1' ⟨vp_in_nI (n := 6) (by decide) (by decide), fun _ => h0 hno, fun q => absurd (nI_le (Nat.le_refl (nL p)) (by omega)) q⟩
    | succ j ih =>
      intro k hk hno
      unfold L_X8_named_44
      rw [hq.told1 e0, show ix 6 = 6 from rfl, hq.m6, le_nI (by omega) (by omega), show (6 : Int32) + nI k = nI (6 + k) from add_nI 6 k, ix_nI (by omega)]
      refine b1' ⟨vp_in_nI (n := 6) (by decide) (by decide), fun q => by omega, fun _ => ⟨vp_in_nI (by omega) (by decide), fun q => ?_, fun q => h1 k (by omega) q hno⟩⟩
      have := ih (k + 1) (by omega) (fun e he => by
        rcases Nat.lt_or_ge e k with a | a
        · exact hno e a
        · rw [show e = k by omega]
          exact q)
      rw [show (1 : Int32) = nI 1 from rfl, add_nI]
      exact this
  exact ⟨nL p + 1, go (nL p) 0 (by omega) (fun e he => by omega)⟩
theorem first_eq {M : Nat → Prop} {a b : Nat} (ha : M a) (ha' : ∀ e, e < a → ¬ M e) (hb : M b) (hb' : ∀ e, e < b → ¬ M e) : a = b := by
  rcases Nat.lt_trichotomy a b with h | h | h
  · exact absurd ha (hb' a h)
  · exact h
  · exact absurd hb (ha' b h)
theorem k_named {x : Int64} (h : RR n σ) : S_X7_named x σ (fun r σ1 => S_X8_named x σ1 (fun r' σ2 => r = r' ∧ RR (n + 1) σ2)) := by
  obtain ⟨⟨p, P, hq⟩, hT⟩ := h
  have h8 := hq.nL8
  have h6 := hq.nE6
  unfold S_X7_named
  rw [hq.g0]
  refine ⟨hq.P2, c_endNamed hq (fun e he m1 m2 => ⟨fun q => absurd q (ne_m1 (by omega)), fun _ => ?_⟩) (fun hno => ⟨fun _ => ?_, fun q => absurd rfl q⟩)⟩
  · rintro _ rfl
    unfold S_X8_named
    refine fresh_pre (m_named6 (hq.pr 0) (fun e' he' m1' m2' => ⟨?_, hq.ans hT⟩) (fun hno => absurd m1 (hno e he)))
    rw [first_eq (M := fun e => lg_cmp (gL σ 59 0 e) x = 0) m1 m2 m1' m2']
  · rw [hq.g0]
    refine ⟨hq.P2, c_linkNamed hq (fun e he m1 m2 => ⟨fun q => absurd q (ne_m1 (by omega)), fun _ => ?_⟩) (fun hno2 => ⟨fun _ => ?_, fun q => absurd rfl q⟩)⟩
    · rintro _ rfl
      unfold S_X8_named
      refine fresh_pre (m_named6 (hq.pr 0) (fun e' he' m1' m2' => absurd m1' (hno e' he')) (fun _ => ?_))
      refine m_named44 (hq.pr 0) (fun e' he' m1' m2' => ⟨?_, hq.ans hT⟩) (fun hno => absurd m1 (hno e he))
      rw [first_eq (M := fun e => lg_cmp (gL σ 59 0 (6 + e)) x = 0) m1 m2 m1' m2']
    · rintro _ rfl
      unfold S_X8_named
      refine fresh_pre (m_named6 (hq.pr 1) (fun e' he' m1' m2' => absurd m1' (hno e' he')) (fun _ => ?_))
      exact m_named44 (hq.pr 1) (fun e' he' m1' m2' => absurd m1' (hno2 e' he')) (fun _ => kR hq hT n14)
theorem m_eS {e : Nat} (hq : RQ n σ p P) (he : e < nE p) : vp_in (nI e) 6 ∧ gI σ 55 0 (ix (nI e)) = nI (eS p e) := by
  have h6 := hq.nE6
  rw [ix_nI (by omega)]
  exact ⟨vp_in_nI (by omega) (by decide), hq.M.2.1 e he⟩
theorem m_wayLong {l i : Nat} (hq : RQ n σ p P) (hl : l < nL p) (hi : i < rc p l) (k : Q (nI (wl p l i)) σ) : S_X8_wayLong (nI l) (nI i) σ Q := by
  have hLV := hq.V.2.2.2.2.2.2.2.2 l hl
  have hf := hLV.1
  have hr := (hLV.2.2.2.2.2.2.2.1 i hi).1
  have e1 := hq.V.2.2.2.2.2.2.2.1 _ hf
  have e2 := hq.V.2.2.2.2.2.2.2.1 _ hr
  have h3 := hq.V.1
  unfold S_X8_wayLong
  refine m_lnk (j := 0) hq hl (by decide) ⟨(m_eS hq hf).1, m_rcv hq hl hi ⟨(m_eS hq hr).1, ?_⟩⟩
  rw [(m_eS hq hr).2, show gI σ 55 0 (ix (nI (p 2 (7 * l + 0)))) = nI (eS p (fr p l)) from (m_eS hq hf).2]
  unfold S_X8_apart
  rw [le_nI (by omega) (by omega), show (2 : Int32) = nI 2 from rfl]
  unfold wl at k
  refine ⟨fun q => ?_, fun q => ?_⟩
  · rw [if_neg (by omega)] at k
    rw [sub_nI q, add_nI]
    exact k
  · rw [if_pos (by omega)] at k
    rw [sub_nI (by omega), add_nI]
    exact k
theorem m_wayOf {l i j : Nat} (hq : RQ n σ p P) (hl : l < nL p) (hi : i < rc p l) (hj : j < wl p l i) (k : Q (nI (wp p l i j)) σ) : S_X8_wayOf (nI l) (nI i) (nI j) σ Q := by
  have hLV := hq.V.2.2.2.2.2.2.2.2 l hl
  have hf := hLV.1
  have hr := (hLV.2.2.2.2.2.2.2.1 i hi).1
  have e1 := hq.V.2.2.2.2.2.2.2.1 _ hf
  have e2 := hq.V.2.2.2.2.2.2.2.1 _ hr
  have h3 := hq.V.1
  have w1 : wl p l i ≤ 4 ∧ 2 ≤ wl p l i := by
    unfold wl
    split <;> omega
  unfold S_X8_wayOf
  refine m_lnk (j := 0) hq hl (by decide) ⟨(m_eS hq hf).1, m_rcv hq hl hi ⟨(m_eS hq hr).1, ?_⟩⟩
  rw [(m_eS hq hr).2, show gI σ 55 0 (ix (nI (p 2 (7 * l + 0)))) = nI (eS p (fr p l)) from (m_eS hq hf).2]
  rw [show (0 : Int32) = nI 0 from rfl, eq_nI (by omega) (by decide)]
  unfold wp at k
  refine ⟨fun q => ?_, fun q => ?_⟩
  · rw [if_neg q] at k
    refine m_wayLong hq hl hi ?_
    rw [show (1 : Int32) = nI 1 from rfl, sub_nI (by omega), eq_nI (by omega) (by omega)]
    refine ⟨fun q2 => ?_, fun q2 => ?_⟩
    · rw [if_neg q2] at k
      rw [le_nI (by omega) (by omega), show (14 : Int32) = nI 14 from rfl, show (12 : Int32) = nI 12 from rfl, add_nI, add_nI, add_nI]
      refine ⟨fun q3 => ?_, fun q3 => ?_⟩
      · rw [if_neg (by omega)] at k
        rw [sub_nI (by omega)]
        exact k
      · rw [if_pos (by omega)] at k
        rw [sub_nI (by omega)]
        exact k
    · rw [if_pos q2] at k
      refine m_rcv hq hl hi ?_
      rw [show (6 : Int32) = nI 6 from rfl, add_nI]
      exact k
  · rw [if_pos q] at k
    exact m_lnk (j := 0) hq hl (by decide) k
theorem k_way {x y z : Int32} (h : RR n σ) : S_X7_way x y z σ (fun r σ1 => S_X8_way x y z σ1 (fun r' σ2 => r = r' ∧ RR (n + 1) σ2)) := by
  obtain ⟨⟨p, P, hq⟩, hT⟩ := h
  have wlb : ∀ l i, l < nL p → i < rc p l → wl p l i ≤ 4 := by
    intro l i hl hi
    have hLV := hq.V.2.2.2.2.2.2.2.2 l hl
    have e1 := hq.V.2.2.2.2.2.2.2.1 _ hLV.1
    have e2 := hq.V.2.2.2.2.2.2.2.1 _ (hLV.2.2.2.2.2.2.2.1 i hi).1
    have h3 := hq.V.1
    unfold wl
    split <;> omega
  have bad : (∀ l i, l < nL p → i < rc p l → x = nI l → y = nI i → ¬ isN z (wl p l i)) → S_X7_refuse 1 σ (fun r σ1 => S_X8_way x y z σ1 (fun r' σ2 => r = r' ∧ RR (n + 1) σ2)) := by
    intro hb
    rintro _ rfl
    unfold S_X8_way
    refine fresh_pre (m_isRec (hq.pr 1) (by decide) (fun l i hl hi e1 e2 => b1' ?_) (fun _ => b0' (kR hq hT n14)))
    have hz := hb l i hl hi e1 e2
    subst e1
    subst e2
    have := wlb l i hl hi
    refine m_wayLong (hq.pr 1) hl hi ?_
    exact rng2 (n := wl p l i) (by omega) (dec_nI (by omega)) (fun q => absurd q hz) (fun _ => b0' (kR hq hT n14))
  unfold S_X7_way S_X7_hasPortOnWay
  rw [hq.g0]
  refine ⟨hq.P2, c_hasRec hq (fun l i hl hi e1 e2 => b1' ?_) (fun q => b0' (b0 (bad (fun l i hl hi e1 e2 => absurd ⟨l, i, hl, hi, e1, e2⟩ q))))⟩
  subst e1
  subst e2
  have h24 := ear_lt hq hl hi
  have hL : 0 < nL p := by omega
  have h4 := wlb l i hl hi
  have hW := hq.W hL
  have l8 := hq.nL8
  have hr := (hq.V.2.2.2.2.2.2.2.2 l hl).2.2.2.2.2.2.1
  rw [hq.g0]
  unfold S_X7_earOf
  dsimp only
  rw [show (3 : Int32) = nI 3 from rfl, mul_nI, add_nI, Nat.mul_comm l 3, ix_nI (by omega), hW.1 l i hl hi]
  have badz : ¬ isN z (wl p l i) → S_X7_refuse 1 σ (fun r σ1 => S_X8_way (nI l) (nI i) z σ1 (fun r' σ2 => r = r' ∧ RR (n + 1) σ2)) := by
    intro q
    refine bad (fun l' i' hl' hi' e1 e2 => ?_)
    have a1 := nI_inj31 (by omega) (by omega) e1
    subst a1
    have a2 := nI_inj31 (by omega) (by omega) e2
    subst a2
    exact q
  refine ⟨fun q => b0 (badz (fun i => (isN_lt (by omega) i).1 q)), fun q => ⟨hq.P2, vp_in_nI h24 (by decide), fun q2 => b0 (badz (fun i => not_le_lt.mpr (isN_lt (by omega) i).2 q2)), fun q2 => b1 ?_⟩⟩
  obtain ⟨j, hj, rfl⟩ := isN_of (by omega) q (not_le_lt.mp q2)
  rw [hq.g0]
  refine ⟨hq.P2, ?_⟩
  unfold S_X6_portAt
  rw [show (4 : Int32) = nI 4 from rfl, mul_nI, add_nI, Nat.mul_comm _ 4, ix_nI (by omega), hW.2.1 l i j hl hi hj]
  refine ⟨vp_in_nI (by omega) (by decide), ?_⟩
  rintro _ rfl
  unfold S_X8_way
  refine fresh_pre (m_isRec (hq.pr 0) (by decide) (fun l' i' hl' hi' e1 e2 => b1' ?_) (fun q => absurd ⟨l, i, hl, hi, rfl, rfl⟩ q))
  refine m_wayLong (hq.pr 0) hl hi ?_
  refine rng2 (n := wl p l i) (by omega) (dec_nI (by omega)) (fun _ => b1' ?_) (fun q => absurd ⟨j, hj, rfl⟩ q)
  exact m_wayOf (hq.pr 0) hl hi hj ⟨rfl, hq.ans hT⟩
end Cases6
