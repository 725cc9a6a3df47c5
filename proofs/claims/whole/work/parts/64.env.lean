section EnvM
variable {σ : Hp} {p : PD}
theorem gap_l {l : Nat} (hV : PV p) (hl : l < nL p) : isGap (gp p l) ∧ 8 ≤ gp p l ∧ gp p l ≤ 256 ∧ 1 ≤ ln p l ∧ ln p l ≤ 40 ∧ (nI (gp p l)).toInt64 = lN (gp p l) ∧ (nI (ln p l)).toInt64 = lN (ln p l) ∧ ¬ lN (gp p l) = 0 := by
  have hLV := hV.2.2.2.2.2.2.2.2 l hl
  have hg := gap_256 hLV.2.1
  refine ⟨hLV.2.1, hg.2.1, hg.2.2, hLV.2.2.1, hLV.2.2.2.1, nI_l (by omega), nI_l (by have := hLV.2.2.2.1; omega), fun q => ?_⟩
  have := (pk_lEQ (a := gp p l) (b := 0) (by omega) (by decide)).mp q
  omega
theorem rate_eq {g a : Nat} (hg : isGap g) : 16777216 / g * a = 65536 * (a * (256 / g)) := by
  rcases hg with h | h | h | h | h | h <;> subst h <;> omega
theorem mm_rateOf {l : Nat} {Q : Int64 → Hp → Prop} (hq : RM σ p) (hl : l < nL p) (k : Q (lN (16777216 / gp p l * ln p l)) σ) : S_X8_rateOf (nI l) σ Q := by
  obtain ⟨g1, g2, g3, g4, g5, g6, g7, g8⟩ := gap_l hq.V hl
  unfold S_X8_rateOf
  refine mm_lnk (j := 1) hq hl (by decide) ?_
  rw [show p 2 (7 * l + 1) = gp p l from rfl, g6]
  refine ⟨g8, mm_lnk (j := 2) hq hl (by decide) ?_⟩
  rw [show p 2 (7 * l + 2) = ln p l from rfl, g7, show (16777216 : Int64) = lN 16777216 from rfl, pk_lDiv (by decide) (by omega) (by omega), lN_mul]
  exact k
theorem ld_off {pt : Nat} (hV : PV p) (h : ¬ ptOk p pt) : ldN p pt = 0 := by
  have := smN_le (f := fun l => cif (on p l pt) (ln p l * (256 / gp p l)) 0) (B := 0) (nL p) (fun l hl => cif_le (fun ho => absurd (on_pt hV hl ho).2 h))
  show smN _ _ = 0
  omega
theorem mm_loadOf {pt : Nat} {Q : Int64 → Hp → Prop} (hq : RM σ p) (hpt : pt < 16) (k : Q (lN (65536 * ldN p pt)) σ) : S_X8_loadOf (nI pt) σ Q := by
  have h8 := hq.nL8
  have go : ∀ j m, m + j = nL p → L_X8_loadOf_5 Q (fun w7 σ6 => Q w7 σ6) (nI pt) (j + 1) (lN (65536 * smN (fun l => cif (on p l pt) (ln p l * (256 / gp p l)) 0) m)) (nI m) σ := by
    intro j
    induction j with
    | zero =>
      intro m hm
      have : m = nL p := by omega
      subst this
      unfold L_X8_loadOf_5
      rw [show ix 6 = 6 from rfl, hq.m6]
      exact ⟨vp_in_nI (n := 6) (by decide) (by decide), fun _ => k, fun q => absurd (nI_le (Nat.le_refl (nL p)) (by omega)) q⟩
    | succ j ih =>
      intro m hm
      have := ih (m + 1) (by omega)
      rw [smN_succ] at this
      unfold L_X8_loadOf_5
      rw [show ix 6 = 6 from rfl, hq.m6, le_nI (by omega) (by omega)]
      refine ⟨vp_in_nI (n := 6) (by decide) (by decide), fun q => by omega, fun _ => mm_goesThrough hq (by omega) hpt (fun o => b1' ?_) (fun o => b0' ?_)⟩
      · refine mm_rateOf hq (by omega) ?_
        rw [cif_pos o, Nat.mul_add, ← rate_eq (gap_l hq.V (show m < nL p by omega)).1] at this
        unfold J_X8_loadOf_38
        rw [show nI m + 1 = nI (m + 1) from add_nI m 1, lN_add]
        exact this
      · rw [cif_neg o, Nat.add_zero] at this
        unfold J_X8_loadOf_38
        rw [show nI m + 1 = nI (m + 1) from add_nI m 1, show (0 : Int64) = lN 0 from rfl, lN_add]
        exact this
  exact ⟨nL p + 1, go (nL p) 0 (by omega)⟩
theorem mm_isBorne {Q : Int32 → Hp → Prop} (hq : RM σ p) (h1 : (∀ pt, pt < 16 → ldN p pt ≤ 256) → Q 1 σ) (h0 : (∃ pt, pt < 16 ∧ 256 < ldN p pt) → Q 0 σ) : S_X8_isBorne σ Q := by
  have go : ∀ j m, m + j = 16 → (∀ pt, pt < m → ldN p pt ≤ 256) → L_X8_isBorne_2 Q (fun σ6 => Q 1 σ6) (fun σ7 => Q 0 σ7) (j + 1) (nI m) σ := by
    intro j
    induction j with
    | zero =>
      intro m hm hb
      have : m = 16 := by omega
      subst this
      exact ⟨fun _ => h1 hb, fun q => absurd (nI_le (Nat.le_refl 16) (by decide)) q⟩
    | succ j ih =>
      intro m hm hb
      unfold L_X8_isBorne_2
      rw [show (16 : Int32) = nI 16 from rfl, le_nI (by omega) (by omega)]
      have nx : ldN p m ≤ 256 → J_X8_isBorne_30 Q (L_X8_isBorne_2 Q (fun σ6 => Q 1 σ6) (fun σ7 => Q 0 σ7) (j + 1)) (fun σ6 => Q 1 σ6) (fun σ7 => Q 0 σ7) (nI m) σ := by
        intro q
        unfold J_X8_isBorne_30
        rw [show nI m + 1 = nI (m + 1) from add_nI m 1]
        refine ih (m + 1) (by omega) (fun pt hpt => ?_)
        rcases Nat.lt_or_ge pt m with a | a
        · exact hb pt a
        · rw [show pt = m by omega]
          exact q
      refine ⟨fun q => by omega, fun _ => mm_isPort hq (fun k hk e ok => b1' ?_) (fun q => b0' (nx ?_))⟩
      · refine mm_loadOf hq (by omega) ?_
        have hl := ldN_le hq.V m
        rw [lg_cmp_le, show (16777216 : Int64) = lN 16777216 from rfl, pk_lLE (by omega) (by decide)]
        exact ⟨fun q => nx (by omega), fun q => h0 ⟨m, by omega, by omega⟩⟩
      · rw [ld_off hq.V (fun ok => q ⟨m, by omega, rfl, ok⟩)]
        decide
  exact ⟨17, go 16 0 (by omega) (fun pt hpt => by omega)⟩
theorem mm_portAhead {l pt : Nat} {Q : Int32 → Hp → Prop} (hq : RM σ p) (hl : l < nL p) (ho : on p l pt) (h6 : 6 ≤ pt) (k : Q (nI (ahN p l pt)) σ) : S_X8_portAhead (nI l) (nI pt) σ Q := by
  have h8 := hq.nL8
  have hr := (hq.V.2.2.2.2.2.2.2.2 l hl).2.2.2.2.2.2.1
  obtain ⟨h16, _, _, i0, k0, hi0, hk0, hw0, e0, _⟩ := on_prev hq.V hl ho h6
  have inner : ∀ (i : Nat) (K55 : Hp → Prop) (K38 : Int32 → Hp → Prop), i < rc p l → ((∀ k, 1 ≤ k → k < wl p l i → wp p l i k ≠ pt) → K55 σ) → (∀ k, 1 ≤ k → k < wl p l i → wp p l i k = pt → K38 (nI k) σ) → ∃ m, L_X8_portAhead_15 Q K55 K38 (nI l) (nI pt) (nI i) m 1 σ := by
    intro i K55 K38 hi hno hyes
    have w4 := mwl_le4 hq hl hi
    have go : ∀ j k, 1 ≤ k → k + j = wl p l i → (∀ k', 1 ≤ k' → k' < k → wp p l i k' ≠ pt) → L_X8_portAhead_15 Q K55 K38 (nI l) (nI pt) (nI i) (j + 1) (nI k) σ := by
      intro j
      induction j with
      | zero =>
        intro k h1 hk hb
        unfold L_X8_portAhead_15
        refine mm_wayLong hq hl hi ?_
        rw [le_nI (by omega) (by omega)]
        exact ⟨fun _ => hno (fun k' h1' hk' => hb k' h1' (by omega)), fun q => absurd (by omega) q⟩
      | succ j ih =>
        intro k h1 hk hb
        have hkw : k < wl p l i := by omega
        unfold L_X8_portAhead_15
        refine mm_wayLong hq hl hi ?_
        rw [le_nI (by omega) (by omega)]
        refine ⟨fun q => by omega, fun _ => mm_wayOf hq hl hi hkw ?_⟩
        rw [eq_nI (mwp_lt31 hq hl hi hkw).1 (by omega), show (1 : Int32) = nI 1 from rfl, add_nI]
        refine ⟨fun q => ih (k + 1) (by omega) (by omega) (fun k' h1' hk' => ?_), fun q => hyes k h1 hkw q⟩
        rcases Nat.lt_or_ge k' k with a | a
        · exact hb k' h1' a
        · rw [show k' = k by omega]
          exact q
    have w2 : 2 ≤ wl p l i := by
      have := wl_cases p l i
      omega
    exact ⟨wl p l i - 1 + 1, go (wl p l i - 1) 1 (Nat.le_refl 1) (by omega) (fun k' h1' hk' => by omega)⟩
  have outer : ∀ j i, i + j = rc p l → (∀ i' k, i' < i → 1 ≤ k → k < wl p l i' → wp p l i' k ≠ pt) → L_X8_portAhead_2 Q (fun σ12 => Q (-1) σ12) (fun w14 w15 σ13 => S_X8_wayOf (nI l) w14 (w15 - 1) σ13 (fun r17 σ16 => Q r17 σ16)) (nI l) (nI pt) (j + 1) (nI i) σ := by
    intro j
    induction j with
    | zero =>
      intro i hi hb
      exact absurd e0 (hb i0 k0 (by omega) hk0 hw0)
    | succ j ih =>
      intro i hi hb
      unfold L_X8_portAhead_2
      refine mm_lnk (j := 3) hq hl (by decide) ?_
      rw [show p 2 (7 * l + 3) = rc p l from rfl, le_nI (by omega) (by omega), show (1 : Int32) = nI 1 from rfl, add_nI]
      refine ⟨fun q => by omega, fun _ => inner i _ _ (by omega) (fun hno => ih (i + 1) (by omega) (fun i' k hi' h1 hk => ?_)) (fun k1 h1 hk1 e => ?_)⟩
      · rcases Nat.lt_or_ge i' i with a | a
        · exact hb i' k a h1 hk
        · have : i' = i := by omega
          subst this
          exact hno k h1 hk
      · have w := wp_prev hq.V hl (show i < rc p l by omega) h1 hk1
        have w4 := mwl_le4 hq hl (show i < rc p l by omega)
        rw [sub_nI h1]
        refine mm_wayOf hq hl (by omega) (by omega) ?_
        rw [w.1, e]
        exact k
  exact ⟨rc p l + 1, outer (rc p l) 0 (by omega) (fun i' k hi' => by omega)⟩
theorem mm_BD (hq : RM σ p) : ∀ n, (∀ (l pt : Nat) (Q : Int64 → Hp → Prop), l < nL p → on p l pt → 6 ≤ pt → 2 * dpN pt ≤ n + 1 → Q (lN (buN p l pt)) σ → (BD n).1 (nI l) (nI pt) σ Q) ∧ (∀ (pt : Nat) (Q : Int64 → Hp → Prop), pt < 16 → ((pt < 6 ∧ 1 ≤ n) ∨ (6 ≤ pt ∧ 2 * dpN pt ≤ n)) → Q (lN (deN p pt)) σ → (BD n).2 (nI pt) σ Q) := by
  have h8 := hq.nL8
  intro n
  induction n with
  | zero =>
    refine ⟨fun l pt Q hl ho h6 hd k => ?_, fun pt Q h16 hd k => ?_⟩
    · have := dpN_cases pt; omega
    · have := dpN_cases pt; omega
  | succ n ih =>
    refine ⟨fun l pt Q hl ho h6 hd k => ?_, fun pt Q h16 hd k => ?_⟩
    · obtain ⟨g1, g2, g3, g4, g5, g6, g7, g8⟩ := gap_l hq.V hl
      obtain ⟨h16, ho2, hc, _⟩ := on_prev hq.V hl ho h6
      have be := buN_eq hq.V hl ho h6
      show S_X8_burstOf (BD n).1 (BD n).2 (nI l) (nI pt) σ Q
      unfold S_X8_burstOf
      refine mm_portAhead hq hl ho h6 ?_
      rw [show (6 : Int32) = nI 6 from rfl, le_nI (by decide) (by omega)]
      refine ⟨fun q => ?_, fun q => ?_⟩
      · have hc' := hc.resolve_left (by omega)
        have d1 := deN_le hq.V (ahN p l pt)
        refine ih.1 l (ahN p l pt) _ hl ho2 q (by omega) ?_
        refine ih.2 (ahN p l pt) _ hc'.2.1 (Or.inr ⟨q, by omega⟩) ?_
        refine mm_lnk (j := 1) hq hl (by decide) ?_
        rw [show p 2 (7 * l + 1) = gp p l from rfl, g6]
        refine ⟨g8, mm_lnk (j := 2) hq hl (by decide) ?_⟩
        rw [show p 2 (7 * l + 2) = ln p l from rfl, g7, pk_lDiv (by omega) (by omega) (by omega), lN_mul, lN_add, ← be.2 q]
        exact k
      · refine mm_lnk (j := 2) hq hl (by decide) ?_
        rw [show p 2 (7 * l + 2) = ln p l from rfl, g7]
        refine mm_rateOf hq hl ⟨vp_in_nI (n := 2) (by decide) (by decide), ?_⟩
        have hj := hq.V.2.2.1
        rw [show ix 2 = 2 from rfl, hq.M.1 2 (by decide), show p 0 2 = pJit p from rfl, nI_l (by omega), show (16777216 : Int64) = lN 16777216 from rfl, lN_mul, lN_mul, lN_add]
        have := be.1 (by omega)
        unfold b0N at this
        rw [← this]
        exact k
    · show S_X8_delayOf (BD n).1 (BD n).2 (nI pt) σ Q
      have hde : ∀ f : Nat → Nat, (∀ l, l < nL p → f l = cif (on p l pt) (cif (pt < 6) (16777216 * ln p l) (buN p l pt)) 0) → smN f (nL p) = deN p pt := by
        intro f hf
        unfold deN
        split
        · next q => exact smN_congr (nL p) (fun l hl => by rw [hf l hl, cif_pos q])
        · next q => exact smN_congr (nL p) (fun l hl => by rw [hf l hl, cif_neg q])
      have go : ∀ j m, m + j = nL p → L_X8_delayOf_5 Q (fun w9 σ8 => Q w9 σ8) (BD n).1 (BD n).2 (nI pt) (j + 1) (lN (smN (fun l => cif (on p l pt) (cif (pt < 6) (16777216 * ln p l) (buN p l pt)) 0) m)) (nI m) σ := by
        intro j
        induction j with
        | zero =>
          intro m hm
          have : m = nL p := by omega
          subst this
          unfold L_X8_delayOf_5
          rw [show ix 6 = 6 from rfl, hq.m6, hde _ (fun _ _ => rfl)]
          exact ⟨vp_in_nI (n := 6) (by decide) (by decide), fun _ => k, fun q => absurd (nI_le (Nat.le_refl (nL p)) (by omega)) q⟩
        | succ j ih2 =>
          intro m hm
          have this := ih2 (m + 1) (by omega)
          rw [smN_succ] at this
          unfold L_X8_delayOf_5
          rw [show ix 6 = 6 from rfl, hq.m6, le_nI (by omega) (by omega)]
          refine ⟨vp_in_nI (n := 6) (by decide) (by decide), fun q => by omega, fun _ => mm_goesThrough hq (by omega) h16 (fun o => b1' ?_) (fun o => b0' ?_)⟩
          · rw [cif_pos o] at this
            rw [show (6 : Int32) = nI 6 from rfl, le_nI (by decide) (by omega)]
            refine ⟨fun q => ?_, fun q => ?_⟩
            · rw [cif_neg (by omega)] at this
              refine ih.1 m pt _ (by omega) o q (by omega) ?_
              unfold J_X8_delayOf_56 J_X8_delayOf_58
              rw [show nI m + 1 = nI (m + 1) from add_nI m 1, lN_add]
              exact this
            · rw [cif_pos (by omega)] at this
              refine mm_lnk (j := 2) hq (by omega) (by decide) ?_
              obtain ⟨g1, g2, g3, g4, g5, g6, g7, g8⟩ := gap_l hq.V (show m < nL p by omega)
              unfold J_X8_delayOf_56 J_X8_delayOf_58
              rw [show p 2 (7 * m + 2) = ln p m from rfl, g7, show nI m + 1 = nI (m + 1) from add_nI m 1, show (16777216 : Int64) = lN 16777216 from rfl, lN_mul, lN_add]
              exact this
          · rw [cif_neg o, Nat.add_zero] at this
            unfold J_X8_delayOf_58
            rw [show nI m + 1 = nI (m + 1) from add_nI m 1]
            exact this
      exact ⟨nL p + 1, go (nL p) 0 (by omega)⟩
theorem mm_delay8 {pt : Nat} {Q : Int64 → Hp → Prop} (hq : RM σ p) (h16 : pt < 16) (k : Q (lN (deN p pt)) σ) : S_X8_delayOf8 (nI pt) σ Q :=
  (mm_BD hq 8).2 pt Q h16 (by have := dpN_cases pt; omega) k
theorem mm_burst8 {l pt : Nat} {Q : Int64 → Hp → Prop} (hq : RM σ p) (hl : l < nL p) (ho : on p l pt) (h6 : 6 ≤ pt) (k : Q (lN (buN p l pt)) σ) : S_X8_burstOf8 (nI l) (nI pt) σ Q :=
  (mm_BD hq 8).1 l pt Q hl ho h6 (by have := dpN_cases pt; omega) k
/-- how late a frame can be at worst -/
noncomputable def boN (p : PD) (l i : Nat) : Nat := smN (fun k => deN p (wp p l i k)) (wl p l i)
theorem boN_le {l i : Nat} (hV : PV p) (h : wl p l i ≤ 4) : boN p l i ≤ 4 * (28119360 * 16777216) := by
  have h1 := smN_le (f := fun k => deN p (wp p l i k)) (B := 28119360 * 16777216) (wl p l i) (fun k _ => deN_le hV _)
  have h2 : wl p l i * (28119360 * 16777216) ≤ 4 * (28119360 * 16777216) := Nat.mul_le_mul_right _ h
  exact Nat.le_trans h1 h2
theorem wp_on {l i k : Nat} (hi : i < rc p l) (hk : k < wl p l i) : on p l (wp p l i k) := ⟨i, k, hi, hk, rfl⟩
theorem mm_boundOf {l i : Nat} {Q : Int64 → Hp → Prop} (hq : RM σ p) (hl : l < nL p) (hi : i < rc p l) (k : Q (lN (boN p l i)) σ) : S_X8_boundOf (nI l) (nI i) σ Q := by
  have w4 := mwl_le4 hq hl hi
  have go : ∀ j m, m + j = wl p l i → L_X8_boundOf_5 Q (fun w9 σ8 => Q w9 σ8) (nI l) (nI i) (j + 1) (lN (smN (fun k => deN p (wp p l i k)) m)) (nI m) σ := by
    intro j
    induction j with
    | zero =>
      intro m hm
      unfold L_X8_boundOf_5
      refine mm_wayLong hq hl hi ?_
      rw [le_nI (by omega) (by omega), show m = wl p l i by omega]
      exact ⟨fun _ => k, fun q => absurd (Nat.le_refl _) q⟩
    | succ j ih =>
      intro m hm
      have this := ih (m + 1) (by omega)
      rw [smN_succ] at this
      have hm' : m < wl p l i := by omega
      unfold L_X8_boundOf_5
      refine mm_wayLong hq hl hi ?_
      rw [le_nI (by omega) (by omega)]
      refine ⟨fun q => by omega, fun _ => mm_wayOf hq hl hi hm' (mm_delay8 hq (on_pt hq.V hl (wp_on hi hm')).1 ?_)⟩
      rw [show nI m + 1 = nI (m + 1) from add_nI m 1, lN_add]
      exact this
  exact ⟨wl p l i + 1, go (wl p l i) 0 (by omega)⟩
end EnvM
