section Through
variable {n : Nat} {σ : Hp} {p : PD} {P : Nat} {Q : Int32 → Hp → Prop}
theorem wp_lt31 {l i k : Nat} (hq : RQ n σ p P) (hl : l < nL p) (hi : i < rc p l) (hk : k < wl p l i) : wp p l i k < 2 ^ 31 ∧ wl p l i ≤ 4 := by
  have hLV := hq.V.2.2.2.2.2.2.2.2 l hl
  have hf := hLV.1
  have hr := (hLV.2.2.2.2.2.2.2.1 i hi).1
  have e1 := hq.V.2.2.2.2.2.2.2.1 _ hf
  have e2 := hq.V.2.2.2.2.2.2.2.1 _ hr
  have h3 := hq.V.1
  have h6 := hq.nE6
  have w1 : wl p l i ≤ 4 := by
    unfold wl
    split <;> omega
  refine ⟨?_, w1⟩
  unfold wp
  split
  · omega
  · split
    · omega
    · split <;> omega
theorem wl_le4 {l i : Nat} (hq : RQ n σ p P) (hl : l < nL p) (hi : i < rc p l) : wl p l i ≤ 4 := by
  have hLV := hq.V.2.2.2.2.2.2.2.2 l hl
  have e1 := hq.V.2.2.2.2.2.2.2.1 _ hLV.1
  have e2 := hq.V.2.2.2.2.2.2.2.1 _ (hLV.2.2.2.2.2.2.2.1 i hi).1
  have h3 := hq.V.1
  unfold wl
  split <;> omega
theorem m_goesThrough {l pt : Nat} (hq : RQ n σ p P) (hl : l < nL p) (hpt : pt < 16) (h1 : on p l pt → Q 1 σ) (h0 : ¬ on p l pt → Q 0 σ) : S_X8_goesThrough (nI l) (nI pt) σ Q := by
  have h8 := hq.nL8
  have hr := (hq.V.2.2.2.2.2.2.2.2 l hl).2.2.2.2.2.2.1
  have inner : ∀ (i : Nat) (K46 K38 : Hp → Prop), i < rc p l → ((∀ k, k < wl p l i → wp p l i k ≠ pt) → K46 σ) → (∀ k, k < wl p l i → wp p l i k = pt → K38 σ) → ∃ m, L_X8_goesThrough_15 Q K46 K38 (nI l) (nI pt) (nI i) m 0 σ := by
    intro i K46 K38 hi hno hyes
    have w4 := wl_le4 hq hl hi
    have go : ∀ j k, k + j = wl p l i → (∀ k', k' < k → wp p l i k' ≠ pt) → L_X8_goesThrough_15 Q K46 K38 (nI l) (nI pt) (nI i) (j + 1) (nI k) σ := by
      intro j
      induction j with
      | zero =>
        intro k hk hb
        unfold L_X8_goesThrough_15
        refine m_wayLong hq hl hi ?_
        rw [le_nI (by omega) (by omega)]
        exact ⟨fun _ => hno (fun k' hk' => hb k' (by omega)), fun q => absurd (by omega) q⟩
      | succ j ih =>
        intro k hk hb
        have hkw : k < wl p l i := by omega
        unfold L_X8_goesThrough_15
        refine m_wayLong hq hl hi ?_
        rw [le_nI (by omega) (by omega)]
        refine ⟨fun q => by omega, fun _ => m_wayOf hq hl hi hkw ?_⟩
        rw [eq_nI (wp_lt31 hq hl hi hkw).1 (by omega), show (1 : Int32) = nI 1 from rfl, add_nI]
        refine ⟨fun q => ih (k + 1) (by omega) (fun k' hk' => ?_), fun q => hyes k hkw q⟩
        rcases Nat.lt_or_ge k' k with a | a
        · exact hb k' a
        · rw [show k' = k by omega]
          exact q
    exact ⟨wl p l i + 1, go (wl p l i) 0 (by omega) (fun k' hk' => by omega)⟩
  have outer : ∀ j i, i + j = rc p l → (∀ i' k, i' < i → k < wl p l i' → wp p l i' k ≠ pt) → L_X8_goesThrough_2 Q (fun σ11 => Q 0 σ11) (fun σ12 => Q 1 σ12) (nI l) (nI pt) (j + 1) (nI i) σ := by
    intro j
    induction j with
    | zero =>
      intro i hi hb
      unfold L_X8_goesThrough_2
      refine m_lnk (j := 3) hq hl (by decide) ?_
      rw [show p 2 (7 * l + 3) = rc p l from rfl, le_nI (by omega) (by omega)]
      exact ⟨fun _ => h0 (fun ⟨i', k, a, b, c⟩ => hb i' k (by omega) b c), fun q => absurd (by omega) q⟩
    | succ j ih =>
      intro i hi hb
      unfold L_X8_goesThrough_2
      refine m_lnk (j := 3) hq hl (by decide) ?_
      rw [show p 2 (7 * l + 3) = rc p l from rfl, le_nI (by omega) (by omega), show (1 : Int32) = nI 1 from rfl, add_nI]
      refine ⟨fun q => by omega, fun _ => inner i _ _ (by omega) (fun hno => ih (i + 1) (by omega) (fun i' k hi' hk => ?_)) (fun k hk e => h1 ⟨i, k, by omega, hk, e⟩)⟩
      rcases Nat.lt_or_ge i' i with a | a
      · exact hb i' k a hk
      · have : i' = i := by omega
        subst this
        exact hno k hk
  exact ⟨rc p l + 1, outer (rc p l) 0 (by omega) (fun i' k hi' => by omega)⟩
end Through
