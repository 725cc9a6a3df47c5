/-! ===== the reference's plan alone ===== -/
def RM (σ : Hp) (p : PD) : Prop := PV p ∧ PM σ p ∧ 0 < nL p ∧ gI σ 8 0 14 = 1
section Rm
variable {σ : Hp} {p : PD} {Q : Int32 → Hp → Prop}
theorem RM.V (h : RM σ p) : PV p := h.1
theorem RM.M (h : RM σ p) : PM σ p := h.2.1
theorem RM.nL8 (h : RM σ p) : nL p ≤ 8 := h.V.2.2.2.2.2.2.1
theorem RM.nE6 (h : RM σ p) : nE p ≤ 6 := h.V.2.2.2.2.2.1
theorem RM.told0 (h : RM σ p) (q : nL p = 0) : gI σ 8 0 14 = 0 := by have := h.2.2.1; omega
theorem RM.told1 (h : RM σ p) (_ : 0 < nL p) : gI σ 8 0 14 = 1 := h.2.2.2
theorem RM.none (h : RM σ p) (q : nL p = 0) : nE p = 0 ∧ pSw p = 0 := by have := h.2.2.1; omega
theorem RM.m6 (h : RM σ p) : gI σ 53 0 6 = nI (nL p) := h.M.1 6 (by decide)
theorem RQ.rm {n P : Nat} (h : RQ n σ p P) (hL : 0 < nL p) : RM σ p := ⟨h.V, h.M, hL, h.told1 hL⟩
theorem mm_isEnd {x : Int32} (h : RM σ p) (h1 : ∀ l, l < nE p → x = nI l → Q 1 σ) (h0 : ¬ isN x (nE p) → Q 0 σ) : S_X8_isEnd x σ Q := by
  unfold S_X8_isEnd
  rcases Nat.eq_zero_or_pos (nL p) with e | e
  · rw [h.told0 e]
    exact b0' (h0 (fun ⟨l, q, _⟩ => by have := (h.none e).1; omega))
  · rw [h.told1 e]
    refine b1' ⟨vp_in_nI (n := 5) (by decide) (by decide), ?_⟩
    rw [show ix 5 = 5 from rfl, h.M.1 5 (by decide)]
    exact rng2 (n := nE p) (by have := h.nE6; omega) (dec_nI (by have := h.nE6; show nE p < _; omega)) (fun ⟨l, q1, q2⟩ => b1' (h1 l q1 q2)) (fun q => b0' (h0 q))
theorem mm_lnk {l j : Nat} (h : RM σ p) (hl : l < nL p) (hj : j < 4) (k : Q (nI (p 2 (7 * l + j))) σ) : S_X8_linkOf (nI l) (nI j) σ Q := by
  have h8 := h.nL8
  unfold S_X8_linkOf
  rw [show (7 : Int32) = nI 7 from rfl, mul_nI, add_nI, vpin_nI (by omega) (by decide), ix_nI (by omega), h.M.2.2.1 l hl j hj]
  exact ⟨trivial, k⟩
theorem mm_rcv {l i : Nat} (h : RM σ p) (hl : l < nL p) (hi : i < rc p l) (k : Q (nI (re p l i)) σ) : S_X8_receiverOf (nI l) (nI i) σ Q := by
  have h8 := h.nL8
  have hr := (h.V.2.2.2.2.2.2.2.2 l hl).2.2.2.2.2.2.1
  unfold S_X8_receiverOf S_X8_linkOf
  rw [show (7 : Int32) = nI 7 from rfl, show (4 : Int32) = nI 4 from rfl, mul_nI, add_nI, add_nI, ← Nat.add_assoc, vpin_nI (by omega) (by decide), ix_nI (by omega), h.M.2.2.2 l hl i hi]
  exact ⟨trivial, k⟩
theorem mm_isPort {x : Int32} (h : RM σ p) (h1 : ∀ k, k < 16 → x = nI k → ptOk p k → Q 1 σ) (h0 : ¬ isPt p x → Q 0 σ) : S_X8_isPort x σ Q := by
  have h6 := h.nE6
  have h3 := h.V.1
  unfold S_X8_isPort
  refine rng2 (n := 16) (by decide) rfl (fun hx => b1 ?_) (fun q => b0 (h0 (fun ⟨k, a, b, c⟩ => q ⟨k, a, b⟩)))
  obtain ⟨k, hk, rfl⟩ := hx
  have no : ¬ ptOk p k → Q 0 σ := fun q => h0 (fun ⟨k', a, b, c⟩ => q (by rw [nI_inj31 (by omega) (by omega) b]; exact c))
  have yes : ptOk p k → Q 1 σ := h1 k hk rfl
  rw [show (12 : Int32) = nI 12 from rfl, le_nI (by decide) (by omega)]
  refine ⟨fun q12 => ?_, fun q12 => ?_⟩
  · rcases Nat.eq_zero_or_pos (nL p) with e | e
    · rw [h.told0 e]
      exact b0' (no (fun c => by have := h.none e; unfold ptOk at c; omega))
    · rw [h.told1 e]
      refine b1' ⟨vp_in_nI (n := 0) (by decide) (by decide), ?_⟩
      rw [show ix 0 = 0 from rfl, h.M.1 0 (by decide), sub_nI q12, show (2 : Int32) = nI 2 from rfl, rem_nI (by omega) (by decide) (by decide), show (1 : Int32) = nI 1 from rfl, add_nI, le_nI (show p 0 0 < 2 ^ 31 by have : p 0 0 ≤ 3 := h3; omega) (by omega)]
      exact ⟨fun q => no (fun c => by unfold ptOk at c; unfold pSw at c; omega), fun q => yes (Or.inr ⟨q12, by unfold pSw; omega⟩)⟩
  · rw [show (6 : Int32) = nI 6 from rfl, rem_nI (by omega) (by decide) (by decide)]
    refine mm_isEnd h (fun e he e2 => ⟨zb1, ?_⟩) (fun q => ⟨zb0, no (fun c => q ⟨k % 6, by unfold ptOk at c; omega, rfl⟩)⟩)
    have := nI_inj31 (by omega) (by omega) e2
    exact yes (Or.inl ⟨by omega, by omega⟩)
theorem mm_eS {e : Nat} (hq : RM σ p) (he : e < nE p) : vp_in (nI e) 6 ∧ gI σ 55 0 (ix (nI e)) = nI (eS p e) := by
  have h6 := hq.nE6
  rw [ix_nI (by omega)]
  exact ⟨vp_in_nI (by omega) (by decide), hq.M.2.1 e he⟩
theorem mm_wayLong {l i : Nat} (hq : RM σ p) (hl : l < nL p) (hi : i < rc p l) (k : Q (nI (wl p l i)) σ) : S_X8_wayLong (nI l) (nI i) σ Q := by
  have hLV := hq.V.2.2.2.2.2.2.2.2 l hl
  have hf := hLV.1
  have hr := (hLV.2.2.2.2.2.2.2.1 i hi).1
  have e1 := hq.V.2.2.2.2.2.2.2.1 _ hf
  have e2 := hq.V.2.2.2.2.2.2.2.1 _ hr
  have h3 := hq.V.1
  unfold S_X8_wayLong
  refine mm_lnk (j := 0) hq hl (by decide) ⟨(mm_eS hq hf).1, mm_rcv hq hl hi ⟨(mm_eS hq hr).1, ?_⟩⟩
  rw [(mm_eS hq hr).2, show gI σ 55 0 (ix (nI (p 2 (7 * l + 0)))) = nI (eS p (fr p l)) from (mm_eS hq hf).2]
  unfold S_X8_apart
  rw [le_nI (by omega) (by omega), show (2 : Int32) = nI 2 from rfl]
  unfold wl at k
  refine ⟨fun q => ?_, fun q => ?_⟩
  · rw [if_neg (by omega)] at k
    rw [sub_nI q, add_nI]
    exact k
  · rw [if_pos (by omega)] at k
    rw [sub_nI (by omega), add_nI]
    exact k
theorem mm_wayOf {l i j : Nat} (hq : RM σ p) (hl : l < nL p) (hi : i < rc p l) (hj : j < wl p l i) (k : Q (nI (wp p l i j)) σ) : S_X8_wayOf (nI l) (nI i) (nI j) σ Q := by
  have hLV := hq.V.2.2.2.2.2.2.2.2 l hl
  have hf := hLV.1
  have hr := (hLV.2.2.2.2.2.2.2.1 i hi).1
  have e1 := hq.V.2.2.2.2.2.2.2.1 _ hf
  have e2 := hq.V.2.2.2.2.2.2.2.1 _ hr
  have h3 := hq.V.1
  have w1 : wl p l i ≤ 4 ∧ 2 ≤ wl p l i := by
    unfold wl
    split <;> omega
  unfold S_X8_wayOf
  refine mm_lnk (j := 0) hq hl (by decide) ⟨(mm_eS hq hf).1, mm_rcv hq hl hi ⟨(mm_eS hq hr).1, ?_⟩⟩
  rw [(mm_eS hq hr).2, show gI σ 55 0 (ix (nI (p 2 (7 * l + 0)))) = nI (eS p (fr p l)) from (mm_eS hq hf).2]
  rw [show (0 : Int32) = nI 0 from rfl, eq_nI (by omega) (by decide)]
  unfold wp at k
  refine ⟨fun q => ?_, fun q => ?_⟩
  · rw [if_neg q] at k
    refine mm_wayLong hq hl hi ?_
    rw [show (1 : Int32) = nI 1 from rfl, sub_nI (by omega), eq_nI (by omega) (by omega)]
    refine ⟨fun q2 => ?_, fun q2 => ?_⟩
    · rw [if_neg q2] at k
      rw [le_nI (by omega) (by omega), show (14 : Int32) = nI 14 from rfl, show (12 : Int32) = nI 12 from rfl, add_nI, add_nI, add_nI]
      refine ⟨fun q3 => ?_, fun q3 => ?_⟩
      · rw [if_neg (by omega)] at k
        rw [sub_nI (by omega)]
        exact k
      · rw [if_pos (by omega)] at k
        rw [sub_nI (by omega)]
        exact k
    · rw [if_pos q2] at k
      refine mm_rcv hq hl hi ?_
      rw [show (6 : Int32) = nI 6 from rfl, add_nI]
      exact k
  · rw [if_pos q] at k
    exact mm_lnk (j := 0) hq hl (by decide) k
theorem mwp_lt31 {l i k : Nat} (hq : RM σ p) (hl : l < nL p) (hi : i < rc p l) (hk : k < wl p l i) : wp p l i k < 2 ^ 31 ∧ wl p l i ≤ 4 := by
  have hLV := hq.V.2.2.2.2.2.2.2.2 l hl
  have hf := hLV.1
  have hr := (hLV.2.2.2.2.2.2.2.1 i hi).1
  have e1 := hq.V.2.2.2.2.2.2.2.1 _ hf
  have e2 := hq.V.2.2.2.2.2.2.2.1 _ hr
  have h3 := hq.V.1
  have h6 := hq.nE6
  have w1 : wl p l i ≤ 4 := by
    unfold wl
    split <;> omega
  refine ⟨?_, w1⟩
  unfold wp
  split
  · omega
  · split
    · omega
    · split <;> omega
theorem mwl_le4 {l i : Nat} (hq : RM σ p) (hl : l < nL p) (hi : i < rc p l) : wl p l i ≤ 4 := by
  have hLV := hq.V.2.2.2.2.2.2.2.2 l hl
  have e1 := hq.V.2.2.2.2.2.2.2.1 _ hLV.1
  have e2 := hq.V.2.2.2.2.2.2.2.1 _ (hLV.2.2.2.2.2.2.2.1 i hi).1
  have h3 := hq.V.1
  unfold wl
  split <;> omega
theorem mm_goesThrough {l pt : Nat} (hq : RM σ p) (hl : l < nL p) (hpt : pt < 16) (h1 : on p l pt → Q 1 σ) (h0 : ¬ on p l pt → Q 0 σ) : S_X8_goesThrough (nI l) (nI pt) σ Q := by
  have h8 := hq.nL8
  have hr := (hq.V.2.2.2.2.2.2.2.2 l hl).2.2.2.2.2.2.1
  have inner : ∀ (i : Nat) (K46 K38 : Hp → Prop), i < rc p l → ((∀ k, k < wl p l i → wp p l i k ≠ pt) → K46 σ) → (∀ k, k < wl p l i → wp p l i k = pt → K38 σ) → ∃ m, L_X8_goesThrough_15 Q K46 K38 (nI l) (nI pt) (nI i) m 0 σ := by
    intro i K46 K38 hi hno hyes
    have w4 := mwl_le4 hq hl hi
    have go : ∀ j k, k + j = wl p l i → (∀ k', k' < k → wp p l i k' ≠ pt) → L_X8_goesThrough_15 Q K46 K38 (nI l) (nI pt) (nI i) (j + 1) (nI k) σ := by
      intro j
      induction j with
      | zero =>
        intro k hk hb
        unfold L_X8_goesThrough_15
        refine mm_wayLong hq hl hi ?_
        rw [le_nI (by omega) (by omega)]
        exact ⟨fun _ => hno (fun k' hk' => hb k' (by omega)), fun q => absurd (by omega) q⟩
      | succ j ih =>
        intro k hk hb
        have hkw : k < wl p l i := by omega
        unfold L_X8_goesThrough_15
        refine mm_wayLong hq hl hi ?_
        rw [le_nI (by omega) (by omega)]
        refine ⟨fun q => by omega, fun _ => mm_wayOf hq hl hi hkw ?_⟩
        rw [eq_nI (mwp_lt31 hq hl hi hkw).1 (by omega), show (1 : Int32) = nI 1 from rfl, add_nI]
        refine ⟨fun q => ih (k + 1) (by omega) (fun k' hk' => ?_), fun q => hyes k hkw q⟩
        rcases Nat.lt_or_ge k' k with a | a
        · exact hb k' a
        · rw [show k' = k by omega]
          exact q
    exact ⟨wl p l i + 1, go (wl p l i) 0 (by omega) (fun k' hk' => by omega)⟩
  have outer : ∀ j i, i + j = rc p l → (∀ i' k, i' < i → k < wl p l i' → wp p l i' k ≠ pt) → L_X8_goesThrough_2 Q (fun σ11 => Q 0 σ11) (fun σ12 => Q 1 σ12) (nI l) (nI pt) (j + 1) (nI i) σ := by
    intro j
    induction j with
    | zero =>
      intro i hi hb
      unfold L_X8_goesThrough_2
      refine mm_lnk (j := 3) hq hl (by decide) ?_
      rw [show p 2 (7 * l + 3) = rc p l from rfl, le_nI (by omega) (by omega)]
      exact ⟨fun _ => h0 (fun ⟨i', k, a, b, c⟩ => hb i' k (by omega) b c), fun q => absurd (by omega) q⟩
    | succ j ih =>
      intro i hi hb
      unfold L_X8_goesThrough_2
      refine mm_lnk (j := 3) hq hl (by decide) ?_
      rw [show p 2 (7 * l + 3) = rc p l from rfl, le_nI (by omega) (by omega), show (1 : Int32) = nI 1 from rfl, add_nI]
      refine ⟨fun q => by omega, fun _ => inner i _ _ (by omega) (fun hno => ih (i + 1) (by omega) (fun i' k hi' hk => ?_)) (fun k hk e => h1 ⟨i, k, by omega, hk, e⟩)⟩
      rcases Nat.lt_or_ge i' i with a | a
      · exact hb i' k a hk
      · have : i' = i := by omega
        subst this
        exact hno k hk
  exact ⟨rc p l + 1, outer (rc p l) 0 (by omega) (fun i' k hi' => by omega)⟩
end Rm
