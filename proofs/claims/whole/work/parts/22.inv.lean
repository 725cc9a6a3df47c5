/-! ===== ways ===== -/
theorem wl_cases (p : PD) (l i : Nat) : (eS p (fr p l) < eS p (re p l i) ∧ wl p l i = 2 + (eS p (re p l i) - eS p (fr p l))) ∨ (eS p (re p l i) ≤ eS p (fr p l) ∧ wl p l i = 2 + (eS p (fr p l) - eS p (re p l i))) := by
  unfold wl
  by_cases h : eS p (fr p l) < eS p (re p l i)
  · left; rw [if_pos h]; exact ⟨h, rfl⟩
  · right; rw [if_neg h]; exact ⟨by omega, rfl⟩
theorem wp_cases (p : PD) (l i k : Nat) : (k = 0 ∧ wp p l i k = fr p l) ∨ (k ≠ 0 ∧ k = wl p l i - 1 ∧ wp p l i k = 6 + re p l i) ∨ (k ≠ 0 ∧ k ≠ wl p l i - 1 ∧ eS p (fr p l) < eS p (re p l i) ∧ wp p l i k = 12 + eS p (fr p l) + k - 1) ∨ (k ≠ 0 ∧ k ≠ wl p l i - 1 ∧ eS p (re p l i) ≤ eS p (fr p l) ∧ wp p l i k = 14 + eS p (fr p l) - k) := by
  unfold wp
  by_cases h0 : k = 0
  · left; rw [if_pos h0]; exact ⟨h0, rfl⟩
  · right; rw [if_neg h0]
    by_cases h1 : k = wl p l i - 1
    · left; rw [if_pos h1]; exact ⟨h0, h1, rfl⟩
    · right; rw [if_neg h1]
      by_cases h2 : eS p (fr p l) < eS p (re p l i)
      · left; rw [if_pos h2]; exact ⟨h0, h1, h2, rfl⟩
      · right; rw [if_neg h2]; exact ⟨h0, h1, by omega, rfl⟩
theorem lies_cases {p : PD} {l sw to i : Nat} (h : liesI p l sw to i) : (to < 12 ∧ eS p (re p l i) = sw ∧ re p l i = to - 6) ∨ (12 ≤ to ∧ to < 14 ∧ sw = to - 12 ∧ sw < eS p (re p l i)) ∨ (14 ≤ to ∧ sw = to - 13 ∧ eS p (re p l i) < sw) := by
  unfold liesI at h
  by_cases h1 : to < 12
  · rw [if_pos h1] at h; exact Or.inl ⟨h1, h⟩
  · rw [if_neg h1] at h
    by_cases h2 : to < 14
    · rw [if_pos h2] at h; exact Or.inr (Or.inl ⟨by omega, h2, h⟩)
    · rw [if_neg h2] at h; exact Or.inr (Or.inr ⟨by omega, h⟩)
theorem lies_of {p : PD} {l sw to i : Nat} (h : (to < 12 ∧ eS p (re p l i) = sw ∧ re p l i = to - 6) ∨ (12 ≤ to ∧ to < 14 ∧ sw = to - 12 ∧ sw < eS p (re p l i)) ∨ (14 ≤ to ∧ sw = to - 13 ∧ eS p (re p l i) < sw)) : liesI p l sw to i := by
  unfold liesI
  rcases h with h | h | h
  · rw [if_pos h.1]; exact h.2
  · rw [if_neg (by omega), if_pos h.2.1]; exact h.2.2
  · rw [if_neg (by omega), if_neg (by omega)]; exact h.2
theorem swb_cases (p : PD) (fp : Nat) : (fp < 6 ∧ swb p fp = eS p fp) ∨ (6 ≤ fp ∧ fp < 14 ∧ swb p fp = fp - 11) ∨ (14 ≤ fp ∧ swb p fp = fp - 14) := by
  unfold swb
  by_cases h1 : fp < 6
  · rw [if_pos h1]; exact Or.inl ⟨h1, rfl⟩
  · rw [if_neg h1]
    by_cases h2 : fp < 14
    · rw [if_pos h2]; exact Or.inr (Or.inl ⟨by omega, h2, rfl⟩)
    · rw [if_neg h2]; exact Or.inr (Or.inr ⟨by omega, rfl⟩)
theorem on_fr {p : PD} {l : Nat} (h : 1 ≤ rc p l) : on p l (fr p l) := ⟨0, 0, h, by unfold wl; omega, by simp [wp]⟩
theorem on_low {p : PD} {l fp : Nat} (h : on p l fp) (hf : fp < 6) : fp = fr p l := by
  obtain ⟨i, k, hi, hk, he⟩ := h
  have h1 := wl_cases p l i
  have h2 := wp_cases p l i k
  omega
theorem on_end {p : PD} {l e : Nat} (hV : LV p l) (he : e < 6) (hn : nE p ≤ 6) (hs : ∀ e, e < nE p → eS p e < pSw p) (h3 : pSw p ≤ 3) (h : on p l (6 + e)) : ∃ i, i < rc p l ∧ re p l i = e := by
  obtain ⟨i, k, hi, hk, hw⟩ := h
  have hfr := hV.1
  have hre := hV.2.2.2.2.2.2.2.1 i hi
  have ha := hs _ hfr
  have hb := hs _ hre.1
  have h1 := wl_cases p l i
  have h2 := wp_cases p l i k
  exact ⟨i, hi, by omega⟩
theorem rIx_of {p : PD} {l e i : Nat} (hV : LV p l) (hi : i < rc p l) (h : re p l i = e) : rIx p l e = i := by
  have hd := hV.2.2.2.2.2.2.2.2
  have h3 := hV.2.2.2.2.2.2.1
  unfold rIx
  by_cases h0 : re p l 0 = e
  · rw [if_pos h0]
    exact hd 0 i (by omega) hi (h0.trans h.symm)
  · rw [if_neg h0]
    have hi0 : i ≠ 0 := fun q => h0 (q ▸ h)
    by_cases h1 : re p l 1 = e
    · rw [if_pos h1]
      exact hd 1 i (by omega) hi (h1.trans h.symm)
    · rw [if_neg h1]
      have hi1 : i ≠ 1 := fun q => h1 (q ▸ h)
      omega
/-- a step along a way: where the rule sends a frame of a port of its way on, that is the next port of a way of it -/
theorem nxt_step {p : PD} {l fp to : Nat} (hV : LV p l) (hs : ∀ e, e < nE p → eS p e < pSw p) (h3 : pSw p ≤ 3) (hn6 : nE p ≤ 6) (hf : fp < 6 ∨ (12 ≤ fp ∧ fp < 16)) (ht : 6 ≤ to) (ht2 : to < 16) (h : on p l fp) (hn : nxt p l fp to) : ∃ j k, j < rc p l ∧ k + 1 < wl p l j ∧ wp p l j k = fp ∧ wp p l j (k + 1) = to := by
  obtain ⟨hb, j, hj, hl⟩ := hn
  obtain ⟨i, k, hi, hk, hw⟩ := h
  have hfr := hs _ hV.1
  have hri := hs _ (hV.2.2.2.2.2.2.2.1 i hi).1
  have hrj := hs _ (hV.2.2.2.2.2.2.2.1 j hj).1
  have g1 := hV.1
  have g2 := (hV.2.2.2.2.2.2.2.1 i hi).1
  have g3 := (hV.2.2.2.2.2.2.2.1 j hj).1
  have hl := lies_cases hl
  have hsw := swb_cases p fp
  have h1 := wl_cases p l i
  have h2 := wp_cases p l i k
  have h4 := wl_cases p l j
  unfold isBack at hb
  by_cases hf6 : fp < 6
  · have hfe : fp = fr p l := on_low ⟨i, k, hi, hk, hw⟩ hf6
    subst hfe
    have h5 : wp p l j 0 = fr p l := by simp [wp]
    have h6 := wp_cases p l j 1
    have hsw : swb p (fr p l) = eS p (fr p l) := by omega
    rw [hsw] at hl
    clear h1 h2 hw hk
    refine ⟨j, 0, hj, by omega, h5, ?_⟩
    show wp p l j 1 = to
    rcases hl with hl | hl | hl
    · have : wl p l j = 2 := by omega
      omega
    · omega
    · omega
  · have h5 := wp_cases p l j k
    have h6 := wp_cases p l j (k + 1)
    rcases h2 with h2 | h2 | h2 | h2
    · omega
    · omega
    · have h7 : wl p l i = 2 + (eS p (re p l i) - eS p (fr p l)) := by omega
      have hsw : swb p fp = eS p (fr p l) + k := by omega
      rw [hsw] at hl
      have h8 : fp < 14 := by omega
      clear h1 hsw
      rcases hl with hl | hl | hl
      · have h9 : wl p l j = 2 + k := by omega
        exact ⟨j, k, hj, by omega, by omega, by omega⟩
      · have h9 : wl p l j = 2 + (eS p (re p l j) - eS p (fr p l)) := by omega
        exact ⟨j, k, hj, by omega, by omega, by omega⟩
      · omega
    · have h7 : wl p l i = 2 + (eS p (fr p l) - eS p (re p l i)) := by omega
      have hsw : swb p fp = eS p (fr p l) - k := by omega
      rw [hsw] at hl
      have h8 : 14 ≤ fp := by omega
      clear h1 hsw
      rcases hl with hl | hl | hl
      · have h9 : wl p l j = 2 + k := by omega
        exact ⟨j, k, hj, by omega, by omega, by omega⟩
      · omega
      · have h9 : wl p l j = 2 + (eS p (fr p l) - eS p (re p l j)) := by omega
        exact ⟨j, k, hj, by omega, by omega, by omega⟩
theorem on_next {p : PD} {l fp to : Nat} (hV : LV p l) (hs : ∀ e, e < nE p → eS p e < pSw p) (h3 : pSw p ≤ 3) (hn6 : nE p ≤ 6) (hf : fp < 6 ∨ (12 ≤ fp ∧ fp < 16)) (ht : 6 ≤ to) (ht2 : to < 16) (h : on p l fp) (hn : nxt p l fp to) : on p l to := by
  obtain ⟨j, k, h1, h2, -, h4⟩ := nxt_step hV hs h3 hn6 hf ht ht2 h hn
  exact ⟨j, k + 1, h1, h2, h4⟩
theorem step_nxt {p : PD} {l j k : Nat} (hV : LV p l) (hs : ∀ e, e < nE p → eS p e < pSw p) (h3 : pSw p ≤ 3) (hn : nE p ≤ 6) (hj : j < rc p l) (hk : k + 1 < wl p l j) : nxt p l (wp p l j k) (wp p l j (k + 1)) := by
  have hfr := hs _ hV.1
  have hf6 := hV.1
  have hrj := (hV.2.2.2.2.2.2.2.1 j hj).1
  have hrs := hs _ hrj
  have h4 := wl_cases p l j
  have h5 := wp_cases p l j k
  have h6 := wp_cases p l j (k + 1)
  have hsw := swb_cases p (wp p l j k)
  rcases h5 with h5 | h5 | h5 | h5
  · rw [h5.2] at hsw ⊢
    have hsw : swb p (fr p l) = eS p (fr p l) := by omega
    refine ⟨by unfold isBack; omega, j, hj, lies_of ?_⟩
    rw [hsw]
    omega
  · omega
  · have hsw : swb p (wp p l j k) = eS p (fr p l) + k := by omega
    have h9 : wl p l j = 2 + (eS p (re p l j) - eS p (fr p l)) := by omega
    clear h4
    refine ⟨by unfold isBack; omega, j, hj, lies_of ?_⟩
    rw [hsw]
    omega
  · have h9 : wl p l j = 2 + (eS p (fr p l) - eS p (re p l j)) := by omega
    have hsw : swb p (wp p l j k) = eS p (fr p l) - k := by omega
    clear h4
    refine ⟨by unfold isBack; omega, j, hj, lies_of ?_⟩
    rw [hsw]
    omega
