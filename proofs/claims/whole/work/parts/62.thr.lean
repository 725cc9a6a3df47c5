theorem m_throughL {n : Nat} {σ : Hp} {p : PD} {P pt : Nat} {Q : Int32 → Hp → Prop} {K : Int32 → Hp → Prop} (hq : RQ n σ p P) (hpt : pt < 16) (h : K (usN p pt (nL p)) σ) : ∃ m, L_X8_through_22 Q K (nI pt) m 0 0 σ := by
  have h8 := hq.nL8
  have go : ∀ j k, k + j = nL p → L_X8_through_22 Q K (nI pt) (j + 1) (usN p pt k) (nI k) σ := by
    intro j
    induction j with
    | zero =>
      intro k hk
      have : k = nL p := by omega
      subst this
      unfold L_X8_through_22
      rw [show ix 6 = 6 from rfl, hq.m6]
      exact ⟨vp_in_nI (n := 6) (by decide) (by decide), fun _ => h, fun q => absurd (nI_le (Nat.le_refl (nL p)) (by omega)) q⟩
    | succ j ih =>
      intro k hk
      have := ih (k + 1) (by omega)
      rw [usN_succ] at this
      unfold L_X8_through_22
      rw [show ix 6 = 6 from rfl, hq.m6, le_nI (by omega) (by omega)]
      refine ⟨vp_in_nI (n := 6) (by decide) (by decide), fun q => by omega, fun _ => m_goesThrough hq (by omega) hpt (fun o => b1' ?_) (fun o => b0' ?_)⟩
      · rw [cif_pos o] at this
        unfold J_X8_through_50
        rw [show nI k + 1 = nI (k + 1) from add_nI k 1]
        exact this
      · rw [cif_neg o] at this
        unfold J_X8_through_50
        rw [show nI k + 1 = nI (k + 1) from add_nI k 1]
        exact this
  exact ⟨nL p + 1, go (nL p) 0 (by omega)⟩
