section Quiet
variable {n : Nat} {σ : Hp} {p : PD} {P : Nat}
theorem k_quiet (hn : n ≤ 600) (h : RR n σ) : S_X7_quiet σ (fun r σ1 => S_X8_quiet σ1 (fun r' σ2 => r = r' ∧ RR (n + 1) σ2)) := by
  obtain ⟨⟨p, P, hq⟩, hT⟩ := h
  have h8 := hq.nL8
  unfold S_X7_quiet
  refine c_noBus hq (fun hL => b0' ?_) (fun q => b1' ?_)
  · obtain ⟨s, t, b, ht1, hb1, hI, hE, hR, hz⟩ := hq.2.2.1.1 hL
    have inv : ∀ i, i ≤ 2001 → Inv p (t + i) (fun _ => t + i + 1) (b + 32 * i) (tN p i s) := fun i hi => inv_tN hq.V hI i (by omega)
    have zz : ∀ i l, nL p ≤ l → l < 8 → tN p i s 40 l = 0 := fun i l l1 l2 => (w40_tN l1 h8 i).trans (hz l l1 l2)
    have t5 : gI σ 5 0 0 = nI t := (hE.1 5 0 rfl (by decide)).trans hI.1
    -- the reference's part
    have mdl : ∀ i x', i ≤ 2000 → (∀ j, j < i → ¬ Qt p (tN p j s)) → (Qt p (tN p i s) ∨ i = 2000) → ∀ v : Int32, (Qt p (tN p i s) → v = nI i) → (¬ Qt p (tN p i s) → v = -2) → S_X8_quiet (sI (stX σ 2 x') 7 0 7 0) (fun r' σ2 => v = r' ∧ RR (n + 1) σ2) := by
      intro i x' hi hno hend v hv1 hv0
      unfold S_X8_quiet
      refine fresh_pre ?_
      rw [(hq.pr2 hL 0 x').told1 hL]
      refine b1 (m_lays ?_)
      have hP : PM (cpR (prH 0 (stX σ 2 x')) 61 62 1809) p := by
        have := hq.M
        have g : ∀ a, a ≠ 7 → a ≠ 8 → a ≠ 62 → stN a = false → ∀ i c, gI (cpR (prH 0 (stX σ 2 x')) 61 62 1809) a i c = gI σ a i c := fun a a7 a8 a62 hs i c => by
          rw [gcpR, if_neg (by omega)]
          exact gP2 0 2 x' a7 a8 hs i c
        unfold PM at this ⊢
        simp only [g 53 (by decide) (by decide) (by decide) rfl, g 55 (by decide) (by decide) (by decide) rfl, g 57 (by decide) (by decide) (by decide) rfl]
        exact this
      have go : ∀ f y r' tk', y + f = 2001 → (y ≤ i ∨ ¬ Qt p (tN p i s)) → EM r' tk' (s 0 0 - gI (cpR (prH 0 (stX σ 2 x')) 61 62 1809) 8 0 28) (tN p y s) → L_X8_quiet_23 (fun r' σ2 => v = r' ∧ RR (n + 1) σ2) (fun w10 σ9 => J_X8_quiet_52 (fun r' σ2 => v = r' ∧ RR (n + 1) σ2) w10 σ9) (f + 1) (nI y) (stM (cpR (prH 0 (stX σ 2 x')) 61 62 1809) r' tk') := by
        intro f
        induction f with
        | zero =>
          intro y r' tk' hy hyi hM
          have : y = 2001 := by omega
          subst this
          have nq : ¬ Qt p (tN p i s) := hyi.resolve_left (by omega)
          refine ⟨fun _ => m_takeB ⟨fun q => ?_, fun _ => ⟨hv0 nq, later_done hq hT hL⟩⟩, fun q => absurd ((nI_ltI (a := 2000) (b := 2001) (by decide) (by decide)).mpr (by decide)) q⟩
          rw [show (2000 : Int32) = nI 2000 from rfl, le_nI (by decide) (by decide)] at q
          omega
        | succ f ih =>
          intro y r' tk' hy hyi hM
          unfold L_X8_quiet_23
          rw [show (2000 : Int32) = nI 2000 from rfl, lt_nI (by decide) (by omega), show (1 : Int32) = nI 1 from rfl, add_nI]
          refine ⟨fun q => by omega, fun _ => ?_⟩
          refine m_isQuiet hq.V hP (inv y (by omega)) hM.1 (fun hqt => ?_) (fun hqt => ?_)
          · have yi : y = i := by
              rcases hyi with q | q
              · rcases Nat.lt_or_ge y i with a | a
                · exact absurd hqt (hno y a)
                · omega
              · rcases Nat.lt_or_ge y i with a | a
                · exact absurd hqt (hno y a)
                · have := hend.resolve_left q
                  omega
            subst yi
            refine m_takeB ⟨fun _ => ⟨hv1 hqt, later_done hq hT hL⟩, fun q => ?_⟩
            rw [show (2000 : Int32) = nI 2000 from rfl, le_nI (by omega) (by decide)] at q
            omega
          · refine m_tick hq.V hP (by omega) (inv y (by omega)) hM (fun r'' tk'' hM' => ih (y + 1) r'' tk'' (by omega) ?_ hM')
            rcases Nat.lt_or_ge y i with a | a
            · exact Or.inl (by omega)
            · rcases hyi with q | q
              · have : y = i := by omega
                subst this
                exact Or.inr hqt
              · exact Or.inr q
      have key := go 2001 0 (fun c => gI (cpR (prH 0 (stX σ 2 x')) 61 62 1809) 61 0 c) (gI (cpR (prH 0 (stX σ 2 x')) 61 62 1809) 8 0 28) (by omega) (Or.inl (by omega)) ⟨fun f c hc => ?_, (sub_sub' _ _).symm⟩
      · rw [stM_self] at key
        exact ⟨2002, key⟩
      · show gI (cpR (prH 0 (stX σ 2 x')) 61 62 1809) 61 0 (mi f c) = s f c
        rw [gcpR, if_neg (by omega), gP2 0 2 x' (by decide) (by decide) rfl]
        exact hR f c hc
    -- the class's end
    have fin : ∀ i x', i ≤ 2000 → EX p x' (tN p i s) → (∀ j, j < i → ¬ Qt p (tN p j s)) → (Qt p (tN p i s) ∨ i = 2000) → J_X7_quiet_84 (fun r σ1 => S_X8_quiet σ1 (fun r' σ2 => r = r' ∧ RR (n + 1) σ2)) (stX σ 2 x') := by
      intro i x' hi hE' hno hend
      unfold J_X7_quiet_84
      refine c_isQuiet hq.V (inv i (by omega)) hE' (zz i) (fun hqt => b1' ?_) (fun hqt => b0' ?_)
      · rintro _ rfl
        refine mdl i x' hi hno hend _ (fun _ => ?_) (fun q => absurd hqt q)
        rw [gX5, gXi (by decide), t5, (hE'.1 5 0 rfl (by decide)), (inv i (by omega)).1, sub_nI (by omega), show t + i - t = i by omega]
      · rintro _ rfl
        exact mdl i x' hi hno hend _ (fun q => absurd q hqt) (fun _ => rfl)
    have key := c_copy (σ := σ) (S := 0) (D := 2) (x := xs σ 2) (Q := fun σ3 => (∃ n8, L_X7_quiet_38 (fun r σ1 => S_X8_quiet σ1 (fun r' σ2 => r = r' ∧ RR (n + 1) σ2)) (fun σ9 => J_X7_quiet_84 (fun r σ1 => S_X8_quiet σ1 (fun r' σ2 => r = r' ∧ RR (n + 1) σ2)) σ9) ((gI σ3 5 0 0) + 2000) n8 0 σ3)) (by decide) (fun x0 hx => ?_)
    · rw [stX_self] at key
      exact key
    · have go : ∀ f y i x', y + f = 2000 → y ≤ i → i ≤ 2000 → EX p x' (tN p i s) → (∀ j, j < i → ¬ Qt p (tN p j s)) → L_X7_quiet_38 (fun r σ1 => S_X8_quiet σ1 (fun r' σ2 => r = r' ∧ RR (n + 1) σ2)) (fun σ9 => J_X7_quiet_84 (fun r σ1 => S_X8_quiet σ1 (fun r' σ2 => r = r' ∧ RR (n + 1) σ2)) σ9) (nI (t + 2000)) (f + 1) (nI y) (stX σ 2 x') := by
        intro f
        induction f with
        | zero =>
          intro y i x' hy hyi hi hE' hno
          have : y = 2000 := by omega
          subst this
          exact ⟨fun _ => fin i x' hi hE' hno (Or.inr (by omega)), fun q => absurd (nI_le (Nat.le_refl 2000) (by decide)) q⟩
        | succ f ih =>
          intro y i x' hy hyi hi hE' hno
          unfold L_X7_quiet_38
          rw [show (2000 : Int32) = nI 2000 from rfl, le_nI (by decide) (by omega), gX5, (hE'.1 5 0 rfl (by decide)), (inv i (by omega)).1, le_nI (by omega) (by omega), show (1 : Int32) = nI 1 from rfl, add_nI]
          refine ⟨fun q => by omega, fun _ => ⟨fun q => fin i x' hi hE' hno (Or.inr (by omega)), fun q => ?_⟩⟩
          refine c_isQuiet hq.V (inv i (by omega)) hE' (zz i) (fun hqt => b1 (fin i x' hi hE' hno (Or.inl hqt))) (fun hqt => b0 ?_)
          rw [gRX, hq.g0]
          refine ⟨hq.P2, c_step hq.V hq.X (hq.W hL).2.2.2 (by omega) (by omega) (by omega) (by omega) (inv i (by omega)) hE' (fun m x'' m1 m2 m3 hE'' => ?_)⟩
          rw [tN_add] at hE''
          refine ih (y + 1) (i + m) x'' (by omega) (by omega) (by omega) hE'' (fun j hj => ?_)
          rcases Nat.lt_or_ge j i with a | a
          · exact hno j a
          · have := Qt.congr (p := p) h8 (m3 (j - i) (by omega))
            rw [tN_add, show i + (j - i) = j by omega] at this
            exact fun q => hqt (this.mp q)
      rw [gXi (by decide), t5, show (2000 : Int32) = nI 2000 from rfl, add_nI]
      exact ⟨2001, go 2000 0 0 x0 (by omega) (by omega) (by omega) (hE.ext2 hx) (fun j hj => by omega)⟩
  · rintro _ rfl
    unfold S_X8_quiet
    refine fresh_pre ?_
    rw [(hq.pr 1).told0 q]
    exact b0 (kR hq hT n14)
end Quiet
