/-! ===== rows copied by the reference; keep, back ===== -/
def cpR (σ : Hp) (S D m : Nat) : Hp := (fun a b c => if a = D ∧ b = 0 ∧ c < m then σ.1 S 0 c else σ.1 a b c, σ.2)
theorem gcpR (σ : Hp) (S D m a b c : Nat) : gI (cpR σ S D m) a b c = if a = D ∧ b = 0 ∧ c < m then gI σ S 0 c else gI σ a b c := rfl
theorem cpR_zero (σ : Hp) (S D : Nat) : cpR σ S D 0 = σ := by
  refine Prod.ext ?_ rfl
  funext a b c
  exact if_neg (by omega)
theorem cpR_step (σ : Hp) {S D : Nat} (h : S ≠ D) (k : Nat) : sI (cpR σ S D k) D 0 k (gI (cpR σ S D k) S 0 k) = cpR σ S D (k + 1) := by
  refine Prod.ext ?_ rfl
  funext a b c
  show (if a = D ∧ b = 0 ∧ c = k then gI (cpR σ S D k) S 0 k else (if a = D ∧ b = 0 ∧ c < k then σ.1 S 0 c else σ.1 a b c)) = if a = D ∧ b = 0 ∧ c < k + 1 then σ.1 S 0 c else σ.1 a b c
  have eS : gI (cpR σ S D k) S 0 k = σ.1 S 0 k := by
    rw [gcpR, if_neg (fun q => h q.1)]
    rfl
  rw [eS]
  by_cases h1 : a = D ∧ b = 0 ∧ c = k
  · rw [if_pos h1, if_pos (by omega), h1.2.2]
  · rw [if_neg h1]
    by_cases h2 : a = D ∧ b = 0 ∧ c < k
    · rw [if_pos h2, if_pos (by omega)]
    · rw [if_neg h2, if_neg (by omega)]
theorem m_lays {σ : Hp} {Q : Hp → Prop} {K : Hp → Prop} (h : K (cpR σ 61 62 1809)) : ∃ m, L_X8_laysAside_2 Q K m 0 σ := by
  have go : ∀ j k, k + j = 1809 → L_X8_laysAside_2 Q K (j + 1) (nI k) (cpR σ 61 62 k) := by
    intro j
    induction j with
    | zero =>
      intro k hk
      have : k = 1809 := by omega
      subst this
      exact ⟨fun _ => h, fun q => absurd (nI_le (Nat.le_refl 1809) (by decide)) q⟩
    | succ j ih =>
      intro k hk
      have := ih (k + 1) (by omega)
      unfold L_X8_laysAside_2
      rw [show (1809 : Int32) = nI 1809 from rfl, le_nI (by decide) (by omega), ix_nI (by omega), show (1 : Int32) = nI 1 from rfl, add_nI, cpR_step σ (by decide) k]
      refine ⟨fun q => by omega, fun _ => ⟨vp_in_nI (by omega) (by decide), vp_in_nI (by omega) (by decide), ?_⟩⟩
      rintro _ rfl
      exact this
  have := go 1809 0 rfl
  rw [cpR_zero] at this
  exact ⟨1810, this⟩
theorem m_takeB {σ : Hp} {Q : Hp → Prop} {K : Hp → Prop} (h : K (cpR σ 62 61 1809)) : ∃ m, L_X8_takesBack_2 Q K m 0 σ := by
  have go : ∀ j k, k + j = 1809 → L_X8_takesBack_2 Q K (j + 1) (nI k) (cpR σ 62 61 k) := by
    intro j
    induction j with
    | zero =>
      intro k hk
      have : k = 1809 := by omega
      subst this
      exact ⟨fun _ => h, fun q => absurd (nI_le (Nat.le_refl 1809) (by decide)) q⟩
    | succ j ih =>
      intro k hk
      have := ih (k + 1) (by omega)
      unfold L_X8_takesBack_2
      rw [show (1809 : Int32) = nI 1809 from rfl, le_nI (by decide) (by omega), ix_nI (by omega), show (1 : Int32) = nI 1 from rfl, add_nI, cpR_step σ (by decide) k]
      refine ⟨fun q => by omega, fun _ => ⟨vp_in_nI (by omega) (by decide), vp_in_nI (by omega) (by decide), ?_⟩⟩
      rintro _ rfl
      exact this
  have := go 1809 0 rfl
  rw [cpR_zero] at this
  exact ⟨1810, this⟩
theorem m_keepL {σ : Hp} {Q : Int32 → Hp → Prop} {K : Hp → Prop} (h : K (cpR σ 61 63 1809)) : ∃ m, L_X8_keep_20 Q K m 0 σ := by
  have go : ∀ j k, k + j = 1809 → L_X8_keep_20 Q K (j + 1) (nI k) (cpR σ 61 63 k) := by
    intro j
    induction j with
    | zero =>
      intro k hk
      have : k = 1809 := by omega
      subst this
      exact ⟨fun _ => h, fun q => absurd (nI_le (Nat.le_refl 1809) (by decide)) q⟩
    | succ j ih =>
      intro k hk
      have := ih (k + 1) (by omega)
      unfold L_X8_keep_20
      rw [show (1809 : Int32) = nI 1809 from rfl, le_nI (by decide) (by omega), ix_nI (by omega), show (1 : Int32) = nI 1 from rfl, add_nI, cpR_step σ (by decide) k]
      refine ⟨fun q => by omega, fun _ => ⟨vp_in_nI (by omega) (by decide), vp_in_nI (by omega) (by decide), ?_⟩⟩
      rintro _ rfl
      exact this
  have := go 1809 0 rfl
  rw [cpR_zero] at this
  exact ⟨1810, this⟩
theorem m_backL {σ : Hp} {Q : Int32 → Hp → Prop} {K : Hp → Prop} (h : K (cpR σ 63 61 1809)) : ∃ m, L_X8_back_20 Q K m 0 σ := by
  have go : ∀ j k, k + j = 1809 → L_X8_back_20 Q K (j + 1) (nI k) (cpR σ 63 61 k) := by
    intro j
    induction j with
    | zero =>
      intro k hk
      have : k = 1809 := by omega
      subst this
      exact ⟨fun _ => h, fun q => absurd (nI_le (Nat.le_refl 1809) (by decide)) q⟩
    | succ j ih =>
      intro k hk
      have := ih (k + 1) (by omega)
      unfold L_X8_back_20
      rw [show (1809 : Int32) = nI 1809 from rfl, le_nI (by decide) (by omega), ix_nI (by omega), show (1 : Int32) = nI 1 from rfl, add_nI, cpR_step σ (by decide) k]
      refine ⟨fun q => by omega, fun _ => ⟨vp_in_nI (by omega) (by decide), vp_in_nI (by omega) (by decide), ?_⟩⟩
      rintro _ rfl
      exact this
  have := go 1809 0 rfl
  rw [cpR_zero] at this
  exact ⟨1810, this⟩
/-- two heaps that differ in states, rows and the answers' cells alone -/
def Ua (σ σ' : Hp) : Prop := (∀ a b c, a ≠ 7 → (a ≠ 8 ∨ (4 ≤ c ∧ c < 27)) → stN a = false → a ≠ 61 → a ≠ 62 → a ≠ 63 → gI σ' a b c = gI σ a b c) ∧ (∀ a b c, gL σ' a b c = gL σ a b c) ∧ (∀ a, gR σ' a = gR σ a)
theorem Ua.refl (σ : Hp) : Ua σ σ := ⟨fun _ _ _ _ _ _ _ _ _ => rfl, fun _ _ _ => rfl, fun _ => rfl⟩
theorem Ua.trans {σ σ' σ'' : Hp} (h : Ua σ σ') (h2 : Ua σ' σ'') : Ua σ σ'' := ⟨fun a b c q1 q2 q3 q4 q5 q6 => (h2.1 a b c q1 q2 q3 q4 q5 q6).trans (h.1 a b c q1 q2 q3 q4 q5 q6), fun a b c => (h2.2.1 a b c).trans (h.2.1 a b c), fun a => (h2.2.2 a).trans (h.2.2 a)⟩
theorem Up.ua {σ σ' : Hp} (h : Up σ σ') : Ua σ σ' := ⟨fun a b c q1 q2 q3 q4 q5 _ => h.1 a b c (Or.inl q1) (by omega) (Or.inl q3) q4 q5, h.2.1, h.2.2⟩
theorem Ua.stX (σ : Hp) (S : Nat) (x : SD) : Ua σ (stX σ S x) := ⟨fun a b c _ _ q3 _ _ _ => gXn q3 b c, fun _ _ _ => rfl, fun _ => rfl⟩
theorem Ua.s7 (σ : Hp) (k : Nat) (v : Int32) : Ua σ (sI σ 7 0 k v) := ⟨fun a b c q1 _ _ _ _ _ => by rw [gI_sI, if_neg (by omega)], fun _ _ _ => rfl, fun _ => rfl⟩
theorem Ua.s8 (σ : Hp) {k : Nat} (hk : 27 ≤ k) (v : Int32) : Ua σ (sI σ 8 0 k v) := ⟨fun a b c _ q2 _ _ _ _ => by rw [gI_sI, if_neg (by omega)], fun _ _ _ => rfl, fun _ => rfl⟩
theorem Ua.cp (σ : Hp) (S : Nat) {D : Nat} (hD : D = 61 ∨ D = 62 ∨ D = 63) (m : Nat) : Ua σ (cpR σ S D m) := ⟨fun a b c _ _ _ q4 q5 q6 => by rw [gcpR, if_neg (by omega)], fun _ _ _ => rfl, fun _ => rfl⟩
theorem RQ.gen {n m : Nat} {σ σ' : Hp} {p : PD} {P : Nat} (h : RQ n σ p P) (hd : Ua σ σ') (hL : 0 < nL p) (hS : RS m p (xs σ' 0) (fun k => gI σ' 61 0 k)) (hK : RK m σ' p) : RQ m σ' p P := by
  have g1 : ∀ i k, gI σ' 1 i k = gI σ 1 i k := fun i k => hd.1 1 i k (by decide) (Or.inl (by decide)) rfl (by decide) (by decide) (by decide)
  have g2 : ∀ i k, gI σ' 2 i k = gI σ 2 i k := fun i k => hd.1 2 i k (by decide) (Or.inl (by decide)) rfl (by decide) (by decide) (by decide)
  have g4 : ∀ i k, gI σ' 4 i k = gI σ 4 i k := fun i k => hd.1 4 i k (by decide) (Or.inl (by decide)) rfl (by decide) (by decide) (by decide)
  have g19 : ∀ i k, gI σ' 19 i k = gI σ 19 i k := fun i k => hd.1 19 i k (by decide) (Or.inl (by decide)) rfl (by decide) (by decide) (by decide)
  have g22 : ∀ i k, gI σ' 22 i k = gI σ 22 i k := fun i k => hd.1 22 i k (by decide) (Or.inl (by decide)) rfl (by decide) (by decide) (by decide)
  have g25 : ∀ i k, gI σ' 25 i k = gI σ 25 i k := fun i k => hd.1 25 i k (by decide) (Or.inl (by decide)) rfl (by decide) (by decide) (by decide)
  have g26 : ∀ i k, gI σ' 26 i k = gI σ 26 i k := fun i k => hd.1 26 i k (by decide) (Or.inl (by decide)) rfl (by decide) (by decide) (by decide)
  have g27 : ∀ i k, gI σ' 27 i k = gI σ 27 i k := fun i k => hd.1 27 i k (by decide) (Or.inl (by decide)) rfl (by decide) (by decide) (by decide)
  have g28 : ∀ i k, gI σ' 28 i k = gI σ 28 i k := fun i k => hd.1 28 i k (by decide) (Or.inl (by decide)) rfl (by decide) (by decide) (by decide)
  have g29 : ∀ i k, gI σ' 29 i k = gI σ 29 i k := fun i k => hd.1 29 i k (by decide) (Or.inl (by decide)) rfl (by decide) (by decide) (by decide)
  have g37 : ∀ i k, gI σ' 37 i k = gI σ 37 i k := fun i k => hd.1 37 i k (by decide) (Or.inl (by decide)) rfl (by decide) (by decide) (by decide)
  have g47 : ∀ i k, gI σ' 47 i k = gI σ 47 i k := fun i k => hd.1 47 i k (by decide) (Or.inl (by decide)) rfl (by decide) (by decide) (by decide)
  have g48 : ∀ i k, gI σ' 48 i k = gI σ 48 i k := fun i k => hd.1 48 i k (by decide) (Or.inl (by decide)) rfl (by decide) (by decide) (by decide)
  have g49 : ∀ i k, gI σ' 49 i k = gI σ 49 i k := fun i k => hd.1 49 i k (by decide) (Or.inl (by decide)) rfl (by decide) (by decide) (by decide)
  have g50 : ∀ i k, gI σ' 50 i k = gI σ 50 i k := fun i k => hd.1 50 i k (by decide) (Or.inl (by decide)) rfl (by decide) (by decide) (by decide)
  have g51 : ∀ i k, gI σ' 51 i k = gI σ 51 i k := fun i k => hd.1 51 i k (by decide) (Or.inl (by decide)) rfl (by decide) (by decide) (by decide)
  have g52 : ∀ i k, gI σ' 52 i k = gI σ 52 i k := fun i k => hd.1 52 i k (by decide) (Or.inl (by decide)) rfl (by decide) (by decide) (by decide)
  have g53 : ∀ i k, gI σ' 53 i k = gI σ 53 i k := fun i k => hd.1 53 i k (by decide) (Or.inl (by decide)) rfl (by decide) (by decide) (by decide)
  have g55 : ∀ i k, gI σ' 55 i k = gI σ 55 i k := fun i k => hd.1 55 i k (by decide) (Or.inl (by decide)) rfl (by decide) (by decide) (by decide)
  have g57 : ∀ i k, gI σ' 57 i k = gI σ 57 i k := fun i k => hd.1 57 i k (by decide) (Or.inl (by decide)) rfl (by decide) (by decide) (by decide)
  have g14 : gI σ' 8 0 14 = gI σ 8 0 14 := hd.1 8 0 14 (by decide) (Or.inr (by decide)) rfl (by decide) (by decide) (by decide)
  have g8_5 : gI σ' 8 0 5 = gI σ 8 0 5 := hd.1 8 0 5 (by decide) (Or.inr (by decide)) rfl (by decide) (by decide) (by decide)
  obtain ⟨⟨h1, h2, h3, h4, h5, h6, h7, h8, h9, h10⟩, hT, hN, _⟩ := h
  refine ⟨⟨h1, (hd.2.2 0).trans h2, (hd.2.2 1).trans h3, h4, ?_, ?_, ?_, g14.trans h8, h9, fun q => ?_⟩, ?_, ⟨fun q => hS, fun q => by omega⟩, hK⟩
  · unfold PX at h5 ⊢
    simp only [g2, g22, g25, g26, g27, g28, g29]
    exact h5
  · unfold PM at h6 ⊢
    simp only [g53, g55, g57]
    exact h6
  · unfold NmOk at h7 ⊢
    simp only [hd.2.1]
    exact h7
  · have := h10 q
    unfold WY UE OW EVn at this ⊢
    simp only [g1, g19, g47, g48, g49, g50, hd.2.1]
    exact this
  · unfold RT at hT ⊢
    simp only [g4, g8_5, g37, g52]
    exact hT
theorem RS.ext2 {n : Nat} {p : PD} {x x' : SD} {r r' : Nat → Int32} (h : RS n p x r) (he : ∀ f k, stN f = true → k < xl f → x' f k = x f k) (hr : ∀ k, k < 1809 → r' k = r k) : RS n p x' r' := by
  obtain ⟨s, t, b, h1, h2, h3, h4, h5, h6⟩ := h
  exact ⟨s, t, b, h1, h2, h3, h4.ext2 he, fun f k hk => (hr _ (mi_dec hk).2).trans (h5 f k hk), h6⟩
section Keep
variable {n : Nat} {σ : Hp} {p : PD} {P : Nat}
theorem k_keep (h : RR n σ) : S_X7_keep σ (fun r σ1 => S_X8_keep σ1 (fun r' σ2 => r = r' ∧ RR (n + 1) σ2)) := by
  obtain ⟨⟨p, P, hq⟩, hT⟩ := h
  unfold S_X7_keep
  refine c_noBus hq (fun hL => b0' ?_) (fun q => b1' ?_)
  · have key := c_copy (σ := σ) (S := 0) (D := 1) (x := xs σ 1) (Q := fun σ3 => ∀ σ4, σ4 = sI σ3 7 0 6 1 → ∀ σ5, σ5 = sI σ4 7 0 7 0 → S_X8_keep σ5 (fun r' σ2 => (1 : Int32) = r' ∧ RR (n + 1) σ2)) (by decide) (fun x' hx => ?_)
    · rw [stX_self] at key
      exact key
    · rintro _ rfl _ rfl
      unfold S_X8_keep
      refine fresh_pre ?_
      have t14 : gI (prH 0 (sI (stX σ 1 x') 7 0 6 1)) 8 0 14 = 1 := by
        rw [(Hd.prH 0 _).1 8 0 14 (Or.inl (by decide)) (Or.inr (by decide)), gI_sI, if_neg (by decide), gX8]
        exact hq.told1 hL
      rw [t14]
      refine b1 (m_keepL ?_)
      rintro _ rfl
      refine ⟨rfl, ⟨p, P, ?_⟩, ?_⟩
      · have e0 : ∀ f k, stN f = true → gI (sI (cpR (prH 0 (sI (stX σ 1 x') 7 0 6 1)) 61 63 1809) 8 0 27 1) f 0 k = gI σ f 0 k := by
          intro f k hf
          have e := stN_78 hf
          have e63 : f ≠ 63 := fun q => by subst q; exact absurd hf (by decide)
          rw [gI_sI, if_neg (by omega), gcpR, if_neg (by omega), (Hd.prH 0 _).1 f 0 k (Or.inl e.1) (Or.inl e.2), gI_sI, if_neg (by omega)]
          exact gXi (by decide) f k
        have e1 : ∀ f k, stN f = true → gI (sI (cpR (prH 0 (sI (stX σ 1 x') 7 0 6 1)) 61 63 1809) 8 0 27 1) f 1 k = x' f k := by
          intro f k hf
          have e := stN_78 hf
          have e63 : f ≠ 63 := fun q => by subst q; exact absurd hf (by decide)
          rw [gI_sI, if_neg (by omega), gcpR, if_neg (by omega), (Hd.prH 0 _).1 f 1 k (Or.inl e.1) (Or.inl e.2), gI_sI, if_neg (by omega)]
          exact gX hf k
        have e61 : ∀ k, gI (prH 0 (sI (stX σ 1 x') 7 0 6 1)) 61 0 k = gI σ 61 0 k := by
          intro k
          rw [pr61, gI_sI, if_neg (by omega)]
          exact gXn rfl 0 k
        have r61 : ∀ k, gI (sI (cpR (prH 0 (sI (stX σ 1 x') 7 0 6 1)) 61 63 1809) 8 0 27 1) 61 0 k = gI σ 61 0 k := by
          intro k
          rw [gI_sI, if_neg (by omega), gcpR, if_neg (by omega), e61]
        have r63 : ∀ k, k < 1809 → gI (sI (cpR (prH 0 (sI (stX σ 1 x') 7 0 6 1)) 61 63 1809) 8 0 27 1) 63 0 k = gI σ 61 0 k := by
          intro k hk
          rw [gI_sI, if_neg (by omega), gcpR, if_pos ⟨rfl, rfl, hk⟩, e61]
        have hS := (hq.2.2.1.1 hL).mono (Nat.le_succ n)
        refine hq.gen ((Ua.stX σ 1 x').trans ((Ua.s7 _ 6 1).trans ((Hd.prH 0 _).up.ua.trans ((Ua.cp _ 61 (by simp) 1809).trans (Ua.s8 _ (by decide) 1))))) hL (hS.ext (fun f k hf => e0 f k hf) r61) ⟨?_, fun _ => ⟨hL, hS.ext2 (fun f k hf hk => (e1 f k hf).trans (hx f k hf hk)) r63⟩⟩
        rw [gI_sI, if_neg (by decide), gcpR, if_neg (by omega), (Hd.prH 0 _).1 7 0 6 (Or.inr (by decide)) (Or.inl (by decide)), gI_sI, gI_sI, if_pos ⟨rfl, rfl, rfl⟩, if_pos ⟨rfl, rfl, rfl⟩]
      · refine ⟨?_, ?_, fun q => ?_⟩
        · rw [gI_sI, if_neg (by decide), gcpR, if_neg (by omega), gI_sI, if_neg (by decide), gcpR, if_neg (by omega), pre77, pre81]
        · rw [gI_sI, if_neg (by decide), gcpR, if_neg (by omega), gI_sI, if_neg (by decide), gcpR, if_neg (by omega), pre78, pre82, gI_sI, if_neg (by decide), gI_sI, if_neg (by decide), gX7, gX8]
          exact hT.2.1
        · rw [gI_sI, if_neg (by decide), gcpR, if_neg (by omega), pre77] at q
          exact absurd q z4
  · rintro _ rfl
    unfold S_X8_keep
    refine fresh_pre ?_
    rw [(hq.pr 1).told0 q]
    refine b0 ?_
    rintro _ rfl
    exact ⟨rfl, hq.ref hT 1 n14⟩
theorem k_back (h : RR n σ) : S_X7_back σ (fun r σ1 => S_X8_back σ1 (fun r' σ2 => r = r' ∧ RR (n + 1) σ2)) := by
  obtain ⟨⟨p, P, hq⟩, hT⟩ := h
  unfold S_X7_back
  have k27 : ∀ c, gI (prH c σ) 8 0 27 = gI σ 7 0 6 := fun c => by
    rw [(Hd.prH c _).1 8 0 27 (Or.inl (by decide)) (Or.inr (by decide)), hq.2.2.2.1]
  refine ⟨fun q => ?_, fun q => ?_⟩
  · obtain ⟨hL, hK⟩ := hq.2.2.2.2 q
    have key := c_copy (σ := σ) (S := 1) (D := 0) (x := xs σ 0) (Q := fun σ1 => ∀ σ2, σ2 = sI σ1 7 0 7 0 → S_X8_back σ2 (fun r' σ2 => (1 : Int32) = r' ∧ RR (n + 1) σ2)) (by decide) (fun x' hx => ?_)
    · rw [stX_self] at key
      exact key
    · rintro _ rfl
      unfold S_X8_back
      refine fresh_pre ?_
      have t27 : gI (prH 0 (stX σ 0 x')) 8 0 27 = gI σ 7 0 6 := by
        rw [(Hd.prH 0 _).1 8 0 27 (Or.inl (by decide)) (Or.inr (by decide)), gX8, hq.2.2.2.1]
      refine ⟨fun _ => m_backL ?_, fun q2 => absurd (t27.symm.trans q2) q⟩
      refine ⟨rfl, ⟨p, P, ?_⟩, ?_⟩
      · have e0 : ∀ f k, stN f = true → gI (cpR (prH 0 (stX σ 0 x')) 63 61 1809) f 0 k = x' f k := by
          intro f k hf
          have e := stN_78 hf
          have e61 : f ≠ 61 := fun q => by subst q; exact absurd hf (by decide)
          rw [gcpR, if_neg (by omega), (Hd.prH 0 _).1 f 0 k (Or.inl e.1) (Or.inl e.2)]
          exact gX hf k
        have e1 : ∀ f k, stN f = true → gI (cpR (prH 0 (stX σ 0 x')) 63 61 1809) f 1 k = gI σ f 1 k := by
          intro f k hf
          have e := stN_78 hf
          have e61 : f ≠ 61 := fun q => by subst q; exact absurd hf (by decide)
          rw [gcpR, if_neg (by omega), (Hd.prH 0 _).1 f 1 k (Or.inl e.1) (Or.inl e.2)]
          exact gXi (by decide) f k
        have r61 : ∀ k, k < 1809 → gI (cpR (prH 0 (stX σ 0 x')) 63 61 1809) 61 0 k = gI σ 63 0 k := by
          intro k hk
          rw [gcpR, if_pos ⟨rfl, rfl, hk⟩]
          exact gPX 0 x' (by decide) (by decide) rfl 0 k
        have r63 : ∀ k, gI (cpR (prH 0 (stX σ 0 x')) 63 61 1809) 63 0 k = gI σ 63 0 k := by
          intro k
          rw [gcpR, if_neg (by omega)]
          exact gPX 0 x' (by decide) (by decide) rfl 0 k
        have hS := hK.mono (Nat.le_succ n)
        refine hq.gen ((Ua.stX σ 0 x').trans ((Hd.prH 0 _).up.ua.trans (Ua.cp _ 63 (by simp) 1809))) hL (hS.ext2 (fun f k hf hk => (e0 f k hf).trans (hx f k hf hk)) r61) ⟨?_, fun _ => ⟨hL, hS.ext (fun f k hf => e1 f k hf) r63⟩⟩
        rw [gcpR, if_neg (by omega), gcpR, if_neg (by omega), t27, (Hd.prH 0 _).1 7 0 6 (Or.inr (by decide)) (Or.inl (by decide)), gX7]
      · refine ⟨?_, ?_, fun q => ?_⟩
        · rw [gcpR, if_neg (by omega), gcpR, if_neg (by omega), pre77, pre81]
        · rw [gcpR, if_neg (by omega), gcpR, if_neg (by omega), pre78, pre82, gX7, gX8]
          exact hT.2.1
        · rw [gcpR, if_neg (by omega), pre77] at q
          exact absurd q z4
  · rintro _ rfl
    unfold S_X8_back
    refine fresh_pre ?_
    refine ⟨fun q2 => absurd ((k27 1).trans q) q2, fun _ => ?_⟩
    rintro _ rfl
    exact ⟨rfl, hq.ref hT 1 n14⟩
end Keep
