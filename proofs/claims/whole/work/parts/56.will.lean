/-! ===== willHear, willLose ===== -/
section Will
variable {n : Nat} {σ : Hp} {p : PD} {P : Nat} {s : SD} {t b : Nat}
theorem c_later {k : Nat} {R : Hp → Prop} (hq : RQ n σ p P) (hn : n ≤ 600) (hL : 0 < nL p) (hk : k ≤ 600) (ht : t ≤ 600 * n) (hb : b ≤ 19200 * n) (hI : Inv p t (fun _ => t + 1) b s) (hE : EX p (xs σ 0) s) (hR : ∀ x', EX p x' (tN p k s) → R (stX σ 2 x')) : S_X5_copy 2 0 σ (fun σ10 => gR σ10 0 < 2 ∧ S_X5_advance 2 (gR σ10 0) (nI k) σ10 R) := by
  have key := c_copy (σ := σ) (S := 0) (D := 2) (x := xs σ 2) (Q := fun σ10 => gR σ10 0 < 2 ∧ S_X5_advance 2 (gR σ10 0) (nI k) σ10 R) (by decide) (fun x' hx => ?_)
  · rw [stX_self] at key
    exact key
  · rw [gRX, hq.g0]
    exact ⟨hq.P2, c_advance (S := 2) hq.V hq.X (hq.W hL).2.2.2 (by omega) (by omega) (by omega) hI (hE.ext2 hx) hR⟩
theorem gP2 (c : Int32) (S : Nat) (x : SD) {a : Nat} (a7 : a ≠ 7) (a8 : a ≠ 8) (hs : stN a = false) (i k : Nat) : gI (prH c (stX σ S x)) a i k = gI σ a i k := by
  rw [(Hd.prH c _).1 a i k (Or.inl a7) (Or.inl a8)]
  exact gXn hs i k
theorem m_later {k : Nat} {x : SD} {R : Hp → Prop} (hq : RQ n σ p P) (hn : n ≤ 600) (hk : k ≤ 600) (ht : t ≤ 600 * n) (hI : Inv p t (fun _ => t + 1) b s) (hR : ER (fun k => gI σ 61 0 k) s) (hK : ∀ r' tk', ER r' (tN p k s) → R (stM (cpR (prH 0 (stX σ 2 x)) 61 62 1809) r' tk')) : S_X8_laysAside (prH 0 (stX σ 2 x)) (fun σ8 => S_X8_goes (nI k) σ8 R) := by
  refine m_lays ?_
  have hP : PM (cpR (prH 0 (stX σ 2 x)) 61 62 1809) p := by
    have := hq.M
    have g : ∀ a, a ≠ 7 → a ≠ 8 → a ≠ 62 → stN a = false → ∀ i c, gI (cpR (prH 0 (stX σ 2 x)) 61 62 1809) a i c = gI σ a i c := fun a a7 a8 a62 hs i c => by
      rw [gcpR, if_neg (by omega)]
      exact gP2 0 2 x a7 a8 hs i c
    unfold PM at this ⊢
    simp only [g 53 (by decide) (by decide) (by decide) rfl, g 55 (by decide) (by decide) (by decide) rfl, g 57 (by decide) (by decide) (by decide) rfl]
    exact this
  have key := m_goes (σ := cpR (prH 0 (stX σ 2 x)) 61 62 1809) (r := fun c => gI (cpR (prH 0 (stX σ 2 x)) 61 62 1809) 61 0 c) (tk := gI (cpR (prH 0 (stX σ 2 x)) 61 62 1809) 8 0 28) (k := k) (Q := R) hq.V hP (by omega) hI (fun f c hc => ?_) (fun r' tk' hM => hK r' tk' hM.1)
  · rw [stM_self] at key
    exact key
  · show gI (cpR (prH 0 (stX σ 2 x)) 61 62 1809) 61 0 (mi f c) = s f c
    rw [gcpR, if_neg (by omega), gP2 0 2 x (by decide) (by decide) rfl]
    exact hR f c hc
theorem later_done {x : SD} {r : Nat → Int32} {tk : Int32} (hq : RQ n σ p P) (hT : TR σ) (hL : 0 < nL p) : RR (n + 1) (cpR (stM (cpR (prH 0 (stX σ 2 x)) 61 62 1809) r tk) 62 61 1809) := by
  have e0 : ∀ S, S ≠ 2 → ∀ f k, stN f = true → gI (cpR (stM (cpR (prH 0 (stX σ 2 x)) 61 62 1809) r tk) 62 61 1809) f S k = gI σ f S k := by
    intro S hS f k hf
    have e := stN_78 hf
    have e61 : f ≠ 61 := fun q => by subst q; exact absurd hf (by decide)
    have e62 : f ≠ 62 := fun q => by subst q; exact absurd hf (by decide)
    rw [gcpR, if_neg (by omega), gMo _ r tk e61 e.2, gcpR, if_neg (by omega), (Hd.prH 0 _).1 f S k (Or.inl e.1) (Or.inl e.2)]
    exact gXi hS f k
  have r61 : ∀ k, k < 1809 → gI (cpR (stM (cpR (prH 0 (stX σ 2 x)) 61 62 1809) r tk) 62 61 1809) 61 0 k = gI σ 61 0 k := by
    intro k hk
    rw [gcpR, if_pos ⟨rfl, rfl, hk⟩, gMo _ r tk (by decide) (by decide), gcpR, if_pos ⟨rfl, rfl, hk⟩]
    exact gP2 0 2 x (by decide) (by decide) rfl 0 k
  have r63 : ∀ k, gI (cpR (stM (cpR (prH 0 (stX σ 2 x)) 61 62 1809) r tk) 62 61 1809) 63 0 k = gI σ 63 0 k := by
    intro k
    rw [gcpR, if_neg (by omega), gMo _ r tk (by decide) (by decide), gcpR, if_neg (by omega)]
    exact gP2 0 2 x (by decide) (by decide) rfl 0 k
  have g7 : ∀ k, gI (cpR (stM (cpR (prH 0 (stX σ 2 x)) 61 62 1809) r tk) 62 61 1809) 7 0 k = gI (prH 0 (stX σ 2 x)) 7 0 k := by
    intro k
    rw [gcpR, if_neg (by omega), gMo _ r tk (by decide) (by decide), gcpR, if_neg (by omega)]
  have g8 : ∀ k, k ≠ 28 → gI (cpR (stM (cpR (prH 0 (stX σ 2 x)) 61 62 1809) r tk) 62 61 1809) 8 0 k = gI (prH 0 (stX σ 2 x)) 8 0 k := by
    intro k hk
    rw [gcpR, if_neg (by omega), gM8 _ r tk hk, gcpR, if_neg (by omega)]
  have hS := (hq.2.2.1.1 hL).mono (Nat.le_succ n)
  have t76 : gI (prH 0 (stX σ 2 x)) 7 0 6 = gI σ 7 0 6 := by
    rw [(Hd.prH 0 _).1 7 0 6 (Or.inr (by decide)) (Or.inl (by decide)), gX7]
  have t27 : gI (prH 0 (stX σ 2 x)) 8 0 27 = gI σ 8 0 27 := by
    rw [(Hd.prH 0 _).1 8 0 27 (Or.inl (by decide)) (Or.inr (by decide)), gX8]
  refine ⟨⟨p, P, hq.gen ((Ua.stX σ 2 x).trans ((Hd.prH 0 _).up.ua.trans ((Ua.cp _ 61 (by simp) 1809).trans ((Up.stM _ r tk).ua.trans (Ua.cp _ 62 (by simp) 1809))))) hL (hS.ext2 (fun f k hf _ => e0 0 (by decide) f k hf) r61) ⟨?_, fun q => ⟨hL, ?_⟩⟩⟩, ?_, ?_, fun q => ?_⟩
  · rw [g7, g8 27 (by decide), t76, t27]
    exact hq.2.2.2.1
  · rw [g7, t76] at q
    exact ((hq.2.2.2.2 q).2.mono (Nat.le_succ n)).ext (fun f k hf => e0 1 (by decide) f k hf) r63
  · rw [g7, g8 1 (by decide), pre77, pre81]
  · rw [g7, g8 2 (by decide), pre78, pre82, gX7, gX8]
    exact hT.2.1
  · rw [g7, pre77] at q
    exact absurd q z4
theorem RQ.pr2 (hq : RQ n σ p P) (hL : 0 < nL p) (c : Int32) (x : SD) : RQ n (prH c (stX σ 2 x)) p P := by
  refine (hq.now (Nat.le_refl n) (Up.stX σ (S := 2) (by decide) x) hL ((hq.2.2.1.1 hL).ext (fun f k hf => ?_) (fun k => gXn rfl 0 k))).pr c
  exact gXi (by decide) f k
theorem k_willLose {x y z : Int32} (hn : n ≤ 600) (h : RR n σ) : S_X7_willLose x y z σ (fun r σ1 => S_X8_willLose x y z σ1 (fun r' σ2 => r = r' ∧ RR (n + 1) σ2)) := by
  obtain ⟨⟨p, P, hq⟩, hT⟩ := h
  have no : (nL p = 0 ∨ ¬ isN y 2 ∨ ¬ isN z 3) → J_X7_willLose_21 (fun r σ1 => S_X8_willLose x y z σ1 (fun r' σ2 => r = r' ∧ RR (n + 1) σ2)) σ := by
    intro q
    rintro _ rfl
    unfold S_X8_willLose
    refine fresh_pre (m_isLoss (hq.pr 1) (fun a b c => ?_) (fun _ => b0 (kR hq hT n14)))
    rcases q with q | q | q
    · omega
    · exact absurd b q
    · exact absurd c q
  unfold S_X7_willLose
  refine c_noBus hq (fun hL => b0 ?_) (fun q => b1 (no (Or.inl q)))
  refine c_hasNet (fun m hm e => b1' ?_) (fun q => b0' (no (Or.inr (Or.inl q))))
  refine c_lostSort (fun j hj e2 => b1 ?_) (fun q => b0 (no (Or.inr (Or.inr q))))
  subst e
  subst e2
  have absn : ¬ (nL p = 0 ∨ ¬ isN (nI m) 2 ∨ ¬ isN (nI j) 3) := by
    rintro (q | q | q)
    · omega
    · exact q ⟨m, hm, rfl⟩
    · exact q ⟨j, hj, rfl⟩
  refine c_isTicks (fun ⟨k, k1, k2, e⟩ => b1 ?_) (fun q => b0 ?_)
  · subst e
    obtain ⟨s, t, b, ht1, hb1, hI, hE, hR, hz⟩ := hq.2.2.1.1 hL
    refine c_later hq hn hL k2 ht1 hb1 hI hE (fun x' hE' => ?_)
    rw [show (3 : Int32) = nI 3 from rfl, mul_nI, add_nI, Nat.mul_comm m 3, ix_nI (by omega), gX39, hE'.1 39 _ rfl (show _ < 6 by omega)]
    refine ⟨vp_in_nI (by omega) (by decide), ?_⟩
    rintro _ rfl
    unfold S_X8_willLose
    refine fresh_pre (m_isLoss (hq.pr2 hL 0 x') (fun _ _ _ => b1 ?_) (fun q => absurd q absn))
    refine rng3 (a := 1) (b := 600) (by decide) (by decide) (fun _ => b1 ?_) (fun q => absurd ⟨k, k1, k2, rfl⟩ q)
    refine m_later hq hn k2 ht1 hI hR (fun r' tk' hM => ?_)
    rw [show (3 : Int32) = nI 3 from rfl, show (73 : Int32) = nI 73 from rfl, mul_nI, add_nI, add_nI, ix_nI (by omega)]
    refine ⟨vp_in_nI (by omega) (by decide), m_takeB ⟨?_, later_done hq hT hL⟩⟩
    rw [gM61, ← hM 39 (3 * m + j) (show _ < 6 by omega), show mi 39 (3 * m + j) = 73 + 3 * m + j from (Nat.add_assoc _ _ _).symm]
  · rintro _ rfl
    unfold S_X8_willLose
    refine fresh_pre (m_isLoss (hq.pr 2) (fun _ _ _ => b1 ?_) (fun q => absurd q absn))
    exact rng3 (a := 1) (b := 600) (by decide) (by decide) (fun q2 => absurd q2 q) (fun _ => b0 (kR hq hT n24))
end Will
