/-! ===== ticks, send, down ===== -/
section Mut
variable {n : Nat} {σ : Hp} {p : PD} {P : Nat} {Q : Int32 → Hp → Prop}
theorem gMo (σ : Hp) (r : Nat → Int32) (t : Int32) {a : Nat} (h : a ≠ 61) (h8 : a ≠ 8) (b c : Nat) : gI (stM σ r t) a b c = gI σ a b c := by
  show (if a = 61 ∧ b = 0 then r c else if a = 8 ∧ b = 0 ∧ c = 28 then t else σ.1 a b c) = σ.1 a b c
  rw [if_neg (by omega), if_neg (by omega)]
theorem gM8 (σ : Hp) (r : Nat → Int32) (t : Int32) {c : Nat} (h : c ≠ 28) (b : Nat) : gI (stM σ r t) 8 b c = gI σ 8 b c := by
  show (if 8 = 61 ∧ b = 0 then r c else if 8 = 8 ∧ b = 0 ∧ c = 28 then t else σ.1 8 b c) = σ.1 8 b c
  rw [if_neg (by omega), if_neg (by omega)]
/-- the end of a call that has changed the state of now on both sides -/
theorem RQ.done (h : RQ n σ p P) (hT : TR σ) (hL : 0 < nL p) {x : SD} {r : Nat → Int32} {tk : Int32} (hS : RS (n + 1) p x r) : RR (n + 1) (stM (prH 0 (stX σ 0 x)) r tk) := by
  refine ⟨⟨p, P, h.now (Nat.le_succ n) ((Up.stX σ (by decide) x).trans ((Hd.prH 0 _).up.trans (Up.stM _ r tk))) hL (hS.ext (fun f k hf => ?_) (fun k => gM61 _ r tk k))⟩, ?_, ?_, fun q => ?_⟩
  · have e61 : f ≠ 61 := fun e => by subst e; exact absurd hf (by decide)
    show gI (stM (prH 0 (stX σ 0 x)) r tk) f 0 k = x f k
    rw [gMo _ r tk e61 (stN_78 hf).2, (Hd.prH 0 (stX σ 0 x)).1 f 0 k (Or.inl (stN_78 hf).1) (Or.inl (stN_78 hf).2)]
    exact gX hf k
  · rw [gMo _ r tk (by decide) (by decide), gM8 _ r tk (by decide), pre77, pre81]
  · rw [gMo _ r tk (by decide) (by decide), gM8 _ r tk (by decide), pre78, pre82, gX7, gX8]
    exact hT.2.1
  · rw [gMo _ r tk (by decide) (by decide), pre77] at q
    exact absurd q z4
def isB (a b : Nat) (x : Int32) : Prop := ∃ k, a ≤ k ∧ k ≤ b ∧ x = nI k
theorem isB_of {a b : Nat} {x : Int32} (hb : b < 2 ^ 31 - 1) (ha : a ≤ b) (h1 : ¬ x < nI a) (h2 : ¬ nI b < x) : isB a b x := by
  rw [Int32.lt_iff_toInt_lt] at h1 h2
  rw [nI_toInt (by omega)] at h1 h2
  refine ⟨x.toInt.toNat, by omega, by omega, ?_⟩
  apply Int32.toInt_inj.mp
  rw [nI_toInt (by omega)]
  omega
theorem isB_lt {a b : Nat} {x : Int32} (hb : b < 2 ^ 31 - 1) (ha : a ≤ b) (h : isB a b x) : ¬ x < nI a ∧ ¬ nI b < x := by
  obtain ⟨k, k1, k2, rfl⟩ := h
  rw [lt_nI (by omega) (by omega), lt_nI (by omega) (by omega)]
  omega
theorem rng3 {a b : Nat} {x : Int32} (hb : b < 2 ^ 31 - 1) (ha : a ≤ b) (h1 : isB a b x → Q 1 σ) (h0 : ¬ isB a b x → Q 0 σ) : S_X8_in x (nI a) (nI b) σ Q :=
  ⟨fun q => h0 (fun i => (isB_lt hb ha i).1 q), fun q => ⟨fun q2 => h0 (fun i => (isB_lt hb ha i).2 q2), fun q2 => h1 (isB_of hb ha q q2)⟩⟩
theorem c_isTicks {x : Int32} (h1 : isB 1 600 x → Q 1 σ) (h0 : ¬ isB 1 600 x → Q 0 σ) : S_X7_isTicks x σ Q := rng3 (a := 1) (b := 600) (by decide) (by decide) h1 h0
theorem rng4 {A B : Prop} {a b : Nat} {x : Int32} (hb : b < 2 ^ 31 - 1) (ha : a ≤ b) (h1 : isB a b x → A) (h0 : ¬ isB a b x → B) : ((x < nI a → B) ∧ (¬ x < nI a → ((x ≤ nI b → A) ∧ (¬ x ≤ nI b → B)))) := by
  have nl : ∀ {y z : Int32}, ¬ y < z ↔ z ≤ y := by
    intro y z
    rw [Int32.le_iff_toInt_le, Int32.lt_iff_toInt_lt]
    omega
  exact ⟨fun q => h0 (fun i => (isB_lt hb ha i).1 q), fun q => ⟨fun q2 => h1 (isB_of hb ha q (nl.mpr q2)), fun q2 => h0 (fun i => q2 (nl.mp (isB_lt hb ha i).2))⟩⟩
theorem k_ticks {x : Int32} (hn : n ≤ 600) (h : RR n σ) : S_X7_ticks x σ (fun r σ1 => S_X8_ticks x σ1 (fun r' σ2 => r = r' ∧ RR (n + 1) σ2)) := by
  obtain ⟨⟨p, P, hq⟩, hT⟩ := h
  have h8 := hq.nL8
  unfold S_X7_ticks
  refine c_noBus hq (fun hL => b0' ?_) (fun q => b1' ?_)
  · refine c_isTicks (fun ⟨k, k1, k2, e⟩ => b1 ?_) (fun q => b0 ?_)
    · subst e
      rw [hq.g0]
      refine ⟨hq.P2, ?_⟩
      obtain ⟨s, t, b, ht1, hb1, hI, hE, hR, hz⟩ := hq.2.2.1.1 hL
      have c0 : gI σ 0 0 0 = s 0 0 := hE.2.1
      have key := c_advance (S := 0) (n := k) (Q := fun σ6 => S_X7_answer ((gI σ6 0 0 0) - (gI σ 0 0 0)) σ6 (fun r σ1 => S_X8_ticks (nI k) σ1 (fun r' σ2 => r = r' ∧ RR (n + 1) σ2))) hq.V hq.X (hq.W hL).2.2.2 (by omega) (by omega) (by omega) hI hE (fun x' hE' => ?_)
      · rw [stX_self] at key
        exact key
      · rintro _ rfl
        unfold S_X8_ticks
        refine fresh_pre ?_
        have t14 : gI (prH 0 (stX σ 0 x')) 8 0 14 = 1 := by
          rw [(Hd.prH 0 _).1 8 0 14 (Or.inl (by decide)) (Or.inr (by decide)), gX8]
          exact hq.told1 hL
        rw [t14]
        refine b1 ?_
        refine rng3 (a := 1) (b := 600) (by decide) (by decide) (fun _ => b1 ?_) (fun q => absurd ⟨k, k1, k2, rfl⟩ q)
        have hP : PM (prH 0 (stX σ 0 x')) p := by
          have := hq.M
          unfold PM at this ⊢
          have g : ∀ a, a ≠ 7 → a ≠ 8 → stN a = false → ∀ i c, gI (prH 0 (stX σ 0 x')) a i c = gI σ a i c := fun a a7 a8 hs i c => by
            rw [(Hd.prH 0 _).1 a i c (Or.inl a7) (Or.inl a8)]
            exact gXn hs i c
          simp only [g 53 (by decide) (by decide) rfl, g 55 (by decide) (by decide) rfl, g 57 (by decide) (by decide) rfl]
          exact this
        have g61 : ∀ c, gI (prH 0 (stX σ 0 x')) 61 0 c = gI σ 61 0 c := fun c => (pr61 0 _ c).trans (gXn rfl 0 c)
        have key2 := m_goes (tk := gI (prH 0 (stX σ 0 x')) 8 0 28) (r := fun c => gI (prH 0 (stX σ 0 x')) 61 0 c) (k := k) (Q := fun σ4 => (gI (stX σ 0 x') 0 0 0 - gI σ 0 0 0) = gI σ4 8 0 28 ∧ RR (n + 1) σ4) hq.V hP (by omega) hI (fun f c hc => (g61 _).trans (hR f c hc)) (fun r' tk' hM => ⟨?_, ?_⟩)
        · rw [stM_self] at key2
          exact key2
        · rw [gM28, hM.2, gX0, c0, hE'.2.1]
        · exact hq.done hT hL ⟨tN p k s, t + k, b + 32 * k, by omega, by omega, inv_tN hq.V hI k (by omega), hE', hM.1, fun l l1 l2 => (w40_tN l1 h8 k).trans (hz l l1 l2)⟩
    · rintro _ rfl
      unfold S_X8_ticks
      refine fresh_pre ?_
      rw [(hq.pr 2).told1 hL]
      exact b1 (rng3 (a := 1) (b := 600) (by decide) (by decide) (fun q2 => absurd q2 q) (fun _ => b0 (kR hq hT n24)))
  · rintro _ rfl
    unfold S_X8_ticks
    refine fresh_pre ?_
    rw [(hq.pr 1).told0 q]
    exact b0 (kR hq hT n14)
end Mut
