/-! ===== feed ===== -/
def Ft (σ σ' : Hp) : Prop := (∀ a b c, a ≠ 37 → a ≠ 52 → ¬ (a = 4 ∧ c = 1) → ¬ (a = 8 ∧ (c = 5 ∨ c = 0)) → gI σ' a b c = gI σ a b c) ∧ (∀ a b c, gL σ' a b c = gL σ a b c) ∧ (∀ a, gR σ' a = gR σ a)
theorem Ft.refl (σ : Hp) : Ft σ σ := ⟨fun _ _ _ _ _ _ _ => rfl, fun _ _ _ => rfl, fun _ => rfl⟩
theorem Ft.s {σ σ' : Hp} (h : Ft σ σ') {a c : Nat} (hh : a = 37 ∨ a = 52 ∨ (a = 4 ∧ c = 1) ∨ (a = 8 ∧ (c = 5 ∨ c = 0))) (v : Int32) : Ft σ (sI σ' a 0 c v) := by
  refine ⟨fun x y z q1 q2 q3 q4 => ?_, fun x y z => h.2.1 x y z, fun x => h.2.2 x⟩
  rw [gI_sI, if_neg (by omega)]
  exact h.1 x y z q1 q2 q3 q4
theorem RQ.tape {n : Nat} {σ σ' : Hp} {p : PD} {P : Nat} (h : RQ n σ p P) (hd : Ft σ σ') (hT : RT σ') : RQ n σ' p P := by
  have g1 : ∀ i k, gI σ' 1 i k = gI σ 1 i k := fun i k => hd.1 1 i k (by decide) (by decide) (by omega) (by omega)
  have g2 : ∀ i k, gI σ' 2 i k = gI σ 2 i k := fun i k => hd.1 2 i k (by decide) (by decide) (by omega) (by omega)
  have g3 : ∀ i k, gI σ' 3 i k = gI σ 3 i k := fun i k => hd.1 3 i k (by decide) (by decide) (by omega) (by omega)
  have g19 : ∀ i k, gI σ' 19 i k = gI σ 19 i k := fun i k => hd.1 19 i k (by decide) (by decide) (by omega) (by omega)
  have g22 : ∀ i k, gI σ' 22 i k = gI σ 22 i k := fun i k => hd.1 22 i k (by decide) (by decide) (by omega) (by omega)
  have g25 : ∀ i k, gI σ' 25 i k = gI σ 25 i k := fun i k => hd.1 25 i k (by decide) (by decide) (by omega) (by omega)
  have g26 : ∀ i k, gI σ' 26 i k = gI σ 26 i k := fun i k => hd.1 26 i k (by decide) (by decide) (by omega) (by omega)
  have g27 : ∀ i k, gI σ' 27 i k = gI σ 27 i k := fun i k => hd.1 27 i k (by decide) (by decide) (by omega) (by omega)
  have g28 : ∀ i k, gI σ' 28 i k = gI σ 28 i k := fun i k => hd.1 28 i k (by decide) (by decide) (by omega) (by omega)
  have g29 : ∀ i k, gI σ' 29 i k = gI σ 29 i k := fun i k => hd.1 29 i k (by decide) (by decide) (by omega) (by omega)
  have g40 : ∀ i k, gI σ' 40 i k = gI σ 40 i k := fun i k => hd.1 40 i k (by decide) (by decide) (by omega) (by omega)
  have g47 : ∀ i k, gI σ' 47 i k = gI σ 47 i k := fun i k => hd.1 47 i k (by decide) (by decide) (by omega) (by omega)
  have g48 : ∀ i k, gI σ' 48 i k = gI σ 48 i k := fun i k => hd.1 48 i k (by decide) (by decide) (by omega) (by omega)
  have g49 : ∀ i k, gI σ' 49 i k = gI σ 49 i k := fun i k => hd.1 49 i k (by decide) (by decide) (by omega) (by omega)
  have g50 : ∀ i k, gI σ' 50 i k = gI σ 50 i k := fun i k => hd.1 50 i k (by decide) (by decide) (by omega) (by omega)
  have g51 : ∀ i k, gI σ' 51 i k = gI σ 51 i k := fun i k => hd.1 51 i k (by decide) (by decide) (by omega) (by omega)
  have g53 : ∀ i k, gI σ' 53 i k = gI σ 53 i k := fun i k => hd.1 53 i k (by decide) (by decide) (by omega) (by omega)
  have g55 : ∀ i k, gI σ' 55 i k = gI σ 55 i k := fun i k => hd.1 55 i k (by decide) (by decide) (by omega) (by omega)
  have g57 : ∀ i k, gI σ' 57 i k = gI σ 57 i k := fun i k => hd.1 57 i k (by decide) (by decide) (by omega) (by omega)
  have g61 : ∀ i k, gI σ' 61 i k = gI σ 61 i k := fun i k => hd.1 61 i k (by decide) (by decide) (by omega) (by omega)
  have g63 : ∀ i k, gI σ' 63 i k = gI σ 63 i k := fun i k => hd.1 63 i k (by decide) (by decide) (by omega) (by omega)
  have g14 : gI σ' 8 0 14 = gI σ 8 0 14 := hd.1 8 0 14 (by decide) (by decide) (by decide) (by decide)
  have g8_27 : gI σ' 8 0 27 = gI σ 8 0 27 := hd.1 8 0 27 (by decide) (by decide) (by decide) (by decide)
  have g7_6 : gI σ' 7 0 6 = gI σ 7 0 6 := hd.1 7 0 6 (by decide) (by decide) (by decide) (by decide)
  have xx : ∀ S f k, stN f = true → xs σ' S f k = xs σ S f k := fun S f k hf => hd.1 f S k (fun e => by subst e; exact absurd hf (by decide)) (fun e => by subst e; exact absurd hf (by decide)) (fun e => by have := e.1; subst this; exact absurd hf (by decide)) (fun e => (stN_78 hf).2 e.1)
  obtain ⟨⟨h1, h2, h3, h4, h5, h6, h7, h8, h9, h10⟩, _, hN, hK⟩ := h
  refine ⟨⟨h1, (hd.2.2 0).trans h2, (hd.2.2 1).trans h3, h4, ?_, ?_, ?_, g14.trans h8, h9, fun q => ?_⟩, hT, ⟨fun q => (hN.1 q).ext (xx 0) (fun k => g61 0 k), fun q => ?_⟩, ?_, fun q => ?_⟩
  · unfold PX at h5 ⊢
    simp only [g2, g22, g25, g26, g27, g28, g29]
    exact h5
  · unfold PM at h6 ⊢
    simp only [g53, g55, g57]
    exact h6
  · unfold NmOk at h7 ⊢
    simp only [hd.2.1]
    exact h7
  · have := h10 q
    unfold WY UE OW EVn at this ⊢
    simp only [g1, g19, g47, g48, g49, g50, hd.2.1]
    exact this
  · have := hN.2 q
    simp only [g3, g40, g61]
    exact this
  · rw [g7_6, g8_27]
    exact hK.1
  · rw [g7_6] at q
    exact ⟨(hK.2 q).1, (hK.2 q).2.ext (xx 1) (fun k => g63 0 k)⟩
/-- byte i of the words told -/
def bw (ws : Nat → Int32) (i : Nat) : Int32 := ws (i / 4) >>> (nI (24 - 8 * (i % 4)) &&& 31)
def CB (ws : Nat → Int32) (σ : Hp) (N i : Nat) (σ' : Hp) : Prop := Ft σ σ' ∧ gI σ' 4 0 1 = nI (N + i) ∧ (∀ k, k < N → gI σ' 37 0 k = gI σ 37 0 k) ∧ (∀ k, k < i → gI σ' 37 0 (N + k) = vp_nar .byte (bw ws k).toInt8.toInt32) ∧ (∀ k, gI σ' 52 0 k = gI σ 52 0 k) ∧ gI σ' 8 0 5 = gI σ 8 0 5
theorem CB.step {ws : Nat → Int32} {σ σ' : Hp} {N i : Nat} (h : CB ws σ N i σ') : CB ws σ N (i + 1) (sI (sI σ' 37 0 (N + i) (vp_nar .byte (bw ws i).toInt8.toInt32)) 4 0 1 (nI (N + i + 1))) := by
  obtain ⟨h1, h2, h3, h4, h5, h6⟩ := h
  refine ⟨(h1.s (by simp) _).s (by simp) _, ?_, fun k hk => ?_, fun k hk => ?_, fun k => ?_, ?_⟩
  · rw [gI_sI, if_pos ⟨rfl, rfl, rfl⟩]
    rfl
  · rw [gI_sI, if_neg (by omega), gI_sI, if_neg (by omega)]
    exact h3 k hk
  · rw [gI_sI, if_neg (by omega), gI_sI]
    by_cases e : k = i
    · subst e
      rw [if_pos ⟨rfl, rfl, rfl⟩]
    · rw [if_neg (by omega)]
      exact h4 k (by omega)
  · rw [gI_sI, if_neg (by omega), gI_sI, if_neg (by omega)]
    exact h5 k
  · rw [gI_sI, if_neg (by decide), gI_sI, if_neg (by omega)]
    exact h6
theorem ap_step {Q K : Hp → Prop} {ws : Nat → Int32} {σ σ' : Hp} {N i m j : Nat} {y z : Int32} (hN : N + 20 ≤ 900) (hi : i < 20) (h : CB ws σ N i σ') (hj : j = i / 4) (hy : y = nI (24 - 8 * (i % 4))) (hz : z = y + (-8)) (k : ∀ σ'', CB ws σ N (i + 1) σ'' → L_X4_append_3 Q K (ws j) m z σ'') : L_X4_append_3 Q K (ws j) (m + 1) y σ' := by
  subst hj
  subst hz
  have hb : y.toInt = ((24 - 8 * (i % 4) : Nat) : Int) := by rw [hy]; exact nI_toInt (by omega)
  have n0 : ¬ y < 0 := by
    rw [Int32.lt_iff_toInt_lt, hb]
    have : (0 : Int32).toInt = 0 := rfl
    omega
  have n9 : ¬ (900 : Int32) ≤ nI (N + i) := by
    rw [show (900 : Int32) = nI 900 from rfl, le_nI (by decide) (by omega)]
    omega
  refine ⟨fun q => absurd q n0, fun _ => ?_⟩
  rw [h.2.1]
  refine ⟨fun q => absurd q n9, fun _ => ⟨vp_in_nI (by omega) (by decide), ?_⟩⟩
  rintro _ rfl _ rfl
  rw [ix_nI (by omega), gI_sI, if_neg (by omega), h.2.1, show (1 : Int32) = nI 1 from rfl, add_nI]
  have := h.step
  unfold bw at this
  rw [← hy] at this
  exact k _ this
theorem c_append {Q : Hp → Prop} {ws : Nat → Int32} {σ σ' : Hp} {N j : Nat} (hN : N + 20 ≤ 900) (hj : j < 5) (h : CB ws σ N (4 * j) σ') (k : ∀ σ'', CB ws σ N (4 * (j + 1)) σ'' → Q σ'') : S_X4_append (ws j) σ' Q := by
  refine ⟨5, ap_step (z := 16) hN (by omega) h (by omega) ?_ rfl (fun σ1 h1 => ap_step (z := 8) hN (by omega) h1 (by omega) ?_ rfl (fun σ2 h2 => ap_step (z := 0) hN (by omega) h2 (by omega) ?_ rfl (fun σ3 h3 => ap_step (z := -8) hN (by omega) h3 (by omega) ?_ rfl (fun σ4 h4 => ?_))))⟩
  · rw [show 4 * j % 4 = 0 by omega]; rfl
  · rw [show (4 * j + 1) % 4 = 1 by omega]; rfl
  · rw [show (4 * j + 1 + 1) % 4 = 2 by omega]; rfl
  · rw [show (4 * j + 1 + 1 + 1) % 4 = 3 by omega]; rfl
  · exact ⟨fun _ => k σ4 h4, fun q => absurd (by decide) q⟩
def CM (ws : Nat → Int32) (σ : Hp) (N j i : Nat) (σ' : Hp) : Prop := Ft σ σ' ∧ gI σ' 8 0 5 = nI (N + 4 * j) ∧ (∀ k, k < N → gI σ' 52 0 k = gI σ 52 0 k) ∧ (∀ k, k < 4 * j + i → gI σ' 52 0 (N + k) = bw ws k &&& 255) ∧ (∀ k, gI σ' 37 0 k = gI σ 37 0 k) ∧ gI σ' 4 0 1 = gI σ 4 0 1
theorem CM.step {ws : Nat → Int32} {σ σ' : Hp} {N j i : Nat} (h : CM ws σ N j i σ') : CM ws σ N j (i + 1) (sI σ' 52 0 (N + 4 * j + i) (bw ws (4 * j + i) &&& 255)) := by
  obtain ⟨h1, h2, h3, h4, h5, h6⟩ := h
  refine ⟨h1.s (by simp) _, ?_, fun k hk => ?_, fun k hk => ?_, fun k => ?_, ?_⟩
  · rw [gI_sI, if_neg (by omega)]
    exact h2
  · rw [gI_sI, if_neg (by omega)]
    exact h3 k hk
  · rw [gI_sI]
    by_cases e : k = 4 * j + i
    · subst e
      rw [if_pos ⟨rfl, rfl, by omega⟩]
    · rw [if_neg (by omega)]
      exact h4 k (by omega)
  · rw [gI_sI, if_neg (by omega)]
    exact h5 k
  · rw [gI_sI, if_neg (by omega)]
    exact h6
theorem m_laysW {Q : Hp → Prop} {ws : Nat → Int32} {σ σ' : Hp} {N j : Nat} (hN : N + 20 ≤ 900) (hj : j < 5) (h : CM ws σ N j 0 σ') (k : ∀ σ'', CM ws σ N (j + 1) 0 σ'' → Q σ'') : S_X8_laysWord (ws j) σ' Q := by
  have go : ∀ m i σ1, i + m = 4 → CM ws σ N j i σ1 → L_X8_laysWord_2 Q (fun σ3 => ∀ σ4, σ4 = sI σ3 8 0 5 ((gI σ3 8 0 5) + 4) → Q σ4) (ws j) (m + 1) (nI i) σ1 := by
    intro m
    induction m with
    | zero =>
      intro i σ1 hi hc
      have : i = 4 := by omega
      subst this
      refine ⟨fun _ => ?_, fun q => absurd (nI_le (Nat.le_refl 4) (by decide)) q⟩
      rintro _ rfl
      obtain ⟨h1, h2, h3, h4, h5, h6⟩ := hc
      refine k _ ⟨h1.s (by simp) _, ?_, fun k hk => ?_, fun k hk => ?_, fun k => ?_, ?_⟩
      · rw [gI_sI, if_pos ⟨rfl, rfl, rfl⟩, h2, show (4 : Int32) = nI 4 from rfl, add_nI]
        rfl
      · rw [gI_sI, if_neg (by omega)]
        exact h3 k hk
      · rw [gI_sI, if_neg (by omega)]
        exact h4 k (by omega)
      · rw [gI_sI, if_neg (by omega)]
        exact h5 k
      · rw [gI_sI, if_neg (by omega)]
        exact h6
    | succ m ih =>
      intro i σ1 hi hc
      have := hc.step
      unfold bw at this
      rw [show (4 * j + i) / 4 = j by omega, show (4 * j + i) % 4 = i by omega] at this
      unfold L_X8_laysWord_2
      rw [show (4 : Int32) = nI 4 from rfl, le_nI (by decide) (by omega), hc.2.1, add_nI (N + 4 * j) i, ix_nI (by omega), show (8 : Int32) = nI 8 from rfl, show (24 : Int32) = nI 24 from rfl, mul_nI, sub_nI (by omega), show (1 : Int32) = nI 1 from rfl, add_nI i 1]
      refine ⟨fun q => by omega, fun _ => ⟨vp_in_nI (by omega) (by decide), ?_⟩⟩
      rintro _ rfl
      exact ih (i + 1) _ (by omega) this
  exact ⟨5, go 4 0 σ' rfl h⟩
def w5 (a b c d e : Int32) : Nat → Int32
  | 0 => a
  | 1 => b
  | 2 => c
  | 3 => d
  | _ => e
theorem k_feed {n : Nat} {σ : Hp} {a b c d e : Int32} (h : RR n σ) : S_X7_feed a b c d e σ (fun r σ1 => S_X8_feed a b c d e σ1 (fun r' σ2 => r = r' ∧ RR (n + 1) σ2)) := by
  have hth := h.th
  obtain ⟨⟨p, P, hq⟩, hT⟩ := h
  obtain ⟨N, N9, n1, n2, n3⟩ := hq.2.1
  unfold S_X7_feed
  rw [n1, show (20 : Int32) = nI 20 from rfl, show (900 : Int32) = nI 900 from rfl, add_nI, le_nI (by omega) (by decide)]
  refine ⟨fun hN => ?_, fun hN => ?_⟩
  · have h0 : CB (w5 a b c d e) σ N (4 * 0) σ := ⟨Ft.refl σ, n1, fun _ _ => rfl, fun k hk => by omega, fun _ => rfl, rfl⟩
    refine c_append (ws := w5 a b c d e) (j := 0) hN (by decide) h0 (fun σ1 h1 => ?_)
    refine c_append (ws := w5 a b c d e) (j := 1) hN (by decide) h1 (fun σ2 h2 => ?_)
    refine c_append (ws := w5 a b c d e) (j := 2) hN (by decide) h2 (fun σ3 h3 => ?_)
    refine c_append (ws := w5 a b c d e) (j := 3) hN (by decide) h3 (fun σ4 h4 => ?_)
    refine c_append (ws := w5 a b c d e) (j := 4) hN (by decide) h4 (fun σ5 h5 => ?_)
    obtain ⟨f1, f2, f3, f4, f5, f6⟩ := h5
    unfold S_X8_feed
    rintro _ rfl
    have e5 : gI (sI σ5 8 0 0 0) 8 0 5 = nI N := by
      rw [gI_sI, if_neg (by decide), f6, n2]
    rw [e5, show (880 : Int32) = nI 880 from rfl, le_nI (by omega) (by decide)]
    refine ⟨fun _ => ?_, fun q => absurd (by omega) q⟩
    have m0 : CM (w5 a b c d e) (sI σ5 8 0 0 0) N 0 0 (sI σ5 8 0 0 0) := ⟨Ft.refl _, e5, fun _ _ => rfl, fun k hk => by omega, fun _ => rfl, rfl⟩
    refine m_laysW (ws := w5 a b c d e) (j := 0) hN (by decide) m0 (fun τ1 g1 => ?_)
    refine m_laysW (ws := w5 a b c d e) (j := 1) hN (by decide) g1 (fun τ2 g2 => ?_)
    refine m_laysW (ws := w5 a b c d e) (j := 2) hN (by decide) g2 (fun τ3 g3 => ?_)
    refine m_laysW (ws := w5 a b c d e) (j := 3) hN (by decide) g3 (fun τ4 g4 => ?_)
    refine m_laysW (ws := w5 a b c d e) (j := 4) hN (by decide) g4 (fun τ5 g5 => ?_)
    obtain ⟨i1, i2, i3, i4, i5, i6⟩ := g5
    have z : Ft σ (sI σ5 8 0 0 0) := f1.s (by simp) 0
    have tot : Ft σ τ5 := ⟨fun x y z' q1 q2 q3 q4 => (i1.1 x y z' q1 q2 q3 q4).trans (z.1 x y z' q1 q2 q3 q4), fun x y z' => (i1.2.1 x y z').trans (z.2.1 x y z'), fun x => (i1.2.2 x).trans (z.2.2 x)⟩
    have t4 : gI τ5 4 0 1 = nI (N + 20) := by
      rw [i6, gI_sI, if_neg (by decide), f2]
    have t7 : ∀ k, gI τ5 7 0 k = gI σ 7 0 k := fun k => tot.1 7 0 k (by decide) (by decide) (by omega) (by omega)
    have t8 : ∀ k, k ≠ 5 → k ≠ 0 → gI τ5 8 0 k = gI σ 8 0 k := fun k a1 a2 => tot.1 8 0 k (by decide) (by decide) (by omega) (by omega)
    refine ⟨f2.trans i2.symm, ⟨p, P, (hq.tape tot ⟨N + 20, hN, t4, i2, fun k hk => ?_⟩).mono (Nat.le_succ n)⟩, ?_⟩
    · rcases Nat.lt_or_ge k N with q | q
      · obtain ⟨w, w1, w2⟩ := n3 k q
        refine ⟨w, ?_, ?_⟩
        · rw [i5, gI_sI, if_neg (by omega), f3 k q, w1]
        · rw [i3 k q, gI_sI, if_neg (by omega), f5, w2]
      · have ek : k = N + (k - N) := by omega
        refine ⟨bw (w5 a b c d e) (k - N), ?_, ?_⟩
        · rw [i5, gI_sI, if_neg (by omega)]
          have := f4 (k - N) (by omega)
          rw [← ek] at this
          exact this
        · have := i4 (k - N) (by omega)
          rw [← ek] at this
          exact this
    · unfold TR at hT ⊢
      rw [t7, t7, t7, t8 1 (by decide) (by decide), t8 2 (by decide) (by decide), t8 3 (by decide) (by decide)]
      exact hT
  · unfold S_X8_feed
    rintro _ rfl
    have e5 : gI (sI σ 8 0 0 0) 8 0 5 = nI N := by
      rw [gI_sI, if_neg (by decide), n2]
    rw [e5, show (880 : Int32) = nI 880 from rfl, le_nI (by omega) (by decide)]
    exact ⟨fun q => absurd (by omega) hN, fun _ => ⟨rfl, hth⟩⟩
