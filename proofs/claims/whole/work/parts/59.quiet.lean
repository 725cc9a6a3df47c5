/-! ===== quiet: the test on both sides ===== -/
def wn (s : SD) : Nat → Nat
  | 0 => 0
  | m + 1 => wn s m + ix (s 40 m)
theorem wn_sum {s : SD} : ∀ (m : Nat), (∀ l, l < m → ∃ w, w ≤ 16 ∧ s 40 l = nI w) → sumI (fun l => s 40 l) m = nI (wn s m) ∧ wn s m ≤ 16 * m
  | 0, _ => ⟨rfl, Nat.le_refl 0⟩
  | m + 1, h => by
    obtain ⟨w, w1, w2⟩ := h m (by omega)
    obtain ⟨i1, i2⟩ := wn_sum m (fun l hl => h l (by omega))
    have e : ix (s 40 m) = w := by rw [w2, ix_nI (by omega)]
    refine ⟨?_, ?_⟩
    · show sumI _ m + s 40 m = nI (wn s m + ix (s 40 m))
      rw [i1, e, w2, add_nI]
    · show wn s m + ix (s 40 m) ≤ _
      rw [e]
      omega
theorem cs_le {s : SD} : ∀ (m : Nat), (∀ q, q < m → ∃ c, c ≤ 12 ∧ s 30 q = nI c) → cs s m ≤ 12 * m
  | 0, _ => Nat.le_refl 0
  | m + 1, h => by
    obtain ⟨c, c1, c2⟩ := h m (by omega)
    have := cs_le m (fun q hq => h q (by omega))
    show cs s m + ix (s 30 m) ≤ _
    rw [c2, ix_nI (by omega)]
    omega
def Qt (p : PD) (s : SD) : Prop := cs s 32 = 0 ∧ wn s (nL p) = 0
theorem inv_cs {p : PD} {t : Nat} {lo : Nat → Nat} {b : Nat} {s : SD} (hV : PV p) (hI : Inv p t lo b s) : ∀ q, q < 32 → ∃ c, c ≤ 12 ∧ s 30 q = nI c := by
  intro q hq
  obtain ⟨c, c1, c2, _⟩ := hI.2.1 q hq
  have := hV.2.1
  exact ⟨c, by omega, c2⟩
theorem inv_wn {p : PD} {t : Nat} {lo : Nat → Nat} {b : Nat} {s : SD} (hI : Inv p t lo b s) : ∀ l, l < nL p → ∃ w, w ≤ 16 ∧ s 40 l = nI w := fun l hl => (hI.2.2.1 l hl).1
theorem c_isQuiet {p : PD} {σ : Hp} {S t b : Nat} {lo : Nat → Nat} {x s : SD} {Q : Int32 → Hp → Prop} (hV : PV p) (hI : Inv p t lo b s) (hE : EX p x s) (hz : ∀ l, nL p ≤ l → l < 8 → s 40 l = 0) (h1 : Qt p s → Q 1 (stX σ S x)) (h0 : ¬ Qt p s → Q 0 (stX σ S x)) : S_X5_isQuiet S (stX σ S x) Q := by
  have h8 := hV.2.2.2.2.2.2.1
  have c1 := cs_le 32 (inv_cs hV hI)
  obtain ⟨w1, w2⟩ := wn_sum (nL p) (inv_wn hI)
  have sw : sumI (fun k => gI (stX σ S x) 40 S k) 8 = nI (wn s (nL p)) := by
    rw [← w1]
    have a := sumI_tail (g := fun l => s 40 l) (m := nL p) (8 - nL p) (fun k k1 k2 => hz k k1 (by omega))
    rw [show nL p + (8 - nL p) = 8 by omega] at a
    rw [← a]
    exact sumI_congr 8 (fun k hk => (gX40 σ S x k).trans (hE.1 40 k rfl hk))
  unfold S_X5_isQuiet
  rw [gX3, hE.2.2.2.2, show (0 : Int32) = nI 0 from rfl, eq_nI (by omega) (by decide)]
  refine ⟨fun q => h0 (fun c => q c.1), fun q => c_allWaiting ?_⟩
  rw [sw, eq_nI (by omega) (by decide)]
  exact ⟨fun q2 => h0 (fun c => q2 c.2), fun q2 => h1 ⟨q, q2⟩⟩
theorem m_wait2 {p : PD} {σ : Hp} {r : Nat → Int32} {tk : Int32} {Q : Int32 → Hp → Prop} (hV : PV p) (hP : PM σ p) (h : Q (sumI (fun k => r (1 + 5 * k)) (nL p)) (stM σ r tk)) : S_X8_waitingMany (stM σ r tk) Q := by
  have h8 := hV.2.2.2.2.2.2.1
  have m6 : gI σ 53 0 6 = nI (nL p) := hP.1 6 (by decide)
  have go : ∀ j k, k + j = nL p → L_X8_waitingMany_4 Q (fun w3 σ2 => Q w3 σ2) (j + 1) (sumI (fun k => r (1 + 5 * k)) k) (nI k) (stM σ r tk) := by
    intro j
    induction j with
    | zero =>
      intro k hk
      have : k = nL p := by omega
      subst this
      unfold L_X8_waitingMany_4
      rw [show ix 6 = 6 from rfl, gM53, m6]
      exact ⟨vp_in_nI (n := 6) (by decide) (by decide), fun _ => h, fun q => absurd (nI_le (Nat.le_refl (nL p)) (by omega)) q⟩
    | succ j ih =>
      intro k hk
      have := ih (k + 1) (by omega)
      unfold L_X8_waitingMany_4 S_X8_linkAt
      dsimp only
      rw [show ix 6 = 6 from rfl, gM53, m6, le_nI (by omega) (by omega), show (1 : Int32) = nI 1 from rfl, show (5 : Int32) = nI 5 from rfl, show (0 : Int32) = nI 0 from rfl, mul_nI, add_nI, add_nI, add_nI, Nat.add_zero, ix_nI (by omega), gM61]
      exact ⟨vp_in_nI (n := 6) (by decide) (by decide), fun q => by omega, fun _ => ⟨vp_in_nI (by omega) (by decide), this⟩⟩
  exact ⟨nL p + 1, go (nL p) 0 (by omega)⟩
theorem m_isQuiet {p : PD} {σ : Hp} {r : Nat → Int32} {tk : Int32} {t b : Nat} {lo : Nat → Nat} {s : SD} {A B : Hp → Prop} (hV : PV p) (hP : PM σ p) (hI : Inv p t lo b s) (hR : ER r s) (h1 : Qt p s → A (stM σ r tk)) (h0 : ¬ Qt p s → B (stM σ r tk)) : S_X8_waitingMany (stM σ r tk) (fun r4 σ3 => S_X8_frameMany σ3 (fun r6 σ5 => (((r4 + r6) ≤ 0 → A σ5) ∧ (¬ (r4 + r6) ≤ 0 → B σ5)))) := by
  have h8 := hV.2.2.2.2.2.2.1
  have c1 := cs_le 32 (inv_cs hV hI)
  obtain ⟨w1, w2⟩ := wn_sum (nL p) (inv_wn hI)
  refine m_wait2 hV hP (m_frameMany ?_)
  have e1 : sumI (fun k => r (1 + 5 * k)) (nL p) = nI (wn s (nL p)) := by
    rw [← w1]
    exact sumI_congr _ (fun k hk => hR 40 k (show k < 8 by omega))
  have e2 : sumI (fun k => gI (stM σ r tk) 61 0 (81 + 39 * k)) 32 = nI (cs s 32) := by
    rw [cs_sum 32 (inv_cs hV hI)]
    exact sumI_congr _ (fun k hk => (gM61 σ r tk _).trans (hR 30 k hk))
  rw [e1, e2, add_nI, show (0 : Int32) = nI 0 from rfl, le_nI (by omega) (by decide)]
  exact ⟨fun q => h1 ⟨by omega, by omega⟩, fun q => h0 (fun c => q (by have := c.1; have := c.2; omega))⟩
theorem Qt.congr {p : PD} {s s' : SD} (h8 : nL p ≤ 8) (h : ∀ f k, f = 30 ∨ f = 40 → s' f k = s f k) : Qt p s' ↔ Qt p s := by
  have a : ∀ m, wn s' m = wn s m := by
    intro m
    induction m with
    | zero => rfl
    | succ m ih =>
      show wn s' m + ix (s' 40 m) = wn s m + ix (s 40 m)
      rw [ih, h 40 m (Or.inr rfl)]
  unfold Qt
  rw [a, cs_congr 32 (fun q _ => h 30 q (Or.inl rfl))]
