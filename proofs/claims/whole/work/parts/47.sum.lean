/-! ===== sums, size, named, way ===== -/
def sumI (g : Nat → Int32) : Nat → Int32
  | 0 => 0
  | n + 1 => sumI g n + g n
theorem sumI_congr {g g' : Nat → Int32} : ∀ (n : Nat), (∀ k, k < n → g k = g' k) → sumI g n = sumI g' n
  | 0, _ => rfl
  | n + 1, h => by
    show sumI g n + g n = sumI g' n + g' n
    rw [sumI_congr n (fun k hk => h k (by omega)), h n (by omega)]
theorem sumI_tail {g : Nat → Int32} {m : Nat} : ∀ (j : Nat), (∀ k, m ≤ k → k < m + j → g k = 0) → sumI g (m + j) = sumI g m
  | 0, _ => rfl
  | j + 1, h => by
    show sumI g (m + j) + g (m + j) = _
    rw [sumI_tail j (fun k a b => h k a (by omega)), h (m + j) (by omega) (by omega), Int32.add_zero]
theorem sumI_nI {g : Nat → Int32} {f : Nat → Nat} : ∀ (n : Nat), (∀ k, k < n → g k = nI (f k)) → sumI g n = nI (Nat.rec 0 (fun k a => a + f k) n)
  | 0, _ => rfl
  | n + 1, h => by
    show sumI g n + g n = nI (_ + f n)
    rw [sumI_nI n (fun k hk => h k (by omega)), h n (by omega), add_nI]
section Sums
variable {n : Nat} {σ : Hp} {p : PD} {P : Nat} {Q : Int32 → Hp → Prop}
theorem RQ.m6 (h : RQ n σ p P) : gI σ 53 0 6 = nI (nL p) := h.M.1 6 (by decide)
theorem RQ.m5 (h : RQ n σ p P) : gI σ 53 0 5 = nI (nE p) := h.M.1 5 (by decide)
theorem c_allWaiting {S : Nat} (h : Q (sumI (fun k => gI σ 40 S k) 8) σ) : S_X5_allWaiting S σ Q := by
  have go : ∀ j k, k + j = 8 → L_X5_allWaiting_4 Q (fun w3 σ2 => Q w3 σ2) S (j + 1) (sumI (fun k => gI σ 40 S k) k) (nI k) σ := by
    intro j
    induction j with
    | zero =>
      intro k hk
      have : k = 8 := by omega
      subst this
      exact ⟨fun _ => h, fun q => absurd (nI_le (Nat.le_refl 8) (by decide)) q⟩
    | succ j ih =>
      intro k hk
      have := ih (k + 1) (by omega)
      unfold L_X5_allWaiting_4
      rw [show (8 : Int32) = nI 8 from rfl, le_nI (by decide) (by omega), ix_nI (by omega), show (1 : Int32) = nI 1 from rfl, add_nI]
      exact ⟨fun q => by omega, fun _ => ⟨vp_in_nI (by omega) (by decide), this⟩⟩
  exact ⟨9, go 8 0 rfl⟩
theorem m_waitingMany (hq : RQ n σ p P) (h : Q (sumI (fun k => gI σ 61 0 (1 + 5 * k)) (nL p)) σ) : S_X8_waitingMany σ Q := by
  have h8 := hq.nL8
  have go : ∀ j k, k + j = nL p → L_X8_waitingMany_4 Q (fun w3 σ2 => Q w3 σ2) (j + 1) (sumI (fun k => gI σ 61 0 (1 + 5 * k)) k) (nI k) σ := by
    intro j
    induction j with
    | zero =>
      intro k hk
      have : k = nL p := by omega
      subst this
      unfold L_X8_waitingMany_4
      rw [show ix 6 = 6 from rfl, hq.m6]
      exact ⟨vp_in_nI (n := 6) (by decide) (by decide), fun _ => h, fun q => absurd (nI_le (Nat.le_refl (nL p)) (by omega)) q⟩
    | succ j ih =>
      intro k hk
      have := ih (k + 1) (by omega)
      unfold L_X8_waitingMany_4 S_X8_linkAt
      dsimp only
      rw [show ix 6 = 6 from rfl, hq.m6, le_nI (show nL p < 2 ^ 31 by omega) (by omega), show (1 : Int32) = nI 1 from rfl, show (5 : Int32) = nI 5 from rfl, show (0 : Int32) = nI 0 from rfl, mul_nI, add_nI, add_nI, add_nI, Nat.add_zero, ix_nI (by omega)]
      exact ⟨vp_in_nI (n := 6) (by decide) (by decide), fun q => by omega, fun _ => ⟨vp_in_nI (by omega) (by decide), this⟩⟩
  exact ⟨nL p + 1, go (nL p) 0 (by omega)⟩
theorem m_frameMany (h : Q (sumI (fun k => gI σ 61 0 (81 + 39 * k)) 32) σ) : S_X8_frameMany σ Q := by
  have go : ∀ j k, k + j = 32 → L_X8_frameMany_4 Q (fun w3 σ2 => Q w3 σ2) (j + 1) (sumI (fun k => gI σ 61 0 (81 + 39 * k)) k) (nI k) σ := by
    intro j
    induction j with
    | zero =>
      intro k hk
      have : k = 32 := by omega
      subst this
      exact ⟨fun _ => h, fun q => absurd (nI_le (Nat.le_refl 32) (by decide)) q⟩
    | succ j ih =>
      intro k hk
      have := ih (k + 1) (by omega)
      unfold L_X8_frameMany_4
      rw [show (32 : Int32) = nI 32 from rfl, le_nI (by decide) (by omega), show (39 : Int32) = nI 39 from rfl, show (81 : Int32) = nI 81 from rfl, show (0 : Int32) = nI 0 from rfl, mul_nI, add_nI, add_nI, Nat.add_zero, ix_nI (by omega), show (1 : Int32) = nI 1 from rfl, add_nI]
      exact ⟨fun q => by omega, fun _ => ⟨vp_in_nI (by omega) (by decide), this⟩⟩
  exact ⟨33, go 32 0 rfl⟩
theorem c_allReceivers (hq : RQ n σ p P) (h : Q (sumI (fun k => nI (rc p k)) (nL p)) σ) : S_X2_allReceivers P σ Q := by
  have h8 := hq.nL8
  have go : ∀ j k, k + j = nL p → L_X2_allReceivers_4 Q (fun w3 σ2 => Q w3 σ2) P (j + 1) (sumI (fun k => nI (rc p k)) k) (nI k) σ := by
    intro j
    induction j with
    | zero =>
      intro k hk
      have : k = nL p := by omega
      subst this
      unfold L_X2_allReceivers_4
      rw [hq.X.2.2.2.2.2.2.1]
      exact ⟨fun _ => h, fun q => absurd (nI_le (Nat.le_refl (nL p)) (by omega)) q⟩
    | succ j ih =>
      intro k hk
      have := ih (k + 1) (by omega)
      unfold L_X2_allReceivers_4
      rw [hq.X.2.2.2.2.2.2.1, le_nI (by omega) (by omega), ix_nI (by omega), (hq.X.2.2.2.2.2.2.2.2.1 k (by omega)).2.2.2, show (1 : Int32) = nI 1 from rfl, add_nI k 1]
      exact ⟨fun q => by omega, fun _ => ⟨vp_in_nI (by omega) (by decide), this⟩⟩
  exact ⟨nL p + 1, go (nL p) 0 (by omega)⟩
theorem m_receiverMany (hq : RQ n σ p P) (h : Q (sumI (fun k => nI (rc p k)) (nL p)) σ) : S_X8_receiverMany σ Q := by
  have h8 := hq.nL8
  have go : ∀ j k, k + j = nL p → L_X8_receiverMany_4 Q (fun w3 σ2 => Q w3 σ2) (j + 1) (sumI (fun k => nI (rc p k)) k) (nI k) σ := by
    intro j
    induction j with
    | zero =>
      intro k hk
      have : k = nL p := by omega
      subst this
      unfold L_X8_receiverMany_4
      rw [show ix 6 = 6 from rfl, hq.m6]
      exact ⟨vp_in_nI (n := 6) (by decide) (by decide), fun _ => h, fun q => absurd (nI_le (Nat.le_refl (nL p)) (by omega)) q⟩
    | succ j ih =>
      intro k hk
      have := ih (k + 1) (by omega)
      unfold L_X8_receiverMany_4
      rw [show ix 6 = 6 from rfl, hq.m6, le_nI (show nL p < 2 ^ 31 by omega) (by omega), show (1 : Int32) = nI 1 from rfl, add_nI k 1]
      exact ⟨vp_in_nI (n := 6) (by decide) (by decide), fun q => by omega, fun _ => m_lnk (j := 3) hq (by omega) (by decide) this⟩
  exact ⟨nL p + 1, go (nL p) 0 (by omega)⟩
theorem cs_sum {s : SD} : ∀ (n : Nat), (∀ q, q < n → ∃ c, c ≤ 12 ∧ s 30 q = nI c) → nI (cs s n) = sumI (fun q => s 30 q) n
  | 0, _ => rfl
  | n + 1, h => by
    obtain ⟨c, c1, c2⟩ := h n (by omega)
    show nI (cs s n + ix (s 30 n)) = sumI _ n + s 30 n
    rw [← cs_sum n (fun q hq => h q (by omega)), c2, ix_nI (by omega), add_nI]
/-- all that waits, all frames: alike on both sides -/
theorem RQ.waiting (h : RQ n σ p P) : sumI (fun k => gI σ 40 0 k) 8 = sumI (fun k => gI σ 61 0 (1 + 5 * k)) (nL p) := by
  have h8 := h.nL8
  rcases Nat.eq_zero_or_pos (nL p) with e | e
  · have hz := (h.2.2.1.2 e).2.1
    rw [e]
    have := sumI_tail (g := fun k => gI σ 40 0 k) (m := 0) 8 (fun k _ b => hz k (by omega))
    exact this
  · obtain ⟨s, t, b, _, _, hI, hE, hR, h0⟩ := h.2.2.1.1 e
    have a1 : ∀ k, k < 8 → gI σ 40 0 k = s 40 k := fun k hk => hE.1 40 k rfl hk
    have a2 := sumI_tail (g := fun k => gI σ 40 0 k) (m := nL p) (8 - nL p) (fun k a b => (a1 k (by omega)).trans (h0 k a (by omega)))
    rw [show nL p + (8 - nL p) = 8 by omega] at a2
    rw [a2]
    exact sumI_congr _ (fun k hk => h.row e (f := 40) rfl (show k < 8 by omega) rfl)
theorem RQ.frames (h : RQ n σ p P) : gI σ 3 0 0 = sumI (fun k => gI σ 61 0 (81 + 39 * k)) 32 := by
  rcases Nat.eq_zero_or_pos (nL p) with e | e
  · obtain ⟨a, _, c, _⟩ := h.2.2.1.2 e
    rw [a]
    exact (sumI_tail (g := fun k => gI σ 61 0 (81 + 39 * k)) (m := 0) 32 (fun k _ b => c k (by omega))).symm
  · obtain ⟨s, t, b, _, _, hI, hE, hR, h0⟩ := h.2.2.1.1 e
    have h12 := h.V.2.1
    have : xs σ 0 3 0 = nI (cs s 32) := hE.2.2.2.2
    refine Eq.trans this ?_
    rw [cs_sum 32 (fun q hq => by obtain ⟨c, c1, c2, _⟩ := hI.2.1 q hq; exact ⟨c, by omega, c2⟩)]
    exact sumI_congr _ (fun k hk => (hR 30 k hk).symm)
theorem k_size {x : Int32} (h : RR n σ) : S_X7_size x σ (fun r σ1 => S_X8_size x σ1 (fun r' σ2 => r = r' ∧ RR (n + 1) σ2)) := by
  have hth := h.th
  obtain ⟨⟨p, P, hq⟩, hT⟩ := h
  have hq' : RQ n (sI σ 8 0 0 0) p P := hq.fr ((Hd.refl σ).s8 (by decide) 0)
  have g61 : ∀ k, gI (sI σ 8 0 0 0) 61 0 k = gI σ 61 0 k := fun k => by simp [gI_sI]
  have g5 : gI (sI σ 8 0 0 0) 8 0 5 = gI σ 8 0 5 := by simp [gI_sI]
  have g27 : gI (sI σ 8 0 0 0) 8 0 27 = gI σ 8 0 27 := by simp [gI_sI]
  have d01 : ¬ (0 : Int32) = 1 := by decide
  have d02 : ¬ (0 : Int32) = 2 := by decide
  have d03 : ¬ (0 : Int32) = 3 := by decide
  have d04 : ¬ (0 : Int32) = 4 := by decide
  have d12 : ¬ (1 : Int32) = 2 := by decide
  have d13 : ¬ (1 : Int32) = 3 := by decide
  have d14 : ¬ (1 : Int32) = 4 := by decide
  have d23 : ¬ (2 : Int32) = 3 := by decide
  have d24 : ¬ (2 : Int32) = 4 := by decide
  have d34 : ¬ (3 : Int32) = 4 := by decide
  unfold S_X7_size
  refine ⟨fun e => ?_, fun e => ?_, fun e => ?_, fun e => ?_, fun e => ?_, fun a0 a1 a2 a3 a4 => ?_⟩
  · subst e
    rintro _ rfl
    refine ⟨fun _ => ⟨?_, hth⟩, fun q => absurd q d01, fun q => absurd q d02, fun q => absurd q d03, fun q => absurd q d04, fun q => absurd rfl q⟩
    obtain ⟨N, _, n1, n2, _⟩ := hq.2.1
    rw [g5, n1, n2]
  · subst e
    rw [hq.g0]
    refine ⟨hq.P2, c_allReceivers hq ?_⟩
    rintro _ rfl
    exact ⟨fun q => absurd q.symm d01, fun _ => m_receiverMany hq' ⟨rfl, hth⟩, fun q => absurd q d12, fun q => absurd q d13, fun q => absurd q d14, fun _ q => absurd rfl q⟩
  · subst e
    refine c_allWaiting ?_
    rintro _ rfl
    refine ⟨fun q => absurd q.symm d02, fun q => absurd q.symm d12, fun _ => m_waitingMany hq' ⟨?_, hth⟩, fun q => absurd q d23, fun q => absurd q d24, fun _ _ q => absurd rfl q⟩
    rw [hq.waiting]
    exact sumI_congr _ (fun k _ => (g61 _).symm)
  · subst e
    rintro _ rfl
    refine ⟨fun q => absurd q.symm d03, fun q => absurd q.symm d13, fun q => absurd q.symm d23, fun _ => m_frameMany ⟨?_, hth⟩, fun q => absurd q d34, fun _ _ _ q => absurd rfl q⟩
    rw [hq.frames]
    exact sumI_congr _ (fun k _ => (g61 _).symm)
  · subst e
    refine ⟨fun q => ?_, fun q => ?_⟩ <;> rintro _ rfl
    · refine ⟨fun q => absurd q.symm d04, fun q => absurd q.symm d14, fun q => absurd q.symm d24, fun q => absurd q.symm d34, fun _ => ⟨fun _ => ⟨rfl, hth⟩, fun q2 => ?_⟩, fun _ _ _ _ q => absurd rfl q⟩
      rw [g27, ← hq.2.2.2.1] at q2
      exact absurd q q2
    · refine ⟨fun q => absurd q.symm d04, fun q => absurd q.symm d14, fun q => absurd q.symm d24, fun q => absurd q.symm d34, fun _ => ⟨fun q2 => ?_, fun _ => ⟨rfl, hth⟩⟩, fun _ _ _ _ q => absurd rfl q⟩
      rw [g27, ← hq.2.2.2.1] at q2
      exact absurd q2 q
  · rintro _ rfl
    exact ⟨fun q => absurd q a0, fun q => absurd q a1, fun q => absurd q a2, fun q => absurd q a3, fun q => absurd q a4, fun _ _ _ _ _ => ⟨rfl, hth⟩⟩
end Sums
