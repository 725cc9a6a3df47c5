/-! ===== bus: the frames ===== -/
theorem byte_t (w : Int32) : ∃ t, t < 256 ∧ w &&& 255 = nI t ∧ (t < 128 → vp_nar .byte w.toInt8.toInt32 = nI t) ∧ (128 ≤ t → vp_nar .byte w.toInt8.toInt32 < 0) := by
  have hb : w.toBitVec.toNat < 2 ^ 32 := w.toBitVec.isLt
  refine ⟨w.toBitVec.toNat % 256, Nat.mod_lt _ (by decide), ?_, ?_, ?_⟩
  · apply Int32.toBitVec_inj.mp
    apply BitVec.eq_of_toNat_eq
    show (w.toBitVec &&& (255 : Int32).toBitVec).toNat = (BitVec.ofNat 32 _).toNat
    rw [BitVec.toNat_and, BitVec.toNat_ofNat, show (255 : Int32).toBitVec.toNat = 2 ^ 8 - 1 from rfl, Nat.and_two_pow_sub_one_eq_mod]
    omega
  all_goals
    have e1 : (vp_nar .byte w.toInt8.toInt32).toInt = Int.bmod w.toInt 256 := by
      show (w.toInt8.toInt32.toInt8.toInt32).toInt = _
      simp
    have e2 : w.toInt = if 2 * w.toBitVec.toNat < 2 ^ 32 then (w.toBitVec.toNat : Int) else (w.toBitVec.toNat : Int) - (2 ^ 32 : Nat) := BitVec.toInt_eq_toNat_cond w.toBitVec
    have e3 : (Int.bmod w.toInt 256 = w.toInt % 256 ∧ w.toInt % 256 < 128) ∨ (Int.bmod w.toInt 256 = w.toInt % 256 - 256 ∧ 128 ≤ w.toInt % 256) := by
      unfold Int.bmod
      by_cases q : w.toInt % 256 < 128
      · left
        refine ⟨?_, q⟩
        show (if w.toInt % ((256 : Nat) : Int) < (((256 : Nat) : Int) + 1) / 2 then _ else _) = _
        rw [if_pos (by omega)]
        rfl
      · right
        refine ⟨?_, by omega⟩
        show (if w.toInt % ((256 : Nat) : Int) < (((256 : Nat) : Int) + 1) / 2 then _ else _) = _
        rw [if_neg (by omega)]
        rfl
    have e4 : w.toInt % 256 = ((w.toBitVec.toNat % 256 : Nat) : Int) := by
      rw [e2]
      split <;> omega
  · intro h
    apply Int32.toInt_inj.mp
    rw [e1, nI_toInt (by omega)]
    omega
  · intro h
    rw [Int32.lt_iff_toInt_lt, e1]
    have : (0 : Int32).toInt = 0 := rfl
    omega
theorem RT.tx {σ : Hp} {M N : Nat} (h : ∀ k, k < M → ∃ w : Int32, gI σ 37 0 k = vp_nar .byte w.toInt8.toInt32 ∧ gI σ 52 0 k = w &&& 255) (hN : N ≤ M) : ∃ T : Tx, CT σ T N ∧ MT σ T N := by
  have : ∀ k, ∃ t, k < N → t < 256 ∧ gI σ 52 0 k = nI t ∧ (t < 128 → gI σ 37 0 k = nI t) ∧ (128 ≤ t → gI σ 37 0 k < 0) := by
    intro k
    by_cases hk : k < N
    · obtain ⟨w, w1, w2⟩ := h k (by omega)
      obtain ⟨t, t1, t2, t3, t4⟩ := byte_t w
      exact ⟨t, fun _ => ⟨t1, w2.trans t2, fun q => w1.trans (t3 q), fun q => by rw [w1]; exact t4 q⟩⟩
    · exact ⟨0, fun q => absurd q hk⟩
  refine ⟨fun k => Classical.choose (this k), fun k hk => ?_, fun k hk => ?_⟩
  · have := Classical.choose_spec (this k) hk
    exact ⟨this.1, this.2.2.1, this.2.2.2⟩
  · have := Classical.choose_spec (this k) hk
    exact ⟨this.1, this.2.1⟩
/-- only readers, drafts and the answers' cells differ -/
def FZ (D : Nat) (σ σ' : Hp) : Prop := (∀ a b c, a ≠ 4 → ¬ (a = 7 ∧ 7 ≤ c) → ¬ (a = 8 ∧ c ≠ 14 ∧ c ≠ 27) → a ≠ 54 → a ≠ 56 → a ≠ 58 → ¬ (b = D ∧ (a = 2 ∨ (22 ≤ a ∧ a ≤ 29))) → gI σ' a b c = gI σ a b c) ∧ (∀ a b c, a ≠ 4 → a ≠ 8 → a ≠ 60 → ¬ (b = D ∧ (a = 23 ∨ a = 24)) → gL σ' a b c = gL σ a b c) ∧ (∀ a, gR σ' a = gR σ a)
theorem RQ.drf {n : Nat} {σ σ' : Hp} {p : PD} {P : Nat} (h : RQ n σ p P) (hd : FZ (1 - P) σ σ') (hT : RT σ') : RQ n σ' p P := by
  have hP2 : P < 2 := h.1.1
  have gP : ∀ a k, a ≠ 4 → a ≠ 7 → a ≠ 8 → a ≠ 54 → a ≠ 56 → a ≠ 58 → gI σ' a P k = gI σ a P k := fun a k q1 q2 q3 q4 q5 q6 => hd.1 a P k q1 (fun z => q2 z.1) (fun z => q3 z.1) q4 q5 q6 (by omega)
  have g0 : ∀ a i k, a ≠ 4 → a ≠ 7 → a ≠ 8 → a ≠ 54 → a ≠ 56 → a ≠ 58 → a ≠ 2 → ¬ (22 ≤ a ∧ a ≤ 29) → gI σ' a i k = gI σ a i k := fun a i k q1 q2 q3 q4 q5 q6 q7 q8 => hd.1 a i k q1 (fun z => q2 z.1) (fun z => q3 z.1) q4 q5 q6 (by omega)
  have g1 : ∀ i k, gI σ' 1 i k = gI σ 1 i k := fun i k => g0 1 i k (by decide) (by decide) (by decide) (by decide) (by decide) (by decide) (by decide) (by decide)
  have g3 : ∀ i k, gI σ' 3 i k = gI σ 3 i k := fun i k => g0 3 i k (by decide) (by decide) (by decide) (by decide) (by decide) (by decide) (by decide) (by decide)
  have g19 : ∀ i k, gI σ' 19 i k = gI σ 19 i k := fun i k => g0 19 i k (by decide) (by decide) (by decide) (by decide) (by decide) (by decide) (by decide) (by decide)
  have g40 : ∀ i k, gI σ' 40 i k = gI σ 40 i k := fun i k => g0 40 i k (by decide) (by decide) (by decide) (by decide) (by decide) (by decide) (by decide) (by decide)
  have g47 : ∀ i k, gI σ' 47 i k = gI σ 47 i k := fun i k => g0 47 i k (by decide) (by decide) (by decide) (by decide) (by decide) (by decide) (by decide) (by decide)
  have g48 : ∀ i k, gI σ' 48 i k = gI σ 48 i k := fun i k => g0 48 i k (by decide) (by decide) (by decide) (by decide) (by decide) (by decide) (by decide) (by decide)
  have g49 : ∀ i k, gI σ' 49 i k = gI σ 49 i k := fun i k => g0 49 i k (by decide) (by decide) (by decide) (by decide) (by decide) (by decide) (by decide) (by decide)
  have g50 : ∀ i k, gI σ' 50 i k = gI σ 50 i k := fun i k => g0 50 i k (by decide) (by decide) (by decide) (by decide) (by decide) (by decide) (by decide) (by decide)
  have g53 : ∀ i k, gI σ' 53 i k = gI σ 53 i k := fun i k => g0 53 i k (by decide) (by decide) (by decide) (by decide) (by decide) (by decide) (by decide) (by decide)
  have g55 : ∀ i k, gI σ' 55 i k = gI σ 55 i k := fun i k => g0 55 i k (by decide) (by decide) (by decide) (by decide) (by decide) (by decide) (by decide) (by decide)
  have g57 : ∀ i k, gI σ' 57 i k = gI σ 57 i k := fun i k => g0 57 i k (by decide) (by decide) (by decide) (by decide) (by decide) (by decide) (by decide) (by decide)
  have g61 : ∀ i k, gI σ' 61 i k = gI σ 61 i k := fun i k => g0 61 i k (by decide) (by decide) (by decide) (by decide) (by decide) (by decide) (by decide) (by decide)
  have g63 : ∀ i k, gI σ' 63 i k = gI σ 63 i k := fun i k => g0 63 i k (by decide) (by decide) (by decide) (by decide) (by decide) (by decide) (by decide) (by decide)
  have g14 : gI σ' 8 0 14 = gI σ 8 0 14 := hd.1 8 0 14 (by decide) (by decide) (by decide) (by decide) (by decide) (by decide) (by omega)
  have g8_27 : gI σ' 8 0 27 = gI σ 8 0 27 := hd.1 8 0 27 (by decide) (by decide) (by decide) (by decide) (by decide) (by decide) (by omega)
  have g7_6 : gI σ' 7 0 6 = gI σ 7 0 6 := hd.1 7 0 6 (by decide) (by decide) (by decide) (by decide) (by decide) (by decide) (by omega)
  have lP : ∀ a k, a ≠ 4 → a ≠ 8 → a ≠ 60 → gL σ' a P k = gL σ a P k := fun a k q1 q2 q3 => hd.2.1 a P k q1 q2 q3 (by omega)
  have l0 : ∀ a i k, a ≠ 4 → a ≠ 8 → a ≠ 60 → a ≠ 23 → a ≠ 24 → gL σ' a i k = gL σ a i k := fun a i k q1 q2 q3 q4 q5 => hd.2.1 a i k q1 q2 q3 (by omega)
  have xx : ∀ S f k, stN f = true → xs σ' S f k = xs σ S f k := by
    intro S f k hf
    refine hd.1 f S k ?_ ?_ ?_ ?_ ?_ ?_ ?_
    · rintro rfl; exact absurd hf (by decide)
    · rintro ⟨rfl, _⟩; exact absurd hf (by decide)
    · rintro ⟨rfl, _⟩; exact absurd hf (by decide)
    · rintro rfl; exact absurd hf (by decide)
    · rintro rfl; exact absurd hf (by decide)
    · rintro rfl; exact absurd hf (by decide)
    · rintro ⟨_, q | q⟩
      · subst q; exact absurd hf (by decide)
      · unfold stN at hf
        simp only [Bool.or_eq_true, Bool.and_eq_true, beq_iff_eq, decide_eq_true_eq] at hf
        omega
  obtain ⟨⟨h1, h2, h3, h4, h5, h6, h7, h8, h9, h10⟩, _, hN, hK⟩ := h
  refine ⟨⟨h1, (hd.2.2 0).trans h2, (hd.2.2 1).trans h3, h4, ?_, ?_, ?_, g14.trans h8, h9, fun q => ?_⟩, hT, ⟨fun q => (hN.1 q).ext (xx 0) (fun k => g61 0 k), fun q => ?_⟩, ?_, fun q => ?_⟩
  · have p2 : ∀ k, gI σ' 2 P k = gI σ 2 P k := fun k => gP 2 k (by decide) (by decide) (by decide) (by decide) (by decide) (by decide)
    have p22 : ∀ k, gI σ' 22 P k = gI σ 22 P k := fun k => gP 22 k (by decide) (by decide) (by decide) (by decide) (by decide) (by decide)
    have p25 : ∀ k, gI σ' 25 P k = gI σ 25 P k := fun k => gP 25 k (by decide) (by decide) (by decide) (by decide) (by decide) (by decide)
    have p26 : ∀ k, gI σ' 26 P k = gI σ 26 P k := fun k => gP 26 k (by decide) (by decide) (by decide) (by decide) (by decide) (by decide)
    have p27 : ∀ k, gI σ' 27 P k = gI σ 27 P k := fun k => gP 27 k (by decide) (by decide) (by decide) (by decide) (by decide) (by decide)
    have p28 : ∀ k, gI σ' 28 P k = gI σ 28 P k := fun k => gP 28 k (by decide) (by decide) (by decide) (by decide) (by decide) (by decide)
    have p29 : ∀ k, gI σ' 29 P k = gI σ 29 P k := fun k => gP 29 k (by decide) (by decide) (by decide) (by decide) (by decide) (by decide)
    unfold PX at h5 ⊢
    simp only [p2, p22, p25, p26, p27, p28, p29]
    exact h5
  · unfold PM at h6 ⊢
    simp only [g53, g55, g57]
    exact h6
  · have q23 : ∀ k, gL σ' 23 P k = gL σ 23 P k := fun k => lP 23 k (by decide) (by decide) (by decide)
    have q24 : ∀ k, gL σ' 24 P k = gL σ 24 P k := fun k => lP 24 k (by decide) (by decide) (by decide)
    have q59 : ∀ i k, gL σ' 59 i k = gL σ 59 i k := fun i k => l0 59 i k (by decide) (by decide) (by decide) (by decide) (by decide)
    unfold NmOk at h7 ⊢
    simp only [q23, q24, q59]
    exact h7
  · have q20 : ∀ i k, gL σ' 20 i k = gL σ 20 i k := fun i k => l0 20 i k (by decide) (by decide) (by decide) (by decide) (by decide)
    have q21 : ∀ i k, gL σ' 21 i k = gL σ 21 i k := fun i k => l0 21 i k (by decide) (by decide) (by decide) (by decide) (by decide)
    have := h10 q
    unfold WY UE OW EVn at this ⊢
    simp only [g1, g19, g47, g48, g49, g50, q20, q21]
    exact this
  · have := hN.2 q
    simp only [g3, g40, g61]
    exact this
  · rw [g7_6, g8_27]
    exact hK.1
  · rw [g7_6] at q
    exact ⟨(hK.2 q).1, (hK.2 q).2.ext (xx 1) (fun k => g63 0 k)⟩
theorem WL.ext {σ σ' : Hp} {P : Nat} {p : PD} (h : WL σ P p) (e : ∀ a c, 47 ≤ a → a ≤ 51 → gI σ' a P c = gI σ a P c) : WL σ' P p := by
  have e47 : ∀ c, gI σ' 47 P c = gI σ 47 P c := fun c => e 47 c (by decide) (by decide)
  have e48 : ∀ c, gI σ' 48 P c = gI σ 48 P c := fun c => e 48 c (by decide) (by decide)
  have e49 : ∀ c, gI σ' 49 P c = gI σ 49 P c := fun c => e 49 c (by decide) (by decide)
  have e50 : ∀ c, gI σ' 50 P c = gI σ 50 P c := fun c => e 50 c (by decide) (by decide)
  have e51 : ∀ c, gI σ' 51 P c = gI σ 51 P c := fun c => e 51 c (by decide) (by decide)
  unfold WL UB OW at h ⊢
  simp only [e47, e48, e49, e50, e51]
  exact h
theorem EVn.ext {σ σ' : Hp} {p : PD} (h : EVn σ p) (e1 : gI σ' 1 0 0 = gI σ 1 0 0) (e19 : ∀ c, gI σ' 19 0 c = gI σ 19 0 c) (e20 : ∀ c, gL σ' 20 0 c = gL σ 20 0 c) (e21 : ∀ c, gL σ' 21 0 c = gL σ 21 0 c) : EVn σ' p := by
  unfold EVn at h ⊢
  simp only [e1, e19, e20, e21]
  exact h
theorem WL.wy {σ : Hp} {P : Nat} {p : PD} (h : WL σ P p) (hE : EVn σ p) : WY σ P p := ⟨h.1, h.2.1, ⟨h.2.2.1, h.2.2.2.1, hE⟩, h.2.2.2.2.1⟩
theorem RDc.px {σ : Hp} {P : Nat} {p : PD} {nm : Nat → Int64} (h : RDc σ P p nm 1) : PX σ P p := by
  obtain ⟨h1, h2, h3, h4, h5, h6⟩ := h
  have h3' := h3 rfl
  exact ⟨h3' 0 (by decide), h3' 1 (by decide), h3' 2 (by decide), h3' 3 (by decide), h3' 4 (by decide), h1, h2, fun e he => (h4 e he).1, fun l hl => ⟨(h5 l hl).1, (h5 l hl).2.1, (h5 l hl).2.2.1, (h5 l hl).2.2.2.1⟩, h6⟩
