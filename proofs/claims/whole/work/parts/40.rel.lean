/-! ===== the relation ===== -/
def NmOk (σ : Hp) (P : Nat) (p : PD) : Prop := (∀ e, e < nE p → gL σ 23 P e = gL σ 59 0 e) ∧ (∀ l, l < nL p → gL σ 24 P l = gL σ 59 0 (6 + l))
/-- the ports' users, and the envelope -/
def UE (σ : Hp) (P : Nat) (p : PD) : Prop := (∀ l pt, l < nL p → pt < 16 → (bitI (gI σ 49 P pt) l ↔ on p l pt)) ∧ (∀ pt, pt < 16 → gI σ 49 P pt = usN p pt (nL p)) ∧ EVn σ p
/-- the ways laid: lengths, ports, users, onward -/
def WY (σ : Hp) (P : Nat) (p : PD) : Prop := (∀ l i, l < nL p → i < rc p l → gI σ 48 P (3 * l + i) = nI (wl p l i)) ∧ (∀ l i k, l < nL p → i < rc p l → k < wl p l i → gI σ 47 P (4 * (3 * l + i) + k) = nI (wp p l i k)) ∧ UE σ P p ∧ OW σ P p
def RP (σ : Hp) (p : PD) (P : Nat) : Prop := P < 2 ∧ gR σ 0 = P ∧ gR σ 1 = 1 - P ∧ PV p ∧ PX σ P p ∧ PM σ p ∧ NmOk σ P p ∧ (gI σ 8 0 14 = if nL p = 0 then 0 else 1) ∧ (nL p = 0 → nE p = 0 ∧ pSw p = 0) ∧ (0 < nL p → WY σ P p)
def RT (σ : Hp) : Prop := ∃ N, N ≤ 900 ∧ gI σ 4 0 1 = nI N ∧ gI σ 8 0 5 = nI N ∧ ∀ k, k < N → ∃ w : Int32, gI σ 37 0 k = vp_nar .byte w.toInt8.toInt32 ∧ gI σ 52 0 k = w &&& 255
def RS (n : Nat) (p : PD) (x : SD) (r : Nat → Int32) : Prop := ∃ s t b, t ≤ 600 * n ∧ b ≤ 19200 * n ∧ Inv p t (fun _ => t + 1) b s ∧ EX p x s ∧ ER r s ∧ (∀ l, nL p ≤ l → l < 8 → s 40 l = 0)
def RN (n : Nat) (σ : Hp) (p : PD) : Prop := (0 < nL p → RS n p (xs σ 0) (fun k => gI σ 61 0 k)) ∧ (nL p = 0 → gI σ 3 0 0 = 0 ∧ (∀ l, l < 8 → gI σ 40 0 l = 0) ∧ (∀ q, q < 32 → gI σ 61 0 (81 + 39 * q) = 0) ∧ (∀ l, l < 8 → gI σ 61 0 (1 + 5 * l) = 0))
def RK (n : Nat) (σ : Hp) (p : PD) : Prop := gI σ 7 0 6 = gI σ 8 0 27 ∧ (¬ gI σ 7 0 6 = 0 → 0 < nL p ∧ RS n p (xs σ 1) (fun k => gI σ 63 0 k))
def RQ (n : Nat) (σ : Hp) (p : PD) (P : Nat) : Prop := RP σ p P ∧ RT σ ∧ RN n σ p ∧ RK n σ p
def R0 (n : Nat) (σ : Hp) : Prop := ∃ p P, RQ n σ p P
def TR (σ : Hp) : Prop := gI σ 7 0 7 = gI σ 8 0 1 ∧ gI σ 7 0 8 = gI σ 8 0 2 ∧ (gI σ 7 0 7 = 4 → gI σ 7 0 9 = gI σ 8 0 3)
def RR (n : Nat) (σ : Hp) : Prop := R0 n σ ∧ TR σ
theorem RS.mono {n m : Nat} {p : PD} {x : SD} {r : Nat → Int32} (h : RS n p x r) (hm : n ≤ m) : RS m p x r := by
  obtain ⟨s, t, b, h1, h2, h3⟩ := h
  exact ⟨s, t, b, by omega, by omega, h3⟩
theorem RQ.mono {n m : Nat} {σ : Hp} {p : PD} {P : Nat} (h : RQ n σ p P) (hm : n ≤ m) : RQ m σ p P := by
  obtain ⟨h1, h2, h3, h4⟩ := h
  exact ⟨h1, h2, ⟨fun q => (h3.1 q).mono hm, h3.2⟩, h4.1, fun q => ⟨(h4.2 q).1, (h4.2 q).2.mono hm⟩⟩
theorem pln_st {f : Nat} (h : pln f = true) : stN f = true := by
  unfold pln at h
  unfold stN
  simp only [Bool.or_eq_true, Bool.and_eq_true, beq_iff_eq, decide_eq_true_eq] at h ⊢
  omega
theorem EX.ext {p : PD} {x x' s : SD} (h : EX p x s) (he : ∀ f k, stN f = true → x' f k = x f k) : EX p x' s := by
  refine ⟨fun f k hf hk => (he f k (pln_st (plk_pln hf))).trans (h.1 f k hf hk), (he 0 0 rfl).trans h.2.1, fun q hq => ?_, fun e he' c hc hc2 k hk hkc => ?_, (he 3 0 rfl).trans h.2.2.2.2⟩
  · obtain ⟨a, a1, a2, a3⟩ := h.2.2.1 q hq
    refine ⟨a, a1, (he 31 q rfl).trans a2, fun c hc hc2 i hi => ?_⟩
    rw [he 34 _ rfl, he 35 _ rfl, he 36 _ rfl]
    exact a3 c hc hc2 i hi
  · rw [he 18 _ rfl]
    exact h.2.2.2.1 e he' c hc hc2 k hk hkc
theorem RS.ext {n : Nat} {p : PD} {x x' : SD} {r r' : Nat → Int32} (h : RS n p x r) (he : ∀ f k, stN f = true → x' f k = x f k) (hr : ∀ k, r' k = r k) : RS n p x' r' := by
  obtain ⟨s, t, b, h1, h2, h3, h4, h5, h6⟩ := h
  exact ⟨s, t, b, h1, h2, h3, h4.ext he, fun f k hk => (hr _).trans (h5 f k hk), h6⟩
/-- two heaps that differ in the answers' cells alone -/
def Hd (σ σ' : Hp) : Prop := (∀ a b c, (a ≠ 7 ∨ c < 7) → (a ≠ 8 ∨ 4 ≤ c) → gI σ' a b c = gI σ a b c) ∧ (∀ a b c, gL σ' a b c = gL σ a b c) ∧ (∀ a, gR σ' a = gR σ a)
theorem Hd.trans {σ σ' σ'' : Hp} (h : Hd σ σ') (h2 : Hd σ' σ'') : Hd σ σ'' := ⟨fun a b c q q2 => (h2.1 a b c q q2).trans (h.1 a b c q q2), fun a b c => (h2.2.1 a b c).trans (h.2.1 a b c), fun a => (h2.2.2 a).trans (h.2.2 a)⟩
theorem Hd.refl (σ : Hp) : Hd σ σ := ⟨fun _ _ _ _ _ => rfl, fun _ _ _ => rfl, fun _ => rfl⟩
theorem Hd.s7 {σ σ' : Hp} (h : Hd σ σ') {c : Nat} (hc : 7 ≤ c) (v : Int32) : Hd σ (sI σ' 7 0 c v) := by
  refine ⟨fun a b k q q2 => ?_, fun a b k => h.2.1 a b k, fun a => h.2.2 a⟩
  rw [gI_sI, if_neg (by omega)]
  exact h.1 a b k q q2
theorem Hd.s8 {σ σ' : Hp} (h : Hd σ σ') {c : Nat} (hc : c < 4) (v : Int32) : Hd σ (sI σ' 8 0 c v) := by
  refine ⟨fun a b k q q2 => ?_, fun a b k => h.2.1 a b k, fun a => h.2.2 a⟩
  rw [gI_sI, if_neg (by omega)]
  exact h.1 a b k q q2
theorem stN_78 {f : Nat} (h : stN f = true) : f ≠ 7 ∧ f ≠ 8 := ⟨fun e => (by subst e; exact absurd h (by decide)), fun e => (by subst e; exact absurd h (by decide))⟩
theorem RQ.fr {n : Nat} {σ σ' : Hp} {p : PD} {P : Nat} (h : RQ n σ p P) (hd : Hd σ σ') : RQ n σ' p P := by
  have g1 : ∀ i k, gI σ' 1 i k = gI σ 1 i k := fun i k => hd.1 1 i k (Or.inl (by decide)) (Or.inl (by decide))
  have g2 : ∀ i k, gI σ' 2 i k = gI σ 2 i k := fun i k => hd.1 2 i k (Or.inl (by decide)) (Or.inl (by decide))
  have g3 : ∀ i k, gI σ' 3 i k = gI σ 3 i k := fun i k => hd.1 3 i k (Or.inl (by decide)) (Or.inl (by decide))
  have g4 : ∀ i k, gI σ' 4 i k = gI σ 4 i k := fun i k => hd.1 4 i k (Or.inl (by decide)) (Or.inl (by decide))
  have g19 : ∀ i k, gI σ' 19 i k = gI σ 19 i k := fun i k => hd.1 19 i k (Or.inl (by decide)) (Or.inl (by decide))
  have g22 : ∀ i k, gI σ' 22 i k = gI σ 22 i k := fun i k => hd.1 22 i k (Or.inl (by decide)) (Or.inl (by decide))
  have g25 : ∀ i k, gI σ' 25 i k = gI σ 25 i k := fun i k => hd.1 25 i k (Or.inl (by decide)) (Or.inl (by decide))
  have g26 : ∀ i k, gI σ' 26 i k = gI σ 26 i k := fun i k => hd.1 26 i k (Or.inl (by decide)) (Or.inl (by decide))
  have g27 : ∀ i k, gI σ' 27 i k = gI σ 27 i k := fun i k => hd.1 27 i k (Or.inl (by decide)) (Or.inl (by decide))
  have g28 : ∀ i k, gI σ' 28 i k = gI σ 28 i k := fun i k => hd.1 28 i k (Or.inl (by decide)) (Or.inl (by decide))
  have g29 : ∀ i k, gI σ' 29 i k = gI σ 29 i k := fun i k => hd.1 29 i k (Or.inl (by decide)) (Or.inl (by decide))
  have g37 : ∀ i k, gI σ' 37 i k = gI σ 37 i k := fun i k => hd.1 37 i k (Or.inl (by decide)) (Or.inl (by decide))
  have g40 : ∀ i k, gI σ' 40 i k = gI σ 40 i k := fun i k => hd.1 40 i k (Or.inl (by decide)) (Or.inl (by decide))
  have g47 : ∀ i k, gI σ' 47 i k = gI σ 47 i k := fun i k => hd.1 47 i k (Or.inl (by decide)) (Or.inl (by decide))
  have g48 : ∀ i k, gI σ' 48 i k = gI σ 48 i k := fun i k => hd.1 48 i k (Or.inl (by decide)) (Or.inl (by decide))
  have g49 : ∀ i k, gI σ' 49 i k = gI σ 49 i k := fun i k => hd.1 49 i k (Or.inl (by decide)) (Or.inl (by decide))
  have g50 : ∀ i k, gI σ' 50 i k = gI σ 50 i k := fun i k => hd.1 50 i k (Or.inl (by decide)) (Or.inl (by decide))
  have g51 : ∀ i k, gI σ' 51 i k = gI σ 51 i k := fun i k => hd.1 51 i k (Or.inl (by decide)) (Or.inl (by decide))
  have g52 : ∀ i k, gI σ' 52 i k = gI σ 52 i k := fun i k => hd.1 52 i k (Or.inl (by decide)) (Or.inl (by decide))
  have g53 : ∀ i k, gI σ' 53 i k = gI σ 53 i k := fun i k => hd.1 53 i k (Or.inl (by decide)) (Or.inl (by decide))
  have g55 : ∀ i k, gI σ' 55 i k = gI σ 55 i k := fun i k => hd.1 55 i k (Or.inl (by decide)) (Or.inl (by decide))
  have g57 : ∀ i k, gI σ' 57 i k = gI σ 57 i k := fun i k => hd.1 57 i k (Or.inl (by decide)) (Or.inl (by decide))
  have g61 : ∀ i k, gI σ' 61 i k = gI σ 61 i k := fun i k => hd.1 61 i k (Or.inl (by decide)) (Or.inl (by decide))
  have g63 : ∀ i k, gI σ' 63 i k = gI σ 63 i k := fun i k => hd.1 63 i k (Or.inl (by decide)) (Or.inl (by decide))
  have g14 : gI σ' 8 0 14 = gI σ 8 0 14 := hd.1 8 0 14 (Or.inl (by decide)) (Or.inr (by decide))
  have g8_5 : gI σ' 8 0 5 = gI σ 8 0 5 := hd.1 8 0 5 (Or.inl (by decide)) (Or.inr (by decide))
  have g8_27 : gI σ' 8 0 27 = gI σ 8 0 27 := hd.1 8 0 27 (Or.inl (by decide)) (Or.inr (by decide))
  have g7_6 : gI σ' 7 0 6 = gI σ 7 0 6 := hd.1 7 0 6 (Or.inr (by decide)) (Or.inl (by decide))
  have xx : ∀ S f k, stN f = true → xs σ' S f k = xs σ S f k := fun S f k hf => hd.1 f S k (Or.inl (stN_78 hf).1) (Or.inl (stN_78 hf).2)
  obtain ⟨⟨h1, h2, h3, h4, h5, h6, h7, h8, h9, h10⟩, hT, hN, hK⟩ := h
  refine ⟨⟨h1, (hd.2.2 0).trans h2, (hd.2.2 1).trans h3, h4, ?_, ?_, ?_, g14.trans h8, h9, fun q => ?_⟩, ?_, ⟨fun q => (hN.1 q).ext (xx 0) (fun k => g61 0 k), fun q => ?_⟩, ?_, fun q => ?_⟩
  · unfold PX at h5 ⊢
    simp only [g2, g22, g25, g26, g27, g28, g29]
    exact h5
  · unfold PM at h6 ⊢
    simp only [g53, g55, g57]
    exact h6
  · unfold NmOk at h7 ⊢
    simp only [hd.2.1]
    exact h7
  · have := h10 q
    unfold WY UE OW EVn at this ⊢
    simp only [g1, g19, g47, g48, g49, g50, hd.2.1]
    exact this
  · unfold RT at hT ⊢
    simp only [g4, g8_5, g37, g52]
    exact hT
  · have := hN.2 q
    simp only [g3, g40, g61]
    exact this
  · rw [g7_6, g8_27]
    exact hK.1
  · rw [g7_6] at q
    exact ⟨(hK.2 q).1, (hK.2 q).2.ext (xx 1) (fun k => g63 0 k)⟩
/-! ===== arguments: in range or not ===== -/
def isN (x : Int32) (n : Nat) : Prop := ∃ l, l < n ∧ x = nI l
theorem isN_of {x : Int32} {n : Nat} (hn : n < 2 ^ 31) (h0 : ¬ x < 0) (h1 : x < nI n) : isN x n := by
  rw [Int32.lt_iff_toInt_lt] at h0 h1
  rw [nI_toInt hn] at h1
  have h2 : (0 : Int32).toInt = 0 := rfl
  rw [h2] at h0
  refine ⟨x.toInt.toNat, by omega, ?_⟩
  apply Int32.toInt_inj.mp
  rw [nI_toInt (by omega)]
  omega
theorem isN_lt {x : Int32} {n : Nat} (hn : n < 2 ^ 31) (h : isN x n) : ¬ x < 0 ∧ x < nI n := by
  obtain ⟨l, h1, rfl⟩ := h
  have h2 : (0 : Int32).toInt = 0 := rfl
  refine ⟨fun q => ?_, ?_⟩
  · rw [Int32.lt_iff_toInt_lt, nI_toInt (by omega), h2] at q
    omega
  · rw [Int32.lt_iff_toInt_lt, nI_toInt (by omega), nI_toInt hn]
    omega
theorem not_le_lt {a b : Int32} : ¬ a ≤ b ↔ b < a := by
  rw [Int32.le_iff_toInt_le, Int32.lt_iff_toInt_lt]
  omega
/-- the class's test 0 ≤ x < n -/
theorem rng1 {Q0 Q1 : Prop} {x : Int32} {n : Nat} (hn : n < 2 ^ 31) (h1 : isN x n → Q1) (h0 : ¬ isN x n → Q0) : ((x < 0 → Q0) ∧ (¬ x < 0 → ((nI n ≤ x → Q0) ∧ (¬ nI n ≤ x → Q1)))) :=
  ⟨fun q => h0 (fun i => (isN_lt hn i).1 q), fun q => ⟨fun q2 => h0 (fun i => not_le_lt.mpr (isN_lt hn i).2 q2), fun q2 => h1 (isN_of hn q (not_le_lt.mp q2))⟩⟩
theorem dec_nI {n : Nat} (hn : n < 2 ^ 31) : (nI n - 1).toInt = (n : Int) - 1 := by
  rcases Nat.eq_zero_or_pos n with e | e
  · subst e
    rfl
  · rw [show (1 : Int32) = nI 1 from rfl, sub_nI e, nI_toInt (by omega)]
    omega
/-- the reference's test 0 ≤ x ≤ n - 1 -/
theorem rng2 {Q : Int32 → Hp → Prop} {σ : Hp} {x y : Int32} {n : Nat} (hn : n < 2 ^ 31) (hy : y.toInt = (n : Int) - 1) (h1 : isN x n → Q 1 σ) (h0 : ¬ isN x n → Q 0 σ) : S_X8_in x 0 y σ Q := by
  refine ⟨fun q => h0 (fun i => (isN_lt hn i).1 q), fun q => ⟨fun q2 => h0 (fun i => ?_), fun q2 => h1 (isN_of hn q ?_)⟩⟩
  · have := (isN_lt hn i).2
    rw [Int32.lt_iff_toInt_lt] at this q2
    rw [nI_toInt hn] at this
    omega
  · rw [Int32.lt_iff_toInt_lt] at q2 ⊢
    rw [nI_toInt hn]
    omega
