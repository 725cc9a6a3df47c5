/-! ===== the heap when the reference has made its answer's cells fresh ===== -/
def prH (c : Int32) (σ : Hp) : Hp := sI (sI (sI (sI σ 7 0 7 c) 8 0 0 0) 8 0 1 0) 8 0 3 (-1)
theorem Hd.prH (c : Int32) (σ : Hp) : Hd σ (prH c σ) := (((((Hd.refl σ).s7 (by decide) c).s8 (by decide) 0).s8 (by decide) 0).s8 (by decide) (-1))
theorem fresh_pre {c : Int32} {σ : Hp} {Q : Hp → Prop} (h : Q (prH c σ)) : S_X8_fresh (sI σ 7 0 7 c) Q := by
  rintro _ rfl _ rfl _ rfl
  exact h
section Getters
variable {n : Nat} {σ : Hp} {p : PD} {P : Nat} {Q : Int32 → Hp → Prop}
theorem RQ.pr (h : RQ n σ p P) (c : Int32) : RQ n (prH c σ) p P := h.fr (Hd.prH c σ)
theorem pre77 (c : Int32) (σ : Hp) : gI (prH c σ) 7 0 7 = c := by simp [prH, gI_sI]
theorem pre81 (c : Int32) (σ : Hp) : gI (prH c σ) 8 0 1 = 0 := by simp [prH, gI_sI]
theorem pre78 (c : Int32) (σ : Hp) : gI (prH c σ) 7 0 8 = gI σ 7 0 8 := by simp [prH, gI_sI]
theorem pre82 (c : Int32) (σ : Hp) : gI (prH c σ) 8 0 2 = gI σ 8 0 2 := by simp [prH, gI_sI]
theorem ref77 (c : Int32) (σ : Hp) : gI (sI (prH c σ) 8 0 1 c) 7 0 7 = c := by simp [prH, gI_sI]
theorem ref81 (c : Int32) (σ : Hp) : gI (sI (prH c σ) 8 0 1 c) 8 0 1 = c := by simp [prH, gI_sI]
theorem ref78 (c : Int32) (σ : Hp) : gI (sI (prH c σ) 8 0 1 c) 7 0 8 = gI σ 7 0 8 := by simp [prH, gI_sI]
theorem ref82 (c : Int32) (σ : Hp) : gI (sI (prH c σ) 8 0 1 c) 8 0 2 = gI σ 8 0 2 := by simp [prH, gI_sI]
theorem z4 : ¬ (0 : Int32) = 4 := by decide
theorem RQ.ans (h : RQ n σ p P) (hT : TR σ) : RR (n + 1) (prH 0 σ) := by
  refine ⟨⟨p, P, (h.pr 0).mono (Nat.le_succ n)⟩, ?_, ?_, fun q => ?_⟩
  · rw [pre77, pre81]
  · rw [pre78, pre82]
    exact hT.2.1
  · rw [pre77] at q
    exact absurd q z4
theorem RQ.ref (h : RQ n σ p P) (hT : TR σ) (c : Int32) (hc : c ≠ 4) : RR (n + 1) (sI (prH c σ) 8 0 1 c) := by
  refine ⟨⟨p, P, (h.fr ((Hd.prH c σ).s8 (by decide) c)).mono (Nat.le_succ n)⟩, ?_, ?_, fun q => ?_⟩
  · rw [ref77, ref81]
  · rw [ref78, ref82]
    exact hT.2.1
  · rw [ref77] at q
    exact absurd q hc
theorem b1 {A B : Prop} (h : B) : ((¬ (1 : Int32) = 0 → B) ∧ ((1 : Int32) = 0 → A)) := ⟨fun _ => h, fun q => absurd q (by decide)⟩
theorem b1' {A B : Prop} (h : B) : (((1 : Int32) = 0 → A) ∧ (¬ (1 : Int32) = 0 → B)) := ⟨fun q => absurd q (by decide), fun _ => h⟩
theorem b0 {A B : Prop} (h : A) : ((¬ (0 : Int32) = 0 → B) ∧ ((0 : Int32) = 0 → A)) := ⟨fun q => absurd rfl q, fun _ => h⟩
theorem b0' {A B : Prop} (h : A) : (((0 : Int32) = 0 → A) ∧ (¬ (0 : Int32) = 0 → B)) := ⟨fun _ => h, fun q => absurd rfl q⟩
theorem RQ.P2 (h : RQ n σ p P) : P < 2 := h.1.1
theorem RQ.g0 (h : RQ n σ p P) : gR σ 0 = P := h.1.2.1
theorem RQ.V (h : RQ n σ p P) : PV p := h.1.2.2.2.1
theorem RQ.X (h : RQ n σ p P) : PX σ P p := h.1.2.2.2.2.1
theorem RQ.M (h : RQ n σ p P) : PM σ p := h.1.2.2.2.2.2.1
theorem RQ.nL8 (h : RQ n σ p P) : nL p ≤ 8 := h.V.2.2.2.2.2.2.1
theorem RQ.nE6 (h : RQ n σ p P) : nE p ≤ 6 := h.V.2.2.2.2.2.1
theorem RQ.told0 (h : RQ n σ p P) (q : nL p = 0) : gI σ 8 0 14 = 0 := by rw [h.1.2.2.2.2.2.2.2.1, if_pos q]
theorem RQ.told1 (h : RQ n σ p P) (q : 0 < nL p) : gI σ 8 0 14 = 1 := by rw [h.1.2.2.2.2.2.2.2.1, if_neg (by omega)]
theorem RQ.none (h : RQ n σ p P) (q : nL p = 0) : nE p = 0 ∧ pSw p = 0 := h.1.2.2.2.2.2.2.2.2.1 q
theorem RQ.W (h : RQ n σ p P) (q : 0 < nL p) : WY σ P p := h.1.2.2.2.2.2.2.2.2.2 q
theorem c_noBus (h : RQ n σ p P) (h0 : 0 < nL p → Q 0 σ) (h1 : nL p = 0 → Q 1 σ) : S_X7_noBus σ Q := by
  unfold S_X7_noBus
  rw [h.g0, h.X.2.2.2.2.2.2.1, show (0 : Int32) = nI 0 from rfl, eq_nI (by have := h.nL8; omega) (by decide)]
  exact ⟨h.P2, fun q => h0 (by omega), fun q => h1 q⟩
theorem c_hasLink {x : Int32} (h : RQ n σ p P) (h1 : ∀ l, l < nL p → x = nI l → Q 1 σ) (h0 : ¬ isN x (nL p) → Q 0 σ) : S_X2_hasLink P x σ Q := by
  unfold S_X2_hasLink
  rw [h.X.2.2.2.2.2.2.1]
  exact rng1 (by have := h.nL8; omega) (fun ⟨l, q1, q2⟩ => h1 l q1 q2) h0
theorem c_hasEnd {x : Int32} (h : RQ n σ p P) (h1 : ∀ l, l < nE p → x = nI l → Q 1 σ) (h0 : ¬ isN x (nE p) → Q 0 σ) : S_X2_hasEnd P x σ Q := by
  unfold S_X2_hasEnd
  rw [h.X.2.2.2.2.2.1]
  exact rng1 (by have := h.nE6; omega) (fun ⟨l, q1, q2⟩ => h1 l q1 q2) h0
def isRec (p : PD) (x y : Int32) : Prop := ∃ l i, l < nL p ∧ i < rc p l ∧ x = nI l ∧ y = nI i
theorem nI_inj31 {a b : Nat} (ha : a < 2 ^ 31) (hb : b < 2 ^ 31) (h : nI a = nI b) : a = b := (nI_eq ha hb).mp h
theorem c_hasRec {x y : Int32} (h : RQ n σ p P) (h1 : ∀ l i, l < nL p → i < rc p l → x = nI l → y = nI i → Q 1 σ) (h0 : ¬ isRec p x y → Q 0 σ) : S_X2_hasReceiver P x y σ Q := by
  unfold S_X2_hasReceiver
  have h8 := h.nL8
  refine c_hasLink h (fun l hl e => b1' ?_) (fun q => b0' (h0 (fun ⟨l, i, a, b, c, d⟩ => q ⟨l, a, c⟩)))
  subst e
  have hr := (h.V.2.2.2.2.2.2.2.2 l hl).2.2.2.2.2.2.1
  rw [ix_nI (by omega), (h.X.2.2.2.2.2.2.2.2.1 l hl).2.2.2, vpin_nI (by omega) (by decide)]
  have := rng1 (x := y) (n := rc p l) (Q0 := Q 0 σ) (Q1 := Q 1 σ) (by omega) (fun ⟨i, a, b⟩ => h1 l i hl a rfl b) (fun q => h0 (fun ⟨l', i, a, b, c, d⟩ => q ⟨i, by rw [nI_inj31 (by omega) (by omega) c]; exact b, d⟩))
  exact ⟨this.1, fun q => ⟨trivial, this.2 q⟩⟩
theorem m_isLink {x : Int32} (h : RQ n σ p P) (h1 : ∀ l, l < nL p → x = nI l → Q 1 σ) (h0 : ¬ isN x (nL p) → Q 0 σ) : S_X8_isLink x σ Q := by
  unfold S_X8_isLink
  rcases Nat.eq_zero_or_pos (nL p) with e | e
  · rw [h.told0 e]
    exact b0' (h0 (fun ⟨l, q, _⟩ => by omega))
  · rw [h.told1 e]
    refine b1' ⟨vp_in_nI (n := 6) (by decide) (by decide), ?_⟩
    rw [show ix 6 = 6 from rfl, h.M.1 6 (by decide)]
    exact rng2 (n := nL p) (by have := h.nL8; omega) (dec_nI (by have := h.nL8; show nL p < _; omega)) (fun ⟨l, q1, q2⟩ => b1' (h1 l q1 q2)) (fun q => b0' (h0 q))
theorem m_isEnd {x : Int32} (h : RQ n σ p P) (h1 : ∀ l, l < nE p → x = nI l → Q 1 σ) (h0 : ¬ isN x (nE p) → Q 0 σ) : S_X8_isEnd x σ Q := by
  unfold S_X8_isEnd
  rcases Nat.eq_zero_or_pos (nL p) with e | e
  · rw [h.told0 e]
    exact b0' (h0 (fun ⟨l, q, _⟩ => by have := (h.none e).1; omega))
  · rw [h.told1 e]
    refine b1' ⟨vp_in_nI (n := 5) (by decide) (by decide), ?_⟩
    rw [show ix 5 = 5 from rfl, h.M.1 5 (by decide)]
    exact rng2 (n := nE p) (by have := h.nE6; omega) (dec_nI (by have := h.nE6; show nE p < _; omega)) (fun ⟨l, q1, q2⟩ => b1' (h1 l q1 q2)) (fun q => b0' (h0 q))
theorem m_lnk {l j : Nat} (h : RQ n σ p P) (hl : l < nL p) (hj : j < 4) (k : Q (nI (p 2 (7 * l + j))) σ) : S_X8_linkOf (nI l) (nI j) σ Q := by
  have h8 := h.nL8
  unfold S_X8_linkOf
  rw [show (7 : Int32) = nI 7 from rfl, mul_nI, add_nI, vpin_nI (by omega) (by decide), ix_nI (by omega), h.M.2.2.1 l hl j hj]
  exact ⟨trivial, k⟩
theorem m_rcv {l i : Nat} (h : RQ n σ p P) (hl : l < nL p) (hi : i < rc p l) (k : Q (nI (re p l i)) σ) : S_X8_receiverOf (nI l) (nI i) σ Q := by
  have h8 := h.nL8
  have hr := (h.V.2.2.2.2.2.2.2.2 l hl).2.2.2.2.2.2.1
  unfold S_X8_receiverOf S_X8_linkOf
  rw [show (7 : Int32) = nI 7 from rfl, show (4 : Int32) = nI 4 from rfl, mul_nI, add_nI, add_nI, ← Nat.add_assoc, vpin_nI (by omega) (by decide), ix_nI (by omega), h.M.2.2.2 l hl i hi]
  exact ⟨trivial, k⟩
theorem m_isRec {x y z : Int32} (h : RQ n σ p P) (hz : ¬ z < 0) (h1 : ∀ l i, l < nL p → i < rc p l → x = nI l → y = nI i → Q 1 σ) (h0 : ¬ isRec p x y → Q 0 σ) : S_X8_isReceiver x y z σ Q := by
  have h8 := h.nL8
  unfold S_X8_isReceiver
  refine m_isLink h (fun l hl e => b1' ?_) (fun q => b0' (h0 (fun ⟨l, i, a, b, c, d⟩ => q ⟨l, a, c⟩)))
  subst e
  have hr := (h.V.2.2.2.2.2.2.2.2 l hl).2.2.2.2.2.2.1
  refine m_lnk (j := 3) h hl (by decide) ?_
  exact rng2 (n := rc p l) (by omega) (dec_nI (by show rc p l < _; omega)) (fun ⟨i, a, b⟩ => b1' ⟨fun q => absurd q hz, fun _ => h1 l i hl a rfl b⟩) (fun q => b0' (h0 (fun ⟨l', i, a, b, c, d⟩ => q ⟨i, by rw [nI_inj31 (by omega) (by omega) c]; exact b, d⟩)))
end Getters
