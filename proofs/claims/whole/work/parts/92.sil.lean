/-! ===== the silent links ===== -/
def L_X7_silent (Q : Int32 → Hp → Prop) (X : Hp → Prop) : Nat → Int32 → Int32 → Hp → Prop
  | 0, _, _, _ => False
  | n + 1, y2, y3, σ =>
  gR σ 0 < 2 ∧ ((gI σ 2 (gR σ 0) 6 ≤ y3 → X σ) ∧ (¬ gI σ 2 (gR σ 0) 6 ≤ y3 → vp_in y3 8 ∧ S_X0_allTook 0 y3 (gI σ 28 (gR σ 0) (ix y3)) σ (fun r σ2 => (¬ r = 0 → L_X7_silent Q X n y2 (y3 + 1) σ2) ∧ (r = 0 → (¬ y2 = 0 → L_X7_silent Q X n (y2 + (-1)) (y3 + 1) σ2) ∧ (y2 = 0 → Q y3 σ2)))))
def S_X7_silent (x1 : Int32) (σ : Hp) (Q : Int32 → Hp → Prop) (X : Hp → Prop) : Prop := ∃ n, L_X7_silent Q X n x1 0 σ
section Sil
variable {n : Nat} {σ : Hp} {p : PD} {P : Nat} {Q : Int32 → Hp → Prop}
/-- a link of which some receiver took nothing -/
def slt (p : PD) (t : Nat → Int32) (l : Nat) : Prop := ∃ i, i < rc p l ∧ t (3 * l + i) = 0
noncomputable def sct (p : PD) (t : Nat → Int32) : Nat → Nat
  | 0 => 0
  | l + 1 => sct p t l + (@ite _ (slt p t l) (Classical.propDecidable _) 1 0)
theorem sct_le (t : Nat → Int32) : ∀ l, sct p t l ≤ l
  | 0 => Nat.le_refl _
  | l + 1 => by
    have := sct_le t l
    unfold sct
    split <;> omega
def hit (p : PD) (t : Nat → Int32) (x : Int32) (l : Nat) : Prop := slt p t l ∧ x = nI (sct p t l)
theorem c_allTook {l : Nat} (h : RQ n σ p P) (hl : l < nL p) (k1 : ¬ slt p (fun k => gI σ 9 0 k) l → Q 1 σ) (k0 : slt p (fun k => gI σ 9 0 k) l → Q 0 σ) : S_X0_allTook 0 (nI l) (nI (rc p l)) σ Q := by
  have h8 := h.nL8
  have hr := (h.V.2.2.2.2.2.2.2.2 l hl).2.2.2.2.2.2.1
  have key : ∀ d i, i + d = rc p l → (∀ j, j < i → gI σ 9 0 (3 * l + j) ≠ 0) → L_X0_allTook_2 Q (fun σ4 => Q 1 σ4) (fun σ5 => Q 0 σ5) 0 (nI l) (nI (rc p l)) (d + 1) (nI i) σ := by
    intro d
    induction d with
    | zero =>
      intro i hi hb
      refine ⟨fun _ => k1 (fun ⟨j, q1, q2⟩ => hb j (by omega) q2), fun q => ?_⟩
      rw [le_nI (by omega) (by omega)] at q
      omega
    | succ d ih =>
      intro i hi hb
      refine ⟨fun q => ?_, fun q => ?_⟩
      · rw [le_nI (by omega) (by omega)] at q
        omega
      · unfold S_X7_earOf
        dsimp only
        rw [show (3 : Int32) = nI 3 from rfl, mul_nI, add_nI, Nat.mul_comm l 3]
        refine ⟨vp_in_nI (by omega) (by decide), ?_⟩
        rw [ix_nI (by omega), show nI i + 1 = nI (i + 1) from nI_1 i]
        refine ⟨fun q2 => ih (i + 1) (by omega) (fun j hj => ?_), fun q2 => k0 ⟨i, by omega, q2⟩⟩
        rcases Nat.lt_or_ge j i with e | e
        · exact hb j e
        · rw [show j = i by omega]
          exact q2
  exact ⟨rc p l + 1, key (rc p l) 0 (by omega) (fun j hj => absurd hj (Nat.not_lt_zero _))⟩
theorem c_silent {x : Int32} {X : Hp → Prop} (h : RQ n σ p P) (kQ : ∀ l, l < nL p → hit p (fun k => gI σ 9 0 k) x l → (∀ m, m < l → ¬ hit p (fun k => gI σ 9 0 k) x m) → Q (nI l) σ) (kX : (∀ l, l < nL p → ¬ hit p (fun k => gI σ 9 0 k) x l) → X σ) : S_X7_silent x σ Q X := by
  have h8 := h.nL8
  have key : ∀ d l, l + d = nL p → (∀ m, m < l → ¬ hit p (fun k => gI σ 9 0 k) x m) → L_X7_silent Q X (d + 1) (x - nI (sct p (fun k => gI σ 9 0 k) l)) (nI l) σ := by
    intro d
    induction d with
    | zero =>
      intro l hl hb
      unfold L_X7_silent
      rw [h.g0, h.X.2.2.2.2.2.2.1]
      refine ⟨h.P2, fun _ => kX (fun m hm => hb m (by omega)), fun q => ?_⟩
      rw [le_nI (by omega) (by omega)] at q
      omega
    | succ d ih =>
      intro l hl hb
      unfold L_X7_silent
      rw [h.g0, h.X.2.2.2.2.2.2.1]
      refine ⟨h.P2, fun q => ?_, fun q => ⟨vp_in_nI (by omega) (by decide), ?_⟩⟩
      · rw [le_nI (by omega) (by omega)] at q
        omega
      · rw [ix_nI (by omega), (h.X.2.2.2.2.2.2.2.2.1 l (by omega)).2.2.2]
        have nx : ∀ s : Bool, True := fun _ => trivial
        refine c_allTook h (by omega) (fun q2 => ⟨fun _ => ?_, fun q3 => absurd q3 (by decide)⟩) (fun q2 => ⟨fun q3 => absurd rfl q3, fun _ => ⟨fun q3 => ?_, fun q3 => ?_⟩⟩)
        · rw [show nI l + 1 = nI (l + 1) from nI_1 l]
          have e : sct p (fun k => gI σ 9 0 k) (l + 1) = sct p (fun k => gI σ 9 0 k) l := by
            show _ + _ = _
            rw [if_neg q2]
            rfl
          rw [← e]
          refine ih (l + 1) (by omega) (fun m hm => ?_)
          rcases Nat.lt_or_ge m l with e2 | e2
          · exact hb m e2
          · rw [show m = l by omega]
            exact fun q => q2 q.1
        · rw [show nI l + 1 = nI (l + 1) from nI_1 l]
          have e : x - nI (sct p (fun k => gI σ 9 0 k) l) + (-1) = x - nI (sct p (fun k => gI σ 9 0 k) (l + 1)) := by
            have e2 : sct p (fun k => gI σ 9 0 k) (l + 1) = sct p (fun k => gI σ 9 0 k) l + 1 := by
              show _ + _ = _
              rw [if_pos q2]
            rw [e2, ← nI_1]
            apply Int32.toBitVec_inj.mp
            simp only [Int32.toBitVec_add, Int32.toBitVec_sub, Int32.toBitVec_neg]
            generalize x.toBitVec = a
            generalize (nI (sct p (fun k => gI σ 9 0 k) l)).toBitVec = b
            generalize Int32.toBitVec 1 = c
            rw [BitVec.sub_eq_add_neg, BitVec.sub_eq_add_neg, BitVec.neg_add, BitVec.sub_eq_add_neg, BitVec.add_assoc]
          rw [e]
          refine ih (l + 1) (by omega) (fun m hm => ?_)
          rcases Nat.lt_or_ge m l with e2 | e2
          · exact hb m e2
          · rw [show m = l by omega]
            rintro ⟨_, q⟩
            exact q3 (by rw [q]; apply Int32.toBitVec_inj.mp; simp)
        · refine kQ l (by omega) ⟨q2, ?_⟩ hb
          have := congrArg (· + nI (sct p (fun k => gI σ 9 0 k) l)) q3
          simp only [Int32.sub_add_cancel, Int32.zero_add] at this
          exact this
  have := key (nL p) 0 (by omega) (fun m hm => absurd hm (Nat.not_lt_zero _))
  rw [show sct p (fun k => gI σ 9 0 k) 0 = 0 from rfl, show nI 0 = 0 from rfl, show x - 0 = x from by apply Int32.toBitVec_inj.mp; simp] at this
  exact ⟨nL p + 1, this⟩
theorem m_isSilent {l : Nat} (h : RQ n σ p P) (hl : l < nL p) (k1 : ¬ slt p (fun k => gI σ 9 0 k) l → Q 0 σ) (k0 : slt p (fun k => gI σ 9 0 k) l → Q 1 σ) : S_X8_isSilent (nI l) σ Q := by
  have h8 := h.nL8
  have hr := (h.V.2.2.2.2.2.2.2.2 l hl).2.2.2.2.2.2.1
  have row : ∀ i, i < 3 → gI σ 9 0 (3 * l + i) = gI σ 61 0 (1329 + 20 * (3 * l + i)) := fun i hi => h.row (by omega) (f := 9) rfl (show _ < 24 by omega) rfl
  have key : ∀ d i, i + d = rc p l → (∀ j, j < i → gI σ 9 0 (3 * l + j) ≠ 0) → L_X8_isSilent_2 Q (fun σ6 => Q 0 σ6) (fun σ7 => Q 1 σ7) (nI l) (d + 1) (nI i) σ := by
    intro d
    induction d with
    | zero =>
      intro i hi hb
      refine m_lnk h hl (j := 3) (by decide) ⟨fun _ => k1 (fun ⟨j, q1, q2⟩ => hb j (by omega) q2), fun q => ?_⟩
      change ¬ nI (rc p l) ≤ nI i at q
      rw [le_nI (by omega) (by omega)] at q
      omega
    | succ d ih =>
      intro i hi hb
      refine m_lnk h hl (j := 3) (by decide) ⟨fun q => ?_, fun q => ?_⟩
      · change nI (rc p l) ≤ nI i at q
        rw [le_nI (by omega) (by omega)] at q
        omega
      · unfold S_X8_hearAt
        dsimp only
        rw [show (3 : Int32) = nI 3 from rfl, show (20 : Int32) = nI 20 from rfl, show (1329 : Int32) = nI 1329 from rfl, show (0 : Int32) = nI 0 from rfl, mul_nI, add_nI, mul_nI, add_nI, add_nI, show nI i + 1 = nI (i + 1) from nI_1 i]
        refine ⟨vp_in_nI (by omega) (by decide), ?_⟩
        rw [ix_nI (by omega), Nat.add_zero, ← row i (by omega)]
        refine ⟨fun q2 => ih (i + 1) (by omega) (fun j hj => ?_), fun q2 => k0 ⟨i, by omega, q2⟩⟩
        rcases Nat.lt_or_ge j i with e | e
        · exact hb j e
        · rw [show j = i by omega]
          exact q2
  exact ⟨rc p l + 1, key (rc p l) 0 (by omega) (fun j hj => absurd hj (Nat.not_lt_zero _))⟩
theorem m_silent {x : Int32} (h : RQ n (sI σ 8 0 0 0) p P) (kQ : ∀ l, l < nL p → hit p (fun k => gI σ 9 0 k) x l → (∀ m, m < l → ¬ hit p (fun k => gI σ 9 0 k) x m) → Q (nI l) (sI σ 8 0 0 0)) (kX : (∀ l, l < nL p → ¬ hit p (fun k => gI σ 9 0 k) x l) → Q 0 (sI (sI σ 8 0 0 0) 8 0 0 1)) : S_X8_silent x σ Q := by
  have h8 := h.nL8
  rintro _ rfl
  generalize hτ : sI σ 8 0 0 0 = τ at h kQ kX ⊢
  have e9 : (fun k => gI σ 9 0 k) = (fun k => gI τ 9 0 k) := by rw [← hτ]; rfl
  rw [e9] at kQ kX
  have key : ∀ d l, l + d = nL p → (∀ m, m < l → ¬ hit p (fun k => gI τ 9 0 k) x m) → L_X8_silent_9 Q (fun σ5 => ∀ σ6, σ6 = sI σ5 8 0 0 1 → Q 0 σ6) (fun w8 σ7 => Q w8 σ7) x (d + 1) (nI (sct p (fun k => gI τ 9 0 k) l)) (nI l) τ := by
    intro d
    induction d with
    | zero =>
      intro l hl hb
      have fin : ∀ σ6, σ6 = sI τ 8 0 0 1 → Q 0 σ6 := by
        rintro _ rfl
        exact kX (fun m hm => hb m (by omega))
      refine ⟨fun _ => fin, fun _ => ⟨vp_in_nI (n := 6) (by decide) (by decide), fun _ => fin, fun q => ?_⟩⟩
      rw [show ix 6 = 6 from rfl, h.M.1 6 (by decide)] at q
      change ¬ nI (nL p) ≤ nI l at q
      rw [le_nI (by omega) (by omega)] at q
      omega
    | succ d ih =>
      intro l hl hb
      refine ⟨fun q => ?_, fun _ => ⟨vp_in_nI (n := 6) (by decide) (by decide), fun q => ?_, fun _ => ?_⟩⟩
      · rw [h.told1 (by omega)] at q
        exact absurd q (by decide)
      · rw [show ix 6 = 6 from rfl, h.M.1 6 (by decide)] at q
        change nI (nL p) ≤ nI l at q
        rw [le_nI (by omega) (by omega)] at q
        omega
      · have sc := sct_le (p := p) (fun k => gI τ 9 0 k) l
        have nxt : ∀ m, m < l + 1 → ¬ hit p (fun k => gI τ 9 0 k) x l → ¬ hit p (fun k => gI τ 9 0 k) x m := by
          intro m hm q
          rcases Nat.lt_or_ge m l with e2 | e2
          · exact hb m e2
          · rw [show m = l by omega]
            exact q
        refine m_isSilent h (by omega) (fun q2 => ⟨fun _ => ?_, fun q3 => absurd rfl q3⟩) (fun q2 => ⟨fun q3 => absurd q3 (by decide), fun _ => ⟨fun q3 => ?_, fun q3 => kQ l (by omega) ⟨q2, q3.symm⟩ hb⟩⟩)
        · unfold J_X8_silent_45
          rw [show nI l + 1 = nI (l + 1) from nI_1 l]
          have e : sct p (fun k => gI τ 9 0 k) (l + 1) = sct p (fun k => gI τ 9 0 k) l := by
            show _ + _ = _
            rw [if_neg q2]
            rfl
          rw [← e]
          exact ih (l + 1) (by omega) (fun m hm => nxt m hm (fun q => q2 q.1))
        · unfold J_X8_silent_45
          have e : sct p (fun k => gI τ 9 0 k) (l + 1) = sct p (fun k => gI τ 9 0 k) l + 1 := by
            show _ + _ = _
            rw [if_pos q2]
          rw [show nI l + 1 = nI (l + 1) from nI_1 l, show nI (sct p (fun k => gI τ 9 0 k) l) + 1 = nI (sct p (fun k => gI τ 9 0 k) l + 1) from nI_1 _, ← e]
          exact ih (l + 1) (by omega) (fun m hm => nxt m hm (fun q => q3 q.2.symm))
  exact ⟨nL p + 1, key (nL p) 0 (by omega) (fun m hm => absurd hm (Nat.not_lt_zero _))⟩
theorem RQ.s64 (h : RQ n σ p P) (v : Int64) : RQ n (sL σ 64 0 0 v) p P := by
  obtain ⟨⟨h1, h2, h3, h4, h5, h6, h7, h8, h9, h10⟩, hT, hN, hK⟩ := h
  have g : ∀ a b c, a ≠ 64 → gL (sL σ 64 0 0 v) a b c = gL σ a b c := fun a b c q => by rw [gL_sL, if_neg (fun z => q z.1)]
  refine ⟨⟨h1, h2, h3, h4, h5, h6, ?_, h8, h9, fun q => ?_⟩, hT, hN, hK⟩
  · unfold NmOk at h7 ⊢
    simp only [g _ _ _ (show 23 ≠ 64 by decide), g _ _ _ (show 24 ≠ 64 by decide), g _ _ _ (show 59 ≠ 64 by decide)]
    exact h7
  · have := h10 q
    unfold WY UE OW EVn at this ⊢
    simp only [g _ _ _ (show 20 ≠ 64 by decide), g _ _ _ (show 21 ≠ 64 by decide)]
    exact this
theorem k_silent {x : Int32} (h : RR n σ) : S_X7_silent x σ (fun r σ1 => S_X8_silent x (sL σ1 64 0 0 r.toInt64) (fun r' σ2 => gI σ2 8 0 0 = 0 ∧ gL σ2 64 0 0 = r'.toInt64 ∧ RR (n + 1) σ2)) (fun σ1 => S_X8_silent x σ1 (fun _ σ2 => gI σ2 8 0 0 = 1 ∧ RR (n + 1) σ2)) := by
  obtain ⟨⟨p, P, hq⟩, hT⟩ := h
  have h8 := hq.nL8
  have st : ∀ τ : Hp, RQ n τ p P → TR τ → ∀ v, RR (n + 1) (sI τ 8 0 0 v) := by
    intro τ h1 h2 v
    refine ⟨⟨p, P, (h1.fr ((Hd.refl τ).s8 (by decide) v)).mono (Nat.le_succ n)⟩, ?_⟩
    unfold TR at h2 ⊢
    simpa [gI_sI] using h2
  refine c_silent hq (fun l hl h1 h2 => ?_) (fun h1 => ?_)
  · refine m_silent (((hq.s64 _).fr ((Hd.refl _).s8 (by decide) 0))) (fun l' hl' g1 g2 => ⟨by simp [gI_sI], ?_, st _ (hq.s64 _) hT 0⟩) (fun g1 => absurd h1 (g1 l hl))
    rw [gL_sI, gL_sL, if_pos ⟨rfl, rfl, rfl⟩]
    rcases Nat.lt_trichotomy l l' with e | e | e
    · exact absurd h1 (g2 l e)
    · rw [e]
    · exact absurd g1 (h2 l' e)
  · refine m_silent (hq.fr ((Hd.refl _).s8 (by decide) 0)) (fun l' hl' g1 g2 => absurd g1 (h1 l' hl')) (fun g1 => ⟨by simp [gI_sI], ?_⟩)
    have := st σ hq hT 0
    refine st (sI σ 8 0 0 0) (hq.fr ((Hd.refl _).s8 (by decide) 0)) ?_ 1
    unfold TR at hT ⊢
    simpa [gI_sI] using hT
end Sil
