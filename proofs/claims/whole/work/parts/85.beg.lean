/-! ===== the class begins ===== -/
def FB (σ σ' : Hp) : Prop := (∀ a b c, ¬ (b = 0 ∧ stN a = true) → gI σ' a b c = gI σ a b c) ∧ (∀ a b c, gL σ' a b c = gL σ a b c) ∧ (∀ a, gR σ' a = gR σ a)
theorem FB.refl (σ : Hp) : FB σ σ := ⟨fun _ _ _ _ => rfl, fun _ _ _ => rfl, fun _ => rfl⟩
theorem FB.trans {σ σ' σ'' : Hp} (h : FB σ σ') (h2 : FB σ' σ'') : FB σ σ'' := ⟨fun a b c q => (h2.1 a b c q).trans (h.1 a b c q), fun a b c => (h2.2.1 a b c).trans (h.2.1 a b c), fun a => (h2.2.2 a).trans (h.2.2 a)⟩
theorem FB.s {σ σ' : Hp} (h : FB σ σ') {a : Nat} (ha : stN a = true) (c : Nat) (v : Int32) : FB σ (sI σ' a 0 c v) := by
  refine ⟨fun x y z q => ?_, h.2.1, h.2.2⟩
  rw [gI_sI, if_neg (fun w => q ⟨w.2.1, by rw [w.1]; exact ha⟩)]
  exact h.1 x y z q
theorem FB.f {σ σ' : Hp} (h : FB σ σ') {a : Nat} (ha : stN a = true) (m : Nat) (v : Int32) : FB σ (flH σ' a 0 m v) := by
  refine ⟨fun x y z q => ?_, h.2.1, h.2.2⟩
  rw [g_fl, if_neg (fun w => q ⟨w.2.1, by rw [w.1]; exact ha⟩)]
  exact h.1 x y z q
theorem PX.fb {P : Nat} {σ σ' : Hp} {p : PD} (h : PX σ P p) (hd : FB σ σ') : PX σ' P p := by
  have g : ∀ a c, stN a = false → gI σ' a P c = gI σ a P c := fun a c q => hd.1 a P c (fun w => by rw [q] at w; exact absurd w.2 (by decide))
  unfold PX at h ⊢
  simp only [g 2 _ rfl, g 22 _ rfl, g 25 _ rfl, g 26 _ rfl, g 27 _ rfl, g 28 _ rfl, g 29 _ rfl]
  exact h
theorem al_t : aln 38 = 2 ∧ aln 39 = 6 ∧ aln 40 = 8 ∧ aln 41 = 8 ∧ aln 42 = 8 ∧ aln 43 = 8 ∧ aln 44 = 8 ∧ aln 46 = 16 ∧ aln 30 = 32 ∧ aln 31 = 32 ∧ aln 32 = 32 ∧ aln 33 = 32 := ⟨rfl, rfl, rfl, rfl, rfl, rfl, rfl, rfl, rfl, rfl, rfl, rfl⟩
theorem al_e : aln 9 = 24 ∧ aln 10 = 24 ∧ aln 11 = 24 ∧ aln 12 = 24 ∧ aln 13 = 24 ∧ aln 14 = 24 ∧ aln 15 = 24 ∧ aln 16 = 24 ∧ aln 17 = 48 := ⟨rfl, rfl, rfl, rfl, rfl, rfl, rfl, rfl, rfl⟩
section BeginC
variable {P : Nat} {p : PD} {Q : Hp → Prop}
theorem c_credL {σ : Hp} {K : Hp → Prop} (hV : PV p) (hX : PX σ P p) (hK : ∀ σ', FB σ σ' → (∀ a b c, a ≠ 45 → gI σ' a b c = gI σ a b c) → (∀ l net, l < nL p → net < 2 → gI σ' 45 0 (8 * net + l) = nI (cred p l)) → K σ') : ∃ n, L_X5_beginWith_72 Q K 0 P n 0 σ := by
  have h8 := hV.2.2.2.2.2.2.1
  have go : ∀ n m σ1, m + n = nL p → FB σ σ1 → (∀ a b c, a ≠ 45 → gI σ1 a b c = gI σ a b c) → (∀ l net, l < m → net < 2 → gI σ1 45 0 (8 * net + l) = nI (cred p l)) → L_X5_beginWith_72 Q K 0 P (n + 1) (nI m) σ1 := by
    intro n
    induction n with
    | zero =>
      intro m σ1 hm hF hn hc
      have : m = nL p := by omega
      subst this
      unfold L_X5_beginWith_72
      rw [(hX.fb hF).2.2.2.2.2.2.1, le_nI (by omega) (by omega)]
      exact ⟨fun _ => hK σ1 hF hn hc, fun q => absurd (Nat.le_refl _) q⟩
    | succ n ih =>
      intro m σ1 hm hF hn hc
      have hm' : m < nL p := by omega
      have lim : ∀ σ2 (R : Int32 → Hp → Prop), FB σ σ2 → R (nI (cred p m)) σ2 → S_X2_creditLimit P (nI m) σ2 R := by
        intro σ2 R F2 hR
        have hx := (hX.fb F2).2.2.2.2.2.2.2.2.1 m hm'
        unfold S_X2_creditLimit
        rw [ix_nI (by omega), hx.2.1, hx.2.2.1, (hX.fb F2).2.2.1, add_nI, mul_nI]
        exact ⟨vp_in_nI (by omega) (by decide), vp_in_nI (by omega) (by decide), hR⟩
      unfold L_X5_beginWith_72
      rw [(hX.fb hF).2.2.2.2.2.2.1, le_nI (by omega) (by omega)]
      refine ⟨fun q => by omega, fun _ => lim σ1 _ hF ⟨vp_in_nI (by omega) (by decide), ?_⟩⟩
      rintro _ rfl
      have F1 := hF.s (a := 45) rfl (ix (nI m)) (nI (cred p m))
      refine lim _ _ F1 ?_
      rw [show (8 : Int32) + nI m = nI (8 + m) from add_nI 8 m]
      refine ⟨vp_in_nI (by omega) (by decide), ?_⟩
      rintro _ rfl
      rw [ix_nI (by omega), ix_nI (by omega), show nI m + 1 = nI (m + 1) from add_nI m 1]
      rw [ix_nI (by omega)] at F1
      refine ih (m + 1) _ (by omega) (F1.s rfl _ _) (fun a b c q => ?_) (fun l net hl hnet => ?_)
      · rw [gI_sI, if_neg (fun z => q z.1), gI_sI, if_neg (fun z => q z.1)]
        exact hn a b c q
      · rw [gI_sI]
        by_cases z1 : 8 * net + l = 8 + m
        · rw [if_pos ⟨rfl, rfl, z1⟩, show l = m by omega]
        · rw [if_neg (fun z => z1 z.2.2), gI_sI]
          by_cases z2 : 8 * net + l = m
          · rw [if_pos ⟨rfl, rfl, z2⟩, show l = m by omega]
          · rw [if_neg (fun z => z2 z.2.2)]
            exact hc l net (by omega) hnet
  exact ⟨nL p + 1, go (nL p) 0 σ (by omega) (FB.refl σ) (fun _ _ _ _ => rfl) (fun l net hl => by omega)⟩
theorem c_begin {σ : Hp} (hV : PV p) (hX : PX σ P p) (kk : ∀ σ', FB σ σ' → EX p (xs σ' 0) (s0N p) → (∀ l, l < 8 → gI σ' 40 0 l = 0) → Q σ') : S_X5_beginWith 0 P σ Q := by
  have h8 := hV.2.2.2.2.2.2.1
  unfold S_X5_beginWith
  rintro _ rfl
  refine c_fill (by decide) (c_fill (by decide) (c_fill (by decide) (c_fill (by decide) (c_fill (by decide) (c_fill (by decide) (c_fill (by decide) (c_fill (by decide) ?_)))))))
  have F1 := ((((((((FB.refl σ).s (a := 5) rfl 0 0).f (a := 38) rfl (aln 38) 0).f (a := 39) rfl (aln 39) 0).f (a := 40) rfl (aln 40) 0).f (a := 41) rfl (aln 41) 0).f (a := 42) rfl (aln 42) 0).f (a := 43) rfl (aln 43) 0).f (a := 44) rfl (aln 44) (-2) |>.f (a := 46) rfl (aln 46) 0
  refine c_credL hV (hX.fb F1) (fun σ1 Fc nc cc => ?_)
  have t5 : gI σ1 5 0 0 = 0 := by rw [nc 5 0 0 (by decide)]; simp [g_fl, gI_sI]
  have t38 : ∀ k, k < 2 → gI σ1 38 0 k = 0 := fun k hk => by rw [nc 38 0 k (by decide)]; simp [g_fl, gI_sI, al_t, hk]
  have t39 : ∀ k, k < 6 → gI σ1 39 0 k = 0 := fun k hk => by rw [nc 39 0 k (by decide)]; simp [g_fl, gI_sI, al_t, hk]
  have t40 : ∀ k, k < 8 → gI σ1 40 0 k = 0 := fun k hk => by rw [nc 40 0 k (by decide)]; simp [g_fl, gI_sI, al_t, hk]
  have t41 : ∀ k, k < 8 → gI σ1 41 0 k = 0 := fun k hk => by rw [nc 41 0 k (by decide)]; simp [g_fl, gI_sI, al_t, hk]
  have t42 : ∀ k, k < 8 → gI σ1 42 0 k = 0 := fun k hk => by rw [nc 42 0 k (by decide)]; simp [g_fl, gI_sI, al_t, hk]
  have t43 : ∀ k, k < 8 → gI σ1 43 0 k = 0 := fun k hk => by rw [nc 43 0 k (by decide)]; simp [g_fl, gI_sI, al_t, hk]
  have t44 : ∀ k, k < 8 → gI σ1 44 0 k = -2 := fun k hk => by rw [nc 44 0 k (by decide)]; simp [g_fl, gI_sI, al_t, hk]
  have t46 : ∀ k, k < 16 → gI σ1 46 0 k = 0 := fun k hk => by rw [nc 46 0 k (by decide)]; simp [g_fl, gI_sI, al_t, hk]
  have Fa := F1.trans Fc
  unfold S_X3_clear
  rintro _ rfl
  refine c_fill (by decide) (c_fill (by decide) (c_fill (by decide) (c_fill (by decide) ?_)))
  unfold S_X0_clear
  rintro _ rfl
  refine c_fill (by decide) (c_fill (by decide) (c_fill (by decide) (c_fill (by decide) (c_fill (by decide) (c_fill (by decide) (c_fill (by decide) (c_fill (by decide) (c_fill (by decide) ?_))))))))
  have F2 := ((((Fa.s (a := 3) rfl 0 0).f (a := 30) rfl (aln 30) 0).f (a := 31) rfl (aln 31) 0).f (a := 32) rfl (aln 32) (-2)).f (a := 33) rfl (aln 33) 0
  have F3 := (((((((((F2.s (a := 0) rfl 0 0).f (a := 9) rfl (aln 9) 0).f (a := 10) rfl (aln 10) 0).f (a := 11) rfl (aln 11) 0).f (a := 12) rfl (aln 12) (-2)).f (a := 13) rfl (aln 13) (-2)).f (a := 14) rfl (aln 14) (-2)).f (a := 15) rfl (aln 15) (-2)).f (a := 16) rfl (aln 16) (-2)).f (a := 17) rfl (aln 17) (-2)
  generalize hσ : flH (flH (flH (flH (flH (flH (flH (flH (flH (sI (flH (flH (flH (flH (sI σ1 3 0 0 0) 30 0 (aln 30) 0) 31 0 (aln 31) 0) 32 0 (aln 32) (-2)) 33 0 (aln 33) 0) 0 0 0 0) 9 0 (aln 9) 0) 10 0 (aln 10) 0) 11 0 (aln 11) 0) 12 0 (aln 12) (-2)) 13 0 (aln 13) (-2)) 14 0 (aln 14) (-2)) 15 0 (aln 15) (-2)) 16 0 (aln 16) (-2)) 17 0 (aln 17) (-2) = σ2 at F3 ⊢
  have same : ∀ f k, 37 < f ∨ f = 5 → gI σ2 f 0 k = gI σ1 f 0 k := by
    intro f k hf
    rw [← hσ]
    rw [g_fl, if_neg (by omega), g_fl, if_neg (by omega), g_fl, if_neg (by omega), g_fl, if_neg (by omega), g_fl, if_neg (by omega), g_fl, if_neg (by omega), g_fl, if_neg (by omega), g_fl, if_neg (by omega), g_fl, if_neg (by omega), gI_sI, if_neg (by omega), g_fl, if_neg (by omega), g_fl, if_neg (by omega), g_fl, if_neg (by omega), g_fl, if_neg (by omega), gI_sI, if_neg (by omega)]
  have u0 : gI σ2 0 0 0 = 0 := by rw [← hσ]; simp [g_fl, gI_sI]
  have u3 : gI σ2 3 0 0 = 0 := by rw [← hσ]; simp [g_fl, gI_sI]
  have u30 : ∀ k, k < 32 → gI σ2 30 0 k = 0 := fun k hk => by rw [← hσ]; simp [g_fl, gI_sI, al_t, hk]
  have u31 : ∀ k, k < 32 → gI σ2 31 0 k = 0 := fun k hk => by rw [← hσ]; simp [g_fl, gI_sI, al_t, hk]
  have u32 : ∀ k, k < 32 → gI σ2 32 0 k = -2 := fun k hk => by rw [← hσ]; simp [g_fl, gI_sI, al_t, hk]
  have u33 : ∀ k, k < 32 → gI σ2 33 0 k = 0 := fun k hk => by rw [← hσ]; simp [g_fl, gI_sI, al_t, hk]
  have u9 : ∀ k, k < 24 → gI σ2 9 0 k = 0 := fun k hk => by rw [← hσ]; simp [g_fl, gI_sI, al_e, hk]
  have u10 : ∀ k, k < 24 → gI σ2 10 0 k = 0 := fun k hk => by rw [← hσ]; simp [g_fl, gI_sI, al_e, hk]
  have u11 : ∀ k, k < 24 → gI σ2 11 0 k = 0 := fun k hk => by rw [← hσ]; simp [g_fl, gI_sI, al_e, hk]
  have u12 : ∀ k, k < 24 → gI σ2 12 0 k = -2 := fun k hk => by rw [← hσ]; simp [g_fl, gI_sI, al_e, hk]
  have u13 : ∀ k, k < 24 → gI σ2 13 0 k = -2 := fun k hk => by rw [← hσ]; simp [g_fl, gI_sI, al_e, hk]
  have u14 : ∀ k, k < 24 → gI σ2 14 0 k = -2 := fun k hk => by rw [← hσ]; simp [g_fl, gI_sI, al_e, hk]
  have u15 : ∀ k, k < 24 → gI σ2 15 0 k = -2 := fun k hk => by rw [← hσ]; simp [g_fl, gI_sI, al_e, hk]
  have u16 : ∀ k, k < 24 → gI σ2 16 0 k = -2 := fun k hk => by rw [← hσ]; simp [g_fl, gI_sI, al_e, hk]
  have u17 : ∀ k, k < 48 → gI σ2 17 0 k = -2 := fun k hk => by rw [← hσ]; simp [g_fl, gI_sI, al_e, hk]
  have z0 : ∀ {f k}, f ≠ 32 ∧ f ≠ 44 ∧ f ≠ 45 ∧ (f < 12 ∨ 17 < f) → s0N p f k = 0 := fun h => sQ_z h
  refine kk σ2 F3 ⟨fun f k hf hk => ?_, ?_, fun q hq => ⟨0, by decide, ?_, fun c hc hc2 i hi => ?_⟩, fun e he c hc hc2 k hk hkc => ?_, ?_⟩ (fun l hl => (same 40 l (by omega)).trans (t40 l hl))
  · show gI σ2 f 0 k = s0N p f k
    have hp := plk_pln hf
    have cases : f = 5 ∨ f = 9 ∨ f = 10 ∨ f = 11 ∨ f = 12 ∨ f = 13 ∨ f = 14 ∨ f = 15 ∨ f = 16 ∨ f = 17 ∨ f = 30 ∨ f = 32 ∨ f = 33 ∨ f = 38 ∨ f = 39 ∨ f = 40 ∨ f = 41 ∨ f = 42 ∨ f = 43 ∨ f = 44 ∨ f = 45 ∨ f = 46 := by
      unfold pln at hp
      simp only [Bool.or_eq_true, Bool.and_eq_true, beq_iff_eq, decide_eq_true_eq] at hp
      omega
    rcases cases with q | q | q | q | q | q | q | q | q | q | q | q | q | q | q | q | q | q | q | q | q | q <;> subst q
    · have hk0 : k = 0 := by have : k < 1 := hk; omega
      rw [same 5 k (by omega), z0 (by decide), hk0]; exact t5
    · rw [z0 (by decide)]; exact u9 k hk
    · rw [z0 (by decide)]; exact u10 k hk
    · rw [z0 (by decide)]; exact u11 k hk
    · have hv : k < 3 * nL p := of_decide_eq_true hf
      rw [u12 k hk]; show _ = sQN p _ _ _ 12 k; rw [sQ_e (by decide), if_pos hv]
    · have hv : k < 3 * nL p := of_decide_eq_true hf
      rw [u13 k hk]; show _ = sQN p _ _ _ 13 k; rw [sQ_e (by decide), if_pos hv]
    · have hv : k < 3 * nL p := of_decide_eq_true hf
      rw [u14 k hk]; show _ = sQN p _ _ _ 14 k; rw [sQ_e (by decide), if_pos hv]
    · have hv : k < 3 * nL p := of_decide_eq_true hf
      rw [u15 k hk]; show _ = sQN p _ _ _ 15 k; rw [sQ_e (by decide), if_pos hv]
    · have hv : k < 3 * nL p := of_decide_eq_true hf
      rw [u16 k hk]; show _ = sQN p _ _ _ 16 k; rw [sQ_e (by decide), if_pos hv]
    · have hv : k < 6 * nL p := of_decide_eq_true hf
      rw [u17 k hk]; show _ = sQN p _ _ _ 17 k; rw [sQ_17, if_pos (by omega)]
    · rw [z0 (by decide)]; exact u30 k hk
    · rw [u32 k hk]; show _ = sQN p _ _ _ 32 k; rw [sQ_32, if_pos (show k < 32 from hk)]
    · rw [z0 (by decide)]; exact u33 k hk
    · rw [same 38 k (by omega), z0 (by decide)]; exact t38 k hk
    · rw [same 39 k (by omega), z0 (by decide)]; exact t39 k hk
    · rw [same 40 k (by omega), z0 (by decide)]; exact t40 k hk
    · rw [same 41 k (by omega), z0 (by decide)]; exact t41 k hk
    · rw [same 42 k (by omega), z0 (by decide)]; exact t42 k hk
    · rw [same 43 k (by omega), z0 (by decide)]; exact t43 k hk
    · have hv : k < nL p := of_decide_eq_true hf
      rw [same 44 k (by omega), t44 k hk]; show _ = sQN p _ _ _ 44 k; rw [sQ_44, if_pos hv]
    · have hv : k % 8 < nL p := of_decide_eq_true hf
      have hk16 : k < 16 := hk
      rw [same 45 k (by omega)]; show _ = sQN p _ _ _ 45 k; rw [sQ_45, if_pos hv, ← cc (k % 8) (k / 8) hv (by omega), show 8 * (k / 8) + k % 8 = k by omega]
    · rw [same 46 k (by omega), z0 (by decide)]; exact t46 k hk
  · show gI σ2 0 0 0 = s0N p 0 0
    rw [u0, z0 (by decide)]
  · exact u31 q hq
  · rw [z0 (by decide)] at hc
    have := nI_inj31 (a := 0) (b := c) (by decide) (by omega) hc
    omega
  · rw [z0 (by decide)] at hc
    have := nI_inj31 (a := 0) (b := c) (by decide) (by omega) hc
    omega
  · show gI σ2 3 0 0 = nI (cs (s0N p) 32)
    rw [u3, s0_cs]
    rfl
end BeginC
