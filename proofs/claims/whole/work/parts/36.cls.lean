def growP (p : PD) (n m : Nat) (s : SD) : SD := fun f k => if f = 45 ∧ k < 16 ∧ k % 8 < m then crN p n s k else s f k
theorem growP_at (p : PD) (n m : Nat) (s : SD) (f k : Nat) : growP p n m s f k = if f = 45 ∧ k < 16 ∧ k % 8 < m then crN p n s k else s f k := rfl
theorem growP_0 (p : PD) (n : Nat) (s : SD) : growP p n 0 s = s := by
  funext f k
  rw [growP_at, if_neg (by omega)]
theorem growP_step {p : PD} {n m : Nat} {s : SD} (hm : m < 8) : u (u (growP p n m s) 45 m (crN p n s m)) 45 (8 + m) (crN p n s (8 + m)) = growP p n (m + 1) s := by
  funext f k
  rw [u_at, u_at, growP_at, growP_at]
  by_cases h1 : f = 45 ∧ k = 8 + m
  · rw [if_pos h1, if_pos ⟨h1.1, by omega, by omega⟩, h1.2]
  · rw [if_neg h1]
    by_cases h0 : f = 45 ∧ k = m
    · rw [if_pos h0, if_pos ⟨h0.1, by omega, by omega⟩, h0.2]
    · rw [if_neg h0]
      by_cases h2 : f = 45 ∧ k < 16 ∧ k % 8 < m
      · rw [if_pos h2, if_pos ⟨h2.1, h2.2.1, by omega⟩]
      · rw [if_neg h2, if_neg (by omega)]
section ClsOps5
variable {σ : Hp} {p : PD} {S P : Nat} {x s : SD}
theorem c_grow {n : Nat} {Q : Hp → Prop} (hV : PV p) (hX : PX σ P p) (hE : EX p x s) (hK : ∀ x', EX p x' (growP p n (nL p) s) → Q (stX σ S x')) : S_X5_growCredit S P (nI n) (stX σ S x) Q := by
  have hL := hV.2.2.2.2.2.2.1
  unfold S_X5_growCredit
  refine pk_loop (fun m j σ' => L_X5_growCredit_2 Q _ S P (nI n) m (nI j) σ') (fun j σ' => ∃ x', σ' = stX σ S x' ∧ EX p x' (growP p n j s)) (nL p) 0 _ (Nat.zero_le _) ⟨x, rfl, by rw [growP_0]; exact hE⟩ ?_ ?_
  · rintro m σ' ⟨x', rfl, hE'⟩
    unfold L_X5_growCredit_2
    rw [gX2, hX.2.2.2.2.2.2.1]
    exact ⟨fun _ => hK x' hE', fun q => absurd (nI_le (Nat.le_refl _) (by omega)) q⟩
  · rintro m j σ' hj ⟨x', rfl, hE'⟩ ih
    have hj8 : j < 8 := by omega
    obtain ⟨p1, p2, p3, p4⟩ := hX.2.2.2.2.2.2.2.2.1 j hj
    have iv8 : vp_in (nI j) 8 := vp_in_nI hj8 (by decide)
    have iv16 : vp_in (nI j) 16 := vp_in_nI (by omega) (by decide)
    have e8 : (8 : Int32) + nI j = nI (8 + j) := add_nI 8 j
    have iv17 : vp_in (nI (8 + j)) 16 := vp_in_nI (by omega) (by decide)
    have w0 : x' 45 j = s 45 j := by
      rw [hE'.1 45 j (lv45 (by have := hV.2.2.2.2.2.2.1; omega)) (by show j < 16; omega), growP_at, if_neg (by omega)]
    have w1 : x' 45 (8 + j) = s 45 (8 + j) := by
      rw [hE'.1 45 (8 + j) (lv45 (by have := hV.2.2.2.2.2.2.1; omega)) (by show 8 + j < 16; omega), growP_at, if_neg (by omega)]
    have ec : nI (ln p j) * (nI (gp p j) + nI (pJit p)) = nI (cred p j) := by rw [add_nI, mul_nI]; rfl
    unfold L_X5_growCredit_2 S_X2_creditLimit
    rw [gX2, hX.2.2.2.2.2.2.1, e8, ix_nI (by omega), ix_nI (by omega), gX27, p3, gX26, p2, gX2, hX.2.2.1, ec]
    refine ⟨fun q => absurd q (nI_ge hj (by omega)), fun _ => ⟨iv8, iv8, iv8, iv16, iv16, fun σ3 e3 => ⟨iv17, iv17, fun σ4 e4 => ?_⟩⟩⟩
    rw [gX45, w0, sX45] at e3
    subst e3
    rw [gX45, u_nk _ _ (by omega), w1, sX45] at e4
    subst e4
    rw [nI_1]
    refine ih _ ⟨_, rfl, ?_⟩
    rw [← growP_step hj8]
    have c0 : (if s 45 j + nI (ln p j) * nI n < nI (cred p j) then s 45 j + nI (ln p j) * nI n else nI (cred p j)) = crN p n s j := by
      unfold crN
      rw [show j % 8 = j by omega]
    have c1 : (if s 45 (8 + j) + nI (ln p j) * nI n < nI (cred p j) then s 45 (8 + j) + nI (ln p j) * nI n else nI (cred p j)) = crN p n s (8 + j) := by
      unfold crN
      rw [show (8 + j) % 8 = j by omega]
    rw [c0, c1]
    exact (hE'.set (f := 45) rfl (by decide) (by decide) _ _).set (f := 45) rfl (by decide) (by decide) _ _
/-- how far the next change is -/
def NxB (p : PD) (s : SD) (t v : Nat) : Prop := (∀ q, q < 32 → s 30 q = 0 ∨ (s 32 q = -2 ∧ v ≤ t + 1) ∨ ∃ d, v ≤ d ∧ d < 2 ^ 31 ∧ s 32 q = nI d) ∧ (∀ l, l < nL p → s 40 l ≤ 0 ∨ ∃ n, v ≤ n ∧ n < 2 ^ 31 ∧ s 41 l = nI n)
theorem min_nI {a b : Nat} (ha : a < 2 ^ 31) (hb : b < 2 ^ 31) : (if nI a < nI b then nI a else nI b) = nI (if a < b then a else b) := by
  by_cases h : a < b
  · rw [if_pos h, if_pos (by rw [lt_nI ha hb]; exact h)]
  · rw [if_neg h, if_neg (by rw [lt_nI ha hb]; exact h)]
theorem c_next {t b e : Nat} {Q : Int32 → Hp → Prop} (hV : PV p) (hX : PX σ P p) (ht : t < 2 ^ 30) (he : e < 2 ^ 30) (hI : Inv p t (fun _ => t + 1) b s) (hE : EX p x s) (hK : ∀ v, v ≤ e → NxB p s t v → Q (nI v) (stX σ S x)) : S_X5_nextChange S P (nI e) (stX σ S x) Q := by
  have hL := hV.2.2.2.2.2.2.1
  have hr12 := hV.2.1
  have v5 : x 5 0 = nI t := (hE.1 5 0 rfl (by decide)).trans hI.1
  unfold S_X5_nextChange S_X3_nextChange
  rw [gX5, v5]
  -- the ports
  have ports : ∀ K : Int32 → Hp → Prop, (∀ v, v ≤ e → (∀ q, q < 32 → s 30 q = 0 ∨ (s 32 q = -2 ∧ v ≤ t + 1) ∨ ∃ d, v ≤ d ∧ d < 2 ^ 31 ∧ s 32 q = nI d) → K (nI v) (stX σ S x)) → ∀ (Q' : Int32 → Hp → Prop), ∃ m, L_X3_nextChange_5 Q' K S (nI t) m (nI e) (nI 0) (stX σ S x) := by
    intro K hk Q'
    refine pk_loop (fun m j (a : Int32 × Hp) => L_X3_nextChange_5 Q' K S (nI t) m a.1 (nI j) a.2) (fun j a => ∃ v, v ≤ e ∧ a = (nI v, stX σ S x) ∧ ∀ q, q < j → s 30 q = 0 ∨ (s 32 q = -2 ∧ v ≤ t + 1) ∨ ∃ d, v ≤ d ∧ d < 2 ^ 31 ∧ s 32 q = nI d) 32 0 (nI e, stX σ S x) (Nat.zero_le _) ⟨e, Nat.le_refl e, rfl, fun q hq => absurd hq (Nat.not_lt_zero _)⟩ ?_ ?_
    · rintro m _ ⟨v, v1, rfl, v2⟩
      unfold L_X3_nextChange_5
      exact ⟨fun _ => hk v v1 v2, fun q => absurd (by decide) q⟩
    · rintro m j _ hj ⟨v, v1, rfl, v2⟩ ih
      obtain ⟨c, h1, h2, h3, h4⟩ := hI.2.1 j hj
      have w30 : x 30 j = nI c := (hE.1 30 j rfl hj).trans h2
      have w32 : x 32 j = s 32 j := hE.1 32 j rfl hj
      have ivj : vp_in (nI j) 32 := vp_in_nI hj (by decide)
      have ih2 : ∀ v', v' ≤ v → (s 30 j = 0 ∨ (s 32 j = -2 ∧ v' ≤ t + 1) ∨ ∃ d, v' ≤ d ∧ d < 2 ^ 31 ∧ s 32 j = nI d) → L_X3_nextChange_5 Q' K S (nI t) m (nI v') (nI j + 1) (stX σ S x) := by
        intro v' hv hx
        rw [nI_1]
        refine ih (nI v', stX σ S x) ⟨v', by omega, rfl, fun q hq => ?_⟩
        rcases Nat.lt_or_ge q j with z | z
        · rcases v2 q z with y | y | ⟨d, d1, d2⟩
          · exact Or.inl y
          · exact Or.inr (Or.inl ⟨y.1, by omega⟩)
          · exact Or.inr (Or.inr ⟨d, by omega, d2⟩)
        · rw [show q = j by omega]; exact hx
      show L_X3_nextChange_5 Q' K S (nI t) (m + 1) (nI v) (nI j) (stX σ S x)
      unfold L_X3_nextChange_5 S_X3_sends
      rw [ix_nI (by omega), gX30, w30, gX32, w32]
      refine ⟨fun q => absurd q (nI_ge (b := 32) hj (by decide)), fun _ => ⟨ivj, fun q => ?_, fun q => ⟨ivj, fun q2 => ⟨fun _ => ?_, fun y => absurd rfl y⟩, fun q2 => ⟨fun y => absurd y (by decide), fun _ => ⟨ivj, ?_⟩⟩⟩⟩⟩
      · refine ih2 v (Nat.le_refl v) (Or.inl ?_)
        rw [show (0 : Int32) = nI 0 from rfl, le_nI (by omega) (by omega)] at q
        rw [h2, show c = 0 by omega]; rfl
      · unfold J_X3_nextChange_45
        rw [show nI t + 1 = nI (t + 1) from nI_1 t, min_nI (by omega) (by omega)]
        refine ih2 _ ?_ (Or.inr (Or.inl ⟨q2, ?_⟩))
        · split <;> omega
        · split <;> omega
      · rcases h4 with y | ⟨-, d, d1, d2, d3⟩
        · exact absurd y q2
        · unfold J_X3_nextChange_45
          rw [gX32, w32, d3, min_nI (by omega) (by omega)]
          refine ih2 _ ?_ (Or.inr (Or.inr ⟨d, ?_, by omega, d3⟩))
          · split <;> omega
          · split <;> omega
  refine ports _ (fun v v1 v2 => ?_) _
  refine pk_loop (fun m j (a : Int32 × Hp) => L_X5_nextChange_16 Q (fun w5 σ4 => Q w5 σ4) S P m a.1 (nI j) a.2) (fun j a => ∃ v', v' ≤ v ∧ a = (nI v', stX σ S x) ∧ ∀ l, l < j → s 40 l ≤ 0 ∨ ∃ n, v' ≤ n ∧ n < 2 ^ 31 ∧ s 41 l = nI n) (nL p) 0 (nI v, stX σ S x) (Nat.zero_le _) ⟨v, Nat.le_refl v, rfl, fun q hq => absurd hq (Nat.not_lt_zero _)⟩ ?_ ?_
  · rintro m _ ⟨v', v3, rfl, v4⟩
    show L_X5_nextChange_16 Q (fun w5 σ4 => Q w5 σ4) S P (m + 1) (nI v') (nI (nL p)) (stX σ S x)
    unfold L_X5_nextChange_16
    rw [gX2, hX.2.2.2.2.2.2.1]
    refine ⟨fun _ => hK v' (by omega) ⟨fun q hq => ?_, v4⟩, fun q => absurd (nI_le (Nat.le_refl _) (by omega)) q⟩
    rcases v2 q hq with y | y | ⟨d, d1, d2⟩
    · exact Or.inl y
    · exact Or.inr (Or.inl ⟨y.1, by omega⟩)
    · exact Or.inr (Or.inr ⟨d, by omega, d2⟩)
  · rintro m j _ hj ⟨v', v3, rfl, v4⟩ ih
    obtain ⟨⟨w, w1, w2⟩, ⟨nn, n1, n2⟩, -⟩ := hI.2.2.1 j hj
    have w40 : x 40 j = s 40 j := hE.1 40 j rfl (by show j < 8; omega)
    have w41 : x 41 j = nI nn := (hE.1 41 j rfl (by show j < 8; omega)).trans n2
    have ivj : vp_in (nI j) 8 := vp_in_nI (by omega) (by decide)
    have ih2 : ∀ v2, v2 ≤ v' → (s 40 j ≤ 0 ∨ ∃ n, v2 ≤ n ∧ n < 2 ^ 31 ∧ s 41 j = nI n) → L_X5_nextChange_16 Q (fun w5 σ4 => Q w5 σ4) S P m (nI v2) (nI j + 1) (stX σ S x) := by
      intro v2 hv hx
      rw [nI_1]
      refine ih (nI v2, stX σ S x) ⟨v2, by omega, rfl, fun q hq => ?_⟩
      rcases Nat.lt_or_ge q j with z | z
      · rcases v4 q z with y | ⟨d, d1, d2⟩
        · exact Or.inl y
        · exact Or.inr ⟨d, by omega, d2⟩
      · rw [show q = j by omega]; exact hx
    show L_X5_nextChange_16 Q (fun w5 σ4 => Q w5 σ4) S P (m + 1) (nI v') (nI j) (stX σ S x)
    unfold L_X5_nextChange_16
    rw [gX2, hX.2.2.2.2.2.2.1, ix_nI (by omega), gX40, w40, gX41, w41, min_nI (by omega) (by omega)]
    refine ⟨fun q => absurd q (nI_ge hj (by omega)), fun _ => ⟨ivj, fun q => ih2 v' (Nat.le_refl _) (Or.inl q), fun q => ⟨ivj, ih2 _ (by split <;> omega) (Or.inr ⟨nn, by split <;> omega, by omega, n2⟩)⟩⟩⟩
theorem c_step {t b e : Nat} {Q : Hp → Prop} (hV : PV p) (hX : PX σ P p) (hO : OW σ P p) (ht : t < e) (he : e < 2 ^ 29) (he2 : e < t + 3000) (hb : b + 32 * 4000 < 2 ^ 31) (hI : Inv p t (fun _ => t + 1) b s) (hE : EX p x s) (hK : ∀ m x', 1 ≤ m → t + m ≤ e → (∀ j, j < m → ∀ f k, f = 30 ∨ f = 40 → tN p j s f k = s f k) → EX p x' (tN p m s) → Q (stX σ S x')) : S_X5_step S P (nI e) (stX σ S x) Q := by
  have hL := hV.2.2.2.2.2.2.1
  have v5 : x 5 0 = nI t := (hE.1 5 0 rfl (by decide)).trans hI.1
  unfold S_X5_step
  refine c_next hV hX (by omega) (by omega) hI hE (fun v v1 v2 => ?_)
  rw [gX5, v5]
  -- the work of one tick, when n - 1 still ones are passed over
  have work : ∀ (n : Nat) (x1 s1 : SD), 1 ≤ n → t + n ≤ e → tN p (n - 1) s = qs p (n - 1) s → (∀ j, j < n → ∀ f k, f = 30 ∨ f = 40 → tN p j s f k = s f k) → EX p x1 s1 → (∀ f k, growP p n (nL p) (u s1 5 0 (s1 5 0 + nI n)) f k = if f = 5 ∧ k = 0 then s 5 0 + nI (n - 1 + 1) else if f = 45 ∧ k < 16 ∧ k % 8 < nL p then crN p (n - 1 + 1) s k else if f = 33 ∧ k < 32 ∧ 0 < n - 1 then noteV s k else s f k) → J_X5_step_28 Q S P (nI n) (stX σ S x1) := by
    intro n x1 s1 hn hne hq hst hE1 hg
    have hs : growP p n (nL p) (u s1 5 0 (s1 5 0 + nI n)) = tGrow p (u (tN p (n - 1) s) 5 0 (tN p (n - 1) s 5 0 + 1)) := by
      funext f k
      rw [hg, hq, qs_grow hV (by omega) (by omega) hI]
    have hI1 := inv_tN hV hI (n - 1) (by omega)
    have hI2 := inv_time hI1
    have hI3 := inv_grow hV hI2 (nL p) (Nat.le_refl _)
    have hI4 : Inv p (t + (n - 1) + 1) (fun _ => t + (n - 1) + 1 + 1) (b + 32 * (n - 1) + 32) (tDeliver p (tGrow p (u (tN p (n - 1) s) 5 0 (tN p (n - 1) s 5 0 + 1)))) := (inv_deliver hV (by omega) hI3 32 (Nat.le_refl _)).mono (fun q hq => by rw [if_pos hq]; exact Nat.le_refl _) (Nat.le_refl _)
    have hI5 := inv_release hV hI4 (nL p) (Nat.le_refl _)
    unfold J_X5_step_28
    intro σ3 e3
    have w5 : x1 5 0 = s1 5 0 := hE1.1 5 0 rfl (by decide)
    rw [gX5, w5, sX5] at e3
    subst e3
    have hE2 := hE1.set (f := 5) rfl (by decide) (by decide) 0 (s1 5 0 + nI n)
    refine c_grow hV hX hE2 (fun x3 hE3 => ?_)
    rw [hs] at hE3
    refine c_deliver hV hX hO (by omega) (by omega) hI3 hE3 (fun x4 hE4 => ?_)
    refine c_release hV hX (by omega) hI4 hE4 (fun x5 hE5 => ?_)
    refine c_sending hV hX (by omega) hI5 (fun j hj => inv_sendsK hV hI5 j hj) hE5 (fun x6 hE6 => ?_)
    refine c_note hE6 (fun x7 hE7 => ?_)
    refine hK n x7 hn hne hst ?_
    have et : tN p n s = itr tNote 32 (itr (tSend p) 32 (itr (tRel1 p) (nL p) (tDeliver p (tGrow p (u (tN p (n - 1) s) 5 0 (tN p (n - 1) s 5 0 + 1)))))) := by
      have : n = (n - 1) + 1 := by omega
      rw [this, tN_succ]
      unfold tick
      rw [tSends_eq]
      rfl
    rw [et]
    exact hE7
  have one : J_X5_step_28 Q S P (nI 1) (stX σ S x) := by
    refine work 1 x s (Nat.le_refl 1) (by omega) (qs_0 hV hI).symm (fun j hj f k _ => ?_) hE (fun f k => ?_)
    · rw [show j = 0 by omega]; rfl
    · rw [growP_at]
      by_cases h1 : f = 5 ∧ k = 0
      · rw [if_neg (by omega), u_at, if_pos h1, if_pos h1]
      · rw [if_neg h1]
        by_cases h2 : f = 45 ∧ k < 16 ∧ k % 8 < nL p
        · rw [if_pos h2, if_pos h2]
          unfold crN
          rw [u_nf _ _ (by decide)]
        · rw [if_neg h2, if_neg h2, if_neg (by omega), u_at, if_neg h1]
  rcases Nat.lt_or_ge (t + 1) v with hv | hv
  · have es : nI v - nI t = nI (v - t) := sub_nI (by omega)
    have gt : (1 : Int32) < nI (v - t) := by
      rw [show (1 : Int32) = nI 1 from rfl, lt_nI (by omega) (by omega)]; omega
    have hS : Still p s v := by
      refine ⟨fun q hq => ?_, v2.2⟩
      rcases v2.1 q hq with y | y | y
      · exact Or.inl y
      · omega
      · exact Or.inr y
    have hst := still_ticks hV hI (by omega) (by omega) hS
    rw [es, if_pos gt]
    refine ⟨fun q => absurd q (Int32.not_le.mpr gt), fun _ => ?_⟩
    refine c_note hE (fun x2 hE2 => ?_)
    refine work (v - t) x2 _ (by omega) (by omega) (hst (v - t - 1) (by omega)) (fun j hj f k hf => ?_) hE2 (fun f k => ?_)
    · rw [hst j (by omega), qs_at, if_neg (by omega), if_neg (by omega), if_neg (by omega)]
    · have n5 : itr tNote 32 s 5 0 = s 5 0 := by rw [note_at, if_neg (by omega)]
      rw [growP_at, show v - t - 1 + 1 = v - t by omega]
      by_cases h1 : f = 5 ∧ k = 0
      · rw [if_neg (by omega), u_at, if_pos h1, if_pos h1, n5]
      · rw [if_neg h1]
        by_cases h2 : f = 45 ∧ k < 16 ∧ k % 8 < nL p
        · rw [if_pos h2, if_pos h2]
          unfold crN
          have e45 : itr tNote 32 s 45 k = s 45 k := by rw [note_at, if_neg (by omega)]
          rw [u_nf _ _ (by decide), e45]
        · rw [if_neg h2, if_neg h2, u_at, if_neg h1, note_at]
          by_cases h3 : f = 33 ∧ k < 32
          · rw [if_pos h3, if_pos ⟨h3.1, h3.2, by omega⟩]
          · rw [if_neg h3, if_neg (by omega)]
  · have nlt : ¬ (1 : Int32) < nI v - nI t := by
      rcases Nat.lt_or_ge v t with z | z
      · have := pk_sneg (a := v) (b := t) (by omega) z
        intro q
        have q1 := Int32.lt_iff_toInt_lt.mp this
        have q2 := Int32.lt_iff_toInt_lt.mp q
        have q3 : (0 : Int32).toInt = 0 := rfl
        have q4 : (1 : Int32).toInt = 1 := by decide
        omega
      · rw [sub_nI z, show (1 : Int32) = nI 1 from rfl, lt_nI (by omega) (by omega)]
        omega
    rw [if_neg nlt]
    exact ⟨fun _ => one, fun q => absurd (by decide) q⟩
theorem c_advance {t b n : Nat} {Q : Hp → Prop} (hV : PV p) (hX : PX σ P p) (hO : OW σ P p) (hn : n ≤ 2000) (ht : t + n < 2 ^ 29) (hb : b + 32 * 8000 < 2 ^ 31) (hI : Inv p t (fun _ => t + 1) b s) (hE : EX p x s) (hK : ∀ x', EX p x' (tN p n s) → Q (stX σ S x')) : S_X5_advance S P (nI n) (stX σ S x) Q := by
  have v5 : x 5 0 = nI t := (hE.1 5 0 rfl (by decide)).trans hI.1
  unfold S_X5_advance
  rw [gX5, v5, add_nI]
  refine pk_loop (fun m k σ' => L_X5_advance_10 Q _ S P (nI n) (nI (t + n)) m (nI k) σ') (fun k σ' => ∃ i x', k ≤ i ∧ i ≤ n ∧ σ' = stX σ S x' ∧ EX p x' (tN p i s)) n 0 _ (Nat.zero_le _) ⟨0, x, Nat.le_refl 0, Nat.zero_le n, rfl, hE⟩ ?_ ?_
  · rintro m σ' ⟨i, x', i1, i2, rfl, hE'⟩
    have : i = n := by omega
    subst this
    unfold L_X5_advance_10
    exact ⟨fun _ => hK x' hE', fun q => absurd (nI_le (Nat.le_refl _) (by omega)) q⟩
  · rintro m k σ' hk ⟨i, x', i1, i2, rfl, hE'⟩ ih
    have hI' := inv_tN hV hI i (by omega)
    have w5 : x' 5 0 = nI (t + i) := (hE'.1 5 0 rfl (by decide)).trans hI'.1
    unfold L_X5_advance_10
    rw [gX5, w5]
    refine ⟨fun q => absurd q (nI_ge hk (by omega)), fun _ => ⟨fun q => ?_, fun q => ?_⟩⟩
    · rw [le_nI (by omega) (by omega)] at q
      have : i = n := by omega
      subst this
      exact hK x' hE'
    · rw [le_nI (by omega) (by omega)] at q
      refine c_step hV hX hO (by omega) (by omega) (by omega) (by omega) hI' hE' (fun mm x2 m1 m2 _ hE2 => ?_)
      rw [nI_1]
      rw [tN_add] at hE2
      exact ih _ ⟨i + mm, x2, by omega, by omega, rfl, hE2⟩
end ClsOps5
