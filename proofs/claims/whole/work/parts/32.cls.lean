theorem u_comm (s : SD) {f k g j : Nat} (v w : Int32) (h : f ≠ g) : u (u s f k v) g j w = u (u s g j w) f k v := by
  funext a b
  rw [u_at, u_at, u_at, u_at]
  by_cases h1 : a = g ∧ b = j
  · rw [if_pos h1, if_neg (by omega), if_pos h1]
  · rw [if_neg h1, if_neg h1]
theorem EX_mem {p : PD} {x s : SD} {e c : Nat} {num : Int32} (hE : EX p x s) (he : e < 24) (hc : s 9 e = nI c) (hcb : c + 1 < 2 ^ 31) : EX p (u (u (u x 18 (10 * e + c % 10) num) 9 e (nI (c + 1))) 0 0 (x 0 0 + 1)) (tMem e num (u (u s 9 e (nI (c + 1))) 0 0 (s 0 0 + 1))) := by
  obtain ⟨h1, h2, h3, h4, h5⟩ := hE
  refine ⟨fun f k hf hk => ?_, ?_, fun q hq => ?_, fun e' he' c' hc' hc2 k hk hk2 => ?_, ?_⟩
  · obtain ⟨n1, n2, n3, n4, n5, n6, n7⟩ := pln_ne (plk_pln hf)
    rw [tMem_at, if_neg (fun q => n5 q.1), u_nf _ _ n7, u_nf _ _ n7]
    simp only [u_at, n5, false_and, if_false, h1 f k hf hk]
  · rw [tMem_at, if_neg (by omega), u_self, u_self, h2]
  · obtain ⟨a, a1, a2, a3⟩ := h3 q hq
    refine ⟨a, a1, by simpa [u_at] using a2, fun c' hc' hc2 i hi => ?_⟩
    have hc3 : s 30 q = nI c' := by
      rw [tMem_at, if_neg (by omega), u_nf _ _ (by decide), u_nf _ _ (by decide)] at hc'
      exact hc'
    have := a3 c' hc3 hc2 i hi
    simpa [u_at, tMem_at] using this
  · by_cases hee : e' = e
    · subst hee
      have hcc : c' = c + 1 := by
        rw [tMem_at, if_neg (by omega), u_nf _ _ (by decide), u_self, eq_nI (by omega) (by omega)] at hc'
        exact hc'.symm
      subst hcc
      have d1 : (10 * e' + k) / 10 = e' := by omega
      have d2 : (10 * e' + k) % 10 = k := by omega
      rw [tMem_at, if_pos ⟨rfl, d1⟩, d2, u_nf _ _ (by decide), u_nf _ _ (by decide)]
      by_cases hk0 : k = 0
      · subst hk0
        rw [if_pos rfl, show 10 * e' + (c + 1 - 1 - 0) % 10 = 10 * e' + c % 10 by omega, u_self]
      · have e1 : 10 * e' + (c + 1 - 1 - k) % 10 ≠ 10 * e' + c % 10 := by omega
        rw [if_neg hk0, u_nk _ _ e1, u_nf _ _ (by decide), u_nf _ _ (by decide)]
        have := h4 e' he' c hc (by omega) (k - 1) (by omega) (by omega)
        rw [show 10 * e' + k - 1 = 10 * e' + (k - 1) by omega, ← this]
        exact congrArg (x 18) (by omega)
    · have hc3 : s 9 e' = nI c' := by
        rw [tMem_at, if_neg (by omega), u_nf _ _ (by decide), u_nk _ _ hee] at hc'
        exact hc'
      have := h4 e' he' c' hc3 hc2 k hk hk2
      have e1 : 10 * e' + (c' - 1 - k) % 10 ≠ 10 * e + c % 10 := by omega
      rw [tMem_at, if_neg (by omega), u_nf _ _ (by decide), u_nf _ _ (by decide), u_nk _ _ e1, u_nf _ _ (by decide), u_nf _ _ (by decide)]
      exact this
  · rw [u_nf _ _ (by decide), u_nf _ _ (by decide), u_nf _ _ (by decide), h5]
    refine congrArg nI (cs_congr 32 (fun q _ => ?_)).symm
    rw [tMem_at, if_neg (by omega), u_nf _ _ (by decide), u_nf _ _ (by decide)]
theorem EX_pop {p : PD} {x s : SD} {q a c : Nat} (hE : EX p x s) (hq : q < 32) (ha : x 31 q = nI a) (ha12 : a < 12) (hc : s 30 q = nI c) (hc0 : 0 < c) (hc12 : c ≤ 12) : EX p (u (u (u (u x 31 q (nI ((a + 1) % 12))) 30 q (nI (c - 1))) 3 0 (nI (cs s 32) - 1)) 32 q (-2)) (tPop q s) := by
  obtain ⟨h1, h2, h3, h4, h5⟩ := hE
  have p30 : tPop q s 30 q = nI (c - 1) := by
    unfold tPop
    rw [if_pos ⟨rfl, rfl⟩, hc]
    exact sub_nI hc0
  refine ⟨fun f k hf hk => ?_, ?_, fun q' hq' => ?_, fun e he c' hc' hc2 k hk hk2 => ?_, ?_⟩
  · obtain ⟨n1, n2, n3, n4, n5, n6, n7⟩ := pln_ne (plk_pln hf)
    rw [u_at, u_nf _ _ n6, u_at, u_nf _ _ n4, h1 f k hf hk]
    unfold tPop
    rw [if_neg (c := (f = 34 ∨ f = 35 ∨ f = 36) ∧ _) (by omega)]
    by_cases z1 : f = 32 ∧ k = q
    · rw [if_pos z1, if_neg (by omega), if_pos z1]
    · rw [if_neg z1]
      by_cases z2 : f = 30 ∧ k = q
      · rw [if_pos z2, if_pos z2, hc]; exact (sub_nI hc0).symm
      · rw [if_neg z2, if_neg z2, if_neg z1]
  · rw [pop_nf (by decide)]
    simpa [u_at] using h2
  · by_cases hqq : q' = q
    · subst hqq
      refine ⟨(a + 1) % 12, by omega, by simp [u_at], fun c' hc' hc2 i hi => ?_⟩
      have hcc : c' = c - 1 := by
        rw [p30, eq_nI (by omega) (by omega)] at hc'
        exact hc'.symm
      subst hcc
      obtain ⟨a', b1, b2, b3⟩ := h3 q' hq'
      have haa : a' = a := by
        rw [ha, eq_nI (by omega) (by omega)] at b2
        exact b2.symm
      subst haa
      obtain ⟨g1, g2, g3⟩ := b3 c hc hc12 (i + 1) (by omega)
      have ei : ((a' + 1) % 12 + i) % 12 = (a' + (i + 1)) % 12 := by omega
      rw [pop_fr (by omega) hc (by omega) (by omega) (by omega), pop_fr (by omega) hc (by omega) (by omega) (by omega), pop_fr (by omega) hc (by omega) (by omega) (by omega), ei]
      simp only [u_at, Nat.reduceEqDiff, false_and, if_false]
      exact ⟨g1, g2, g3⟩
    · obtain ⟨a', b1, b2, b3⟩ := h3 q' hq'
      refine ⟨a', b1, by simpa [u_at, hqq] using b2, fun c' hc' hc2 i hi => ?_⟩
      have hc3 : s 30 q' = nI c' := by
        unfold tPop at hc'
        rw [if_neg (by omega), if_neg (by omega), if_neg (by omega)] at hc'
        exact hc'
      rw [pop_fo (by omega) (by omega) hqq, pop_fo (by omega) (by omega) hqq, pop_fo (by omega) (by omega) hqq]
      have := b3 c' hc3 hc2 i hi
      simpa [u_at] using this
  · rw [pop_nf (by decide)] at hc' ⊢
    have := h4 e he c' hc' hc2 k hk hk2
    simpa [u_at] using this
  · rw [u_nf _ _ (by decide), u_self]
    have h6 := cs_one (s := s) (s' := tPop q s) (q := q) (fun q' h' => by unfold tPop; rw [if_neg (by omega), if_neg (by omega), if_neg (by omega)]) 32 hq
    rw [p30, hc, ix_nI (by omega), ix_nI (by omega)] at h6
    have h7 : 1 ≤ cs s 32 := by omega
    rw [show nI (cs s 32) - 1 = nI (cs s 32 - 1) from sub_nI h7]
    exact congrArg nI (by omega)
section ClsOps2
variable {σ : Hp} {p : PD} {S P : Nat} {x s : SD}
theorem c_pop {q a c : Nat} {Q : Hp → Prop} (hE : EX p x s) (hq : q < 32) (ha : x 31 q = nI a) (ha12 : a < 12) (hc : s 30 q = nI c) (hc0 : 0 < c) (hc12 : c ≤ 12) (k : ∀ x', EX p x' (tPop q s) → (∀ f z, f = 34 ∨ f = 35 ∨ f = 36 → x' f z = x f z) → x' 5 0 = x 5 0 → Q (stX σ S x')) : S_X3_removeFirst S (nI q) (stX σ S x) Q := by
  have e30 : x 30 q = nI c := (hE.1 30 q rfl hq).trans hc
  have e3 := hE.2.2.2.2
  unfold S_X3_removeFirst
  have w30 : u x 31 q (nI ((a + 1) % 12)) 30 q = nI c := by rw [u_nf _ _ (by decide)]; exact e30
  have w3 : u (u x 31 q (nI ((a + 1) % 12))) 30 q (nI (c - 1)) 3 0 = nI (cs s 32) := by rw [u_nf _ _ (by decide), u_nf _ _ (by decide)]; exact e3
  have s1 : nI c - nI 1 = nI (c - 1) := sub_nI hc0
  simp (disch := omega) only [litI, mul_nI, add_nI, Nat.add_zero, Nat.zero_add, Nat.mul_zero, Nat.zero_mul, Nat.mul_one, vpin_nI, ix_nI, true_and, and_true, forall_eq, gX0, sX0, gX3, sX3, gX5, sX5, gX9, sX9, gX10, sX10, gX11, sX11, gX12, sX12, gX13, sX13, gX14, sX14, gX15, sX15, gX16, sX16, gX17, sX17, gX18, sX18, gX30, sX30, gX31, sX31, gX32, sX32, gX33, sX33, gX34, sX34, gX35, sX35, gX36, sX36, gX38, sX38, gX39, sX39, gX40, sX40, gX41, sX41, gX42, sX42, gX43, sX43, gX44, sX44, gX45, sX45, gX46, sX46, gX1, gX2, gX4, gX6, gX7, gX8, gX19, gX22, gX25, gX26, gX27, gX28, gX29, gX37, gX47, gX48, gX49, gX50, gX51, ha, rem_nI, w30, s1, w3]
  refine k _ (EX_pop hE hq ha ha12 hc hc0 hc12) (fun f z hf => ?_) ?_
  · rw [u_nf _ _ (by omega), u_nf _ _ (by omega), u_nf _ _ (by omega), u_nf _ _ (by omega)]
  · simp [u_at]
theorem s_nb {y : Int32} {σ : Hp} {Q : Int32 → Hp → Prop} (h : Q (beh y) σ) : S_X7_numberBehind y σ Q := by
  unfold S_X7_numberBehind
  unfold beh at h
  refine ⟨fun q => ?_, fun q => ?_⟩
  · rw [if_neg q] at h; exact h
  · rw [if_pos q] at h; exact h
theorem c_whole {a b : Int32} {σ : Hp} {Q : Int32 → Hp → Prop} (k1 : whole1 a b → Q 1 σ) (k0 : ¬ whole1 a b → Q 0 σ) : S_X0_isWhole a b σ Q := by
  unfold S_X0_isWhole
  unfold whole1 at k1 k0
  refine ⟨fun q => k1 (Or.inl q), fun q => ⟨fun q2 => s_nb ⟨fun q3 => k1 (Or.inr (Or.inr (Or.inl q3))), fun q3 => s_nb ⟨fun q4 => k0 ?_, fun q4 => k1 (Or.inr (Or.inr (Or.inr q4)))⟩⟩, fun q2 => k1 (Or.inr (Or.inl q2))⟩⟩
  rintro (z | z | z | z)
  · exact q z
  · exact q2 z
  · exact q3 z
  · exact q4 z
theorem c_fresh {e : Nat} {num : Int32} {Q : Int32 → Hp → Prop} (hX : PX σ P p) (hE : EX p x s) (he : e < 24) (hv : e < 3 * nL p) (k1 : fresh1 p s e num → Q 1 (stX σ S x)) (k0 : ¬ fresh1 p s e num → Q 0 (stX σ S x)) : S_X0_isFresh S P (nI e) num (s 5 0) (stX σ S x) Q := by
  have h9 : x 9 e = s 9 e := hE.1 9 e rfl he
  have h12 : x 12 e = s 12 e := hE.1 12 e (lv3 hv).1 he
  have h13 : x 13 e = s 13 e := hE.1 13 e (lv3 hv).2.1 he
  have iv : vp_in (nI e) 24 := vp_in_nI he (by decide)
  have j71 : ∀ z, (num = 0 → False) → z = aheadN (s 12 e) num → ¬ s 9 e = 0 → ¬ nI (pSkew p) < s 5 0 - s 13 e → J_X0_isFresh_71 Q S P z (stX σ S x) := by
    intro z hn hz a1 a2
    subst hz
    unfold J_X0_isFresh_71
    rw [gX2, hX.2.2.2.1]
    unfold fresh1 at k1 k0
    have no : ¬ (1 ≤ aheadN (s 12 e) num ∧ aheadN (s 12 e) num ≤ nI (pWin p)) → Q 0 (stX σ S x) := by
      intro h
      refine k0 ?_
      rintro (y | y | y | y)
      · exact a1 y
      · exact a2 y
      · exact hn y.1
      · exact h y
    refine ⟨fun q => no (fun y => absurd y.1 (Int32.not_le.mpr q)), fun q => ⟨fun q2 => no (fun y => absurd y.2 (Int32.not_le.mpr q2)), fun q2 => k1 (Or.inr (Or.inr (Or.inr ⟨Int32.not_lt.mp q, Int32.not_lt.mp q2⟩)))⟩⟩
  unfold S_X0_isFresh
  rw [ix_nI (by omega), gX9, gX13, gX12, gX2, h9, h12, h13, hX.2.2.2.2.1]
  unfold fresh1 at k1 k0
  refine ⟨iv, fun q => k1 (Or.inl q), fun q => ⟨iv, fun q2 => ⟨iv, fun q3 => ⟨fun q4 => ?_, fun q4 => ?_⟩, fun q3 => ⟨fun q4 => ?_, fun q4 => ?_⟩⟩, fun q2 => k1 (Or.inr (Or.inl (Int32.not_le.mp q2)))⟩⟩
  · exact j71 _ q3 (by unfold aheadN; rw [if_neg q3, if_neg q4]) q (Int32.not_lt.mpr q2)
  · exact j71 _ q3 (by unfold aheadN; rw [if_neg q3, if_pos q4]) q (Int32.not_lt.mpr q2)
  · refine k0 ?_
    rintro (y | y | y | y)
    · exact q y
    · exact absurd y (Int32.not_lt.mpr q2)
    · exact y.2 q4
    · have : aheadN (s 12 e) num = 0 := by unfold aheadN; rw [if_pos q3]
      rw [this] at y
      exact absurd y.1 (by decide)
  · exact k1 (Or.inr (Or.inr (Or.inl ⟨q3, q4⟩)))
theorem c_take {e net t b bo : Nat} {num : Int32} {Q : Hp → Prop} (hE : EX p x s) (he : e < 24) (hv : e < 3 * nL p) (ht : t < 2 ^ 30) (h5 : s 5 0 = nI t) (hb : b + 1 < 2 ^ 31) (hea : EaOk s t b e) (hbo : bo ≤ t) (k : ∀ x', EX p x' (tTake e net num (nI bo) s) → Q (stX σ S x')) : S_X0_take S (nI e) (nI net) num (nI bo) (s 5 0) (stX σ S x) Q := by
  obtain ⟨⟨c, c1, c2, c3, c4⟩, -⟩ := hea
  have h9 : x 9 e = nI c := (hE.1 9 e rfl he).trans c2
  have h15 : x 15 e = s 15 e := hE.1 15 e (lv3 hv).2.2.2.1 he
  have h16 : x 16 e = s 16 e := hE.1 16 e (lv3 hv).2.2.2.2 he
  have iv : vp_in (nI e) 24 := vp_in_nI he (by decide)
  have lt : s 5 0 - nI bo = nI (t - bo) := by rw [h5]; exact sub_nI hbo
  have l15 : (if s 15 e < s 5 0 - nI bo then s 5 0 - nI bo else s 15 e) = late1 s e (nI bo) := by
    unfold late1
    rw [lt]
    rcases Nat.eq_zero_or_pos c with z | z
    · rw [(c3 z).1, if_pos rfl, if_pos]
      show -nI 2 < nI (t - bo)
      rw [neg_lt (by omega) (by omega) (by omega)]
      trivial
    · obtain ⟨a, a1, a2⟩ := (c4 z).2.2.1
      have hne : ¬ s 15 e = -2 := by
        rw [a2]
        show ¬ nI a = -nI 2
        rw [eq_neg (by omega) (by omega) (by omega)]
        exact id
      rw [if_neg hne]
      by_cases q : s 15 e < nI (t - bo)
      · rw [if_pos q, if_neg (Int32.not_le.mpr q)]
      · rw [if_neg q, if_pos (Int32.not_lt.mp q)]
  have l16 : ∀ z, z = (if nI c = 0 then s 5 0 - nI bo else if s 5 0 - nI bo < s 16 e then s 5 0 - nI bo else s 16 e) → z = soon1 s e (nI bo) := by
    intro z hz
    subst hz
    unfold soon1
    rw [lt]
    rcases Nat.eq_zero_or_pos c with z | z
    · rw [(c3 z).2, if_pos (c := (-2 : Int32) = -2) rfl, if_pos (by rw [z]; rfl)]
    · obtain ⟨a, a1, a2⟩ := (c4 z).2.2.2
      have hne : ¬ s 16 e = -2 := by
        rw [a2]
        show ¬ nI a = -nI 2
        rw [eq_neg (by omega) (by omega) (by omega)]
        exact id
      rw [if_neg hne, if_neg (nI_ne0 z (by omega))]
      by_cases q : nI (t - bo) < s 16 e
      · rw [if_pos q, if_neg (Int32.not_le.mpr q)]
      · rw [if_neg q, if_pos (Int32.not_lt.mp q)]
  have hE1 := hE.set (f := 15) rfl (by decide) (by decide) e (late1 s e (nI bo))
  have fin : ∀ z, z = soon1 s e (nI bo) → J_X0_take_54 Q S (nI e) (nI net) num (s 5 0) z (nI e) (stX σ S (u x 15 e (late1 s e (nI bo)))) := by
    intro z hz
    subst hz
    have hE2 := (((hE1.set (f := 16) rfl (by decide) (by decide) e (soon1 s e (nI bo))).set (f := 12) rfl (by decide) (by decide) e num).set (f := 13) rfl (by decide) (by decide) e (s 5 0)).set (f := 14) rfl (by decide) (by decide) e (nI net)
    have c9 : u (u (u (u (u s 15 e (late1 s e (nI bo))) 16 e (soon1 s e (nI bo))) 12 e num) 13 e (s 5 0)) 14 e (nI net) 9 e = nI c := by simpa [u_at] using c2
    have hfin := EX_mem (num := num) hE2 he c9 (by omega)
    unfold J_X0_take_54 S_X0_memoryOf
    refine ⟨iv, fun σ2 e2 => ⟨iv, ?_⟩⟩
    rw [ix_nI (by omega), sX16] at e2
    subst e2
    have w9 : gI (stX σ S (u (u x 15 e (late1 s e (nI bo))) 16 e (soon1 s e (nI bo)))) 9 S (ix (nI e)) = nI c := by
      rw [ix_nI (by omega), gX9, u_nf _ _ (by decide), u_nf _ _ (by decide)]; exact h9
    rw [w9, show jrem (nI c) 10 = nI (c % 10) from rem_nI (d := 10) (by omega) (by omega) (by omega), show (nI e) * 10 = nI (e * 10) from mul_nI e 10, add_nI]
    refine ⟨vp_in_nI (by omega) (by decide), fun σ5 e5 => ⟨iv, fun σ6 e6 => ⟨iv, fun σ7 e7 => ⟨iv, fun σ8 e8 => ⟨iv, iv, fun σ9 e9 σ10 e10 => ?_⟩⟩⟩⟩⟩
    rw [ix_nI (by omega), sX18] at e5
    subst e5
    rw [ix_nI (by omega), sX12] at e6
    subst e6
    rw [ix_nI (by omega), sX13] at e7
    subst e7
    rw [ix_nI (by omega), sX14] at e8
    subst e8
    rw [ix_nI (by omega), gX9, sX9, u_nf _ _ (by decide), u_nf _ _ (by decide), u_nf _ _ (by decide), u_nf _ _ (by decide), u_nf _ _ (by decide), u_nf _ _ (by decide), h9, nI_1] at e9
    subst e9
    rw [gX0, sX0] at e10
    subst e10
    refine k _ ?_
    have ex : ∀ f z, u (u (u (u (u (u (u (u x 15 e (late1 s e (nI bo))) 16 e (soon1 s e (nI bo))) 18 (e * 10 + c % 10) num) 12 e num) 13 e (s 5 0)) 14 e (nI net)) 9 e (nI (c + 1))) 0 0 (u (u (u (u (u (u (u x 15 e (late1 s e (nI bo))) 16 e (soon1 s e (nI bo))) 18 (e * 10 + c % 10) num) 12 e num) 13 e (s 5 0)) 14 e (nI net)) 9 e (nI (c + 1)) 0 0 + 1) f z
        = u (u (u (u (u (u (u (u x 15 e (late1 s e (nI bo))) 16 e (soon1 s e (nI bo))) 12 e num) 13 e (s 5 0)) 14 e (nI net)) 18 (10 * e + c % 10) num) 9 e (nI (c + 1))) 0 0 (u (u (u (u (u x 15 e (late1 s e (nI bo))) 16 e (soon1 s e (nI bo))) 12 e num) 13 e (s 5 0)) 14 e (nI net) 0 0 + 1) f z := by
      intro f z
      rw [show e * 10 = 10 * e by omega, u_comm _ _ _ (show (18:Nat) ≠ 12 by decide), u_comm _ _ _ (show (18:Nat) ≠ 13 by decide), u_comm _ _ _ (show (18:Nat) ≠ 14 by decide)]
      rw [u_nf (f := 9) _ _ (by decide), u_nf (f := 18) _ _ (by decide)]
    refine EX.xcongr ?_ ex
    have es : tTake e net num (nI bo) s = tMem e num (u (u (u (u (u (u (u s 15 e (late1 s e (nI bo))) 16 e (soon1 s e (nI bo))) 12 e num) 13 e (s 5 0)) 14 e (nI net)) 9 e (nI (c + 1))) 0 0 (u (u (u (u (u s 15 e (late1 s e (nI bo))) 16 e (soon1 s e (nI bo))) 12 e num) 13 e (s 5 0)) 14 e (nI net) 0 0 + 1)) := by
      unfold tTake
      rw [c2, nI_1]
      rw [u_comm _ _ _ (show (14:Nat) ≠ 9 by decide), u_comm _ _ _ (show (13:Nat) ≠ 9 by decide), u_comm _ _ _ (show (12:Nat) ≠ 9 by decide), u_comm _ _ _ (show (16:Nat) ≠ 9 by decide), u_comm _ _ _ (show (15:Nat) ≠ 9 by decide)]
      rw [u_comm _ _ _ (show (16:Nat) ≠ 12 by decide), u_comm _ _ _ (show (16:Nat) ≠ 13 by decide), u_comm _ _ _ (show (16:Nat) ≠ 14 by decide), u_comm _ _ _ (show (15:Nat) ≠ 12 by decide), u_comm _ _ _ (show (15:Nat) ≠ 13 by decide), u_comm _ _ _ (show (15:Nat) ≠ 14 by decide)]
      rw [u_nf (f := 14) (a := 0) _ _ (by decide), u_nf (f := 13) (a := 0) _ _ (by decide), u_nf (f := 12) (a := 0) _ _ (by decide), u_nf (f := 16) (a := 0) _ _ (by decide), u_nf (f := 15) (a := 0) _ _ (by decide)]
    rw [es]
    exact hfin
  unfold S_X0_take
  refine ⟨iv, iv, fun σ1 e1 => ⟨iv, ?_⟩⟩
  rw [ix_nI (by omega), gX15, h15, l15, sX15] at e1
  subst e1
  rw [ix_nI (by omega), gX9, u_nf _ _ (by decide), h9, gX16, u_nf _ _ (by decide), h16]
  exact ⟨fun q => ⟨iv, fin _ (l16 _ (by rw [if_neg q]))⟩, fun q => fin _ (l16 _ (by rw [if_pos q]))⟩
theorem c_hear {l i net t b n bo : Nat} {lo : Nat → Nat} {Q : Hp → Prop} (hV : PV p) (hX : PX σ P p) (hI : Inv p t lo b s) (hE : EX p x s) (ht : t < 2 ^ 30) (hb : b + 1 < 2 ^ 31) (hl : l < nL p) (hi : i < rc p l) (hnet : net < 2) (hn : n ≤ 255) (hbo : bo ≤ t) (k : ∀ x', EX p x' (tHear p (3 * l + i) net (nI n) (nI bo) s) → Q (stX σ S x')) : S_X0_hear S P (nI (3 * l + i)) (nI net) (nI n) (nI bo) (s 5 0) (stX σ S x) Q := by
  have h3 := (hV.2.2.2.2.2.2.2.2 l hl).2.2.2.2.2.2.1
  have hL := hV.2.2.2.2.2.2.1
  have hea := hI.2.2.2 l hl i hi
  have h5 := hI.1
  generalize hg : 3 * l + i = e at *
  have he : e < 24 := by omega
  have hv : e < 3 * nL p := by omega
  have h17 : x 17 (e * 2 + net) = s 17 (2 * e + net) := by
    rw [show e * 2 + net = 2 * e + net by omega]
    exact hE.1 17 (2 * e + net) (lv17 (by omega)) (by show 2 * e + net < 48; omega)
  have ei : ((nI e) * 2) + nI net = nI (e * 2 + net) := by
    rw [show (nI e) * 2 = nI (e * 2) from mul_nI e 2, add_nI]
  have iv : vp_in (nI (e * 2 + net)) 48 := vp_in_nI (by omega) (by decide)
  have ie : vp_in (nI e) 24 := vp_in_nI he (by decide)
  have hE1 := hE.set (f := 17) rfl (by decide) (by decide) (2 * e + net) (nI n)
  have hea1 : EaOk (u s 17 (2 * e + net) (nI n)) t b e := by
    refine ⟨by simpa [u_at] using hea.1, fun net' hn' => ?_⟩
    by_cases hx : net' = net
    · subst hx; exact Or.inr ⟨n, hn, u_self _ _ _ _⟩
    · rw [u_nk _ _ (by omega)]; exact hea.2 net' hn'
  have u5 : u s 17 (2 * e + net) (nI n) 5 0 = s 5 0 := u_nf _ _ (by decide)
  unfold tHear at k
  unfold S_X0_hear
  rw [ei, ix_nI (by omega), gX17, h17]
  refine ⟨iv, c_whole (fun hw => ?_) (fun hw => ?_)⟩
  · rw [cif_pos hw] at k
    refine ⟨iv, fun σ3 e3 => ?_⟩
    rw [sX17, show e * 2 + net = 2 * e + net by omega] at e3
    subst e3
    refine ⟨fun _ => ?_, fun q => absurd q (by decide)⟩
    unfold tHear1 at k
    rw [← u5]
    refine c_fresh hX hE1 he hv (fun hf => ?_) (fun hf => ?_)
    · rw [cif_pos hf] at k
      refine ⟨fun q => absurd q (by decide), fun _ => ?_⟩
      exact c_take hE1 he hv ht (u5.trans h5) hb hea1 hbo k
    · rw [cif_neg hf] at k
      refine ⟨fun _ => ⟨ie, ie, fun σ6 e6 => ?_⟩, fun q => absurd rfl q⟩
      have h11 : u x 17 (2 * e + net) (nI n) 11 e = u s 17 (2 * e + net) (nI n) 11 e := hE1.1 11 e rfl he
      rw [ix_nI (by omega), gX11, h11, sX11] at e6
      subst e6
      exact k _ (hE1.set (f := 11) rfl (by decide) (by decide) e _)
  · rw [cif_neg hw] at k
    refine ⟨iv, fun σ3 e3 => ?_⟩
    rw [sX17, show e * 2 + net = 2 * e + net by omega] at e3
    subst e3
    refine ⟨fun q => absurd rfl q, fun _ => ⟨ie, ie, fun σ8 e8 => ?_⟩⟩
    have h10 : u x 17 (2 * e + net) (nI n) 10 e = s 10 e := (hE1.1 10 e rfl he).trans (u_nf _ _ (by decide))
    rw [ix_nI (by omega), gX10, h10, sX10] at e8
    subst e8
    exact k _ (hE1.set (f := 10) rfl (by decide) (by decide) e _)
end ClsOps2
