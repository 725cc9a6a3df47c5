/-! ===== the reference's next token ===== -/
def MT (σ : Hp) (T : Tx) (N : Nat) : Prop := ∀ k, k < N → T k < 256 ∧ gI σ 52 0 k = nI (T k)
def mkT (k : Nat) : Nat := match k with
  | 0 => 0 | 1 => 2 | 2 => 3 | 3 => 59 | _ => 1
def TCm (T : Tx) (N b : Nat) (r : Nat → Int32) (w : Int64) : Prop := r 16 = nI (stT T N b) ∧ r 18 = nI (mkT (kdT T N b)) ∧ (kdT T N b ≠ 4 → r 17 = nI (enT T N b)) ∧ (kdT T N b = 1 → w = lN (wvT T N b)) ∧ (kdT T N b = 2 → r 19 = nI (dvT T N b))
def Fr8 (r0 r : Nat → Int32) : Prop := ∀ c, c ≠ 16 → c ≠ 17 → c ≠ 18 → c ≠ 19 → r c = r0 c
theorem Fr8.refl (r : Nat → Int32) : Fr8 r r := fun _ _ _ _ _ => rfl
theorem Fr8.u {r0 r : Nat → Int32} (h : Fr8 r0 r) {c : Nat} (hc : c = 16 ∨ c = 17 ∨ c = 18 ∨ c = 19) (v : Int32) : Fr8 r0 (upd r c v) := fun x h1 h2 h3 h4 => by
  rw [pk_un (by omega)]
  exact h x h1 h2 h3 h4
theorem Fr8.trans {r0 r r2 : Nat → Int32} (h : Fr8 r0 r) (h2 : Fr8 r r2) : Fr8 r0 r2 := fun c a b d e => (h2 c a b d e).trans (h c a b d e)
section TokM
variable {σ : Hp} {T : Tx} {N : Nat} {Q : Hp → Prop}
theorem m_see {k : Nat} {r : Nat → Int32} {w : Int64} {R : Int32 → Hp → Prop} (hN : N ≤ 900) (hT : MT σ T N) (hk : k ≤ N) (h15 : r 15 = nI N) (h1 : k < N → R (nI (T k)) (stG 8 20 σ r w)) (h0 : k = N → R (-1) (stG 8 20 σ r w)) : S_X8_see (nI k) (stG 8 20 σ r w) R := by
  unfold S_X8_see
  rw [gG, h15, le_nI (by omega) (by omega), gGn (by decide), ix_nI (by omega)]
  refine ⟨fun q => h0 (by omega), fun q => ⟨vp_in_nI (by omega) (by decide), ?_⟩⟩
  rw [(hT k (by omega)).2]
  exact h1 (by omega)
theorem m_inT {t lo hi : Nat} {R : Int32 → Hp → Prop} {σ' : Hp} (ht : t < 256) (hlo : lo < 256) (hhi : hi < 256) (h1 : lo ≤ t ∧ t ≤ hi → R 1 σ') (h0 : ¬ (lo ≤ t ∧ t ≤ hi) → R 0 σ') : S_X8_in (nI t) (nI lo) (nI hi) σ' R := by
  unfold S_X8_in
  rw [lt_nI (by omega) (by omega), lt_nI (by omega) (by omega)]
  exact ⟨fun p => h0 (by omega), fun p => ⟨fun p2 => h0 (by omega), fun p2 => h1 (by omega)⟩⟩
theorem m_inN {lo : Nat} {y : Int32} {R : Int32 → Hp → Prop} {σ' : Hp} (hlo : lo < 2 ^ 31) (h0 : R 0 σ') : S_X8_in (-1) (nI lo) y σ' R :=
  ⟨fun _ => h0, fun p => absurd (neg_lt0 (x := -1) (by decide) hlo) p⟩
theorem w256 (v t : Nat) : 256 * lN v + lN t = lN (256 * v + t) := by
  rw [show (256 : Int64) = lN 256 from rfl, lN_mul, lN_add]
theorem m_wrd {b : Nat} {r : Nat → Int32} {w : Int64} (hN : N ≤ 900) (hT : MT σ T N) (hb : b ≤ N) (hl : stT T N b < N) (h59 : ¬ T (stT T N b) = 59) (hlet : letB T (stT T N b) = true) (h15 : r 15 = nI N) (h16 : r 16 = nI (stT T N b)) (h17 : r 17 = nI (stT T N b)) (k : ∀ r' w', Fr8 r r' → TCm T N b r' w' → Q (stG 8 20 σ r' w')) : S_X8_readsWord (stG 8 20 σ r w) Q := by
  have l := tk_le (T := T) hb
  have c : enT T N b = scn (letB T) N (stT T N b) ∧ ((enT T N b - stT T N b ≤ 8 ∧ kdT T N b = 1) ∨ (8 < enT T N b - stT T N b ∧ kdT T N b = 4)) := by
    rcases tk_cases T N b with c | c | c | c | c
    · omega
    · omega
    · exact c.2.2.2
    · rw [hlet] at c; exact absurd c.2.2.1 (by decide)
    · rw [hlet] at c; exact absurd c.2.2.1 (by decide)
  have sp := scn_spec (letB T) l.2.1
  rw [← c.1] at sp
  obtain ⟨s, hs⟩ : ∃ s, stT T N b = s := ⟨_, rfl⟩
  obtain ⟨e, he⟩ : ∃ e, enT T N b = e := ⟨_, rfl⟩
  rw [hs, he] at sp
  rw [hs] at h16 h17 hl
  have hdg : ∀ m, m < e - s → dgT T N b m = T (s + m) := by
    intro m hm
    unfold dgT
    rw [hs, he, if_pos hm]
  have hdg2 : ∀ m, e - s ≤ m → dgT T N b m = 32 := by
    intro m hm
    unfold dgT
    rw [hs, he, if_neg (by omega)]
  unfold S_X8_readsWord
  rintro _ rfl
  rw [sGL]
  have pad : ∀ (v : Int32), v = nI (mkT (kdT T N b)) → ∀ j m r' w', m + j = 8 → e - s ≤ m → Fr8 r r' → r' 16 = nI s → r' 17 = nI e → r' 18 = v → (e - s ≤ 8 → w' = lN (pkN (dgT T N b) m)) → L_X8_readsWord_112 Q (fun σ15 => Q σ15) (j + 1) (nI m) (stG 8 20 σ r' w') := by
    intro v hv j
    induction j with
    | zero =>
      intro m r' w' hm hle hf a16 a17 a18 aw
      have : m = 8 := by omega
      subst this
      refine ⟨fun _ => k r' w' hf ⟨by rw [hs]; exact a16, a18.trans hv, fun _ => by rw [he]; exact a17, fun _ => aw (by omega), fun q => by omega⟩, fun q => absurd (by decide) q⟩
    | succ j ih =>
      intro m r' w' hm hle hf a16 a17 a18 aw
      unfold L_X8_readsWord_112
      rw [show (8 : Int32) ≤ nI m ↔ nI 8 ≤ nI m from Iff.rfl, le_nI (by decide) (by omega)]
      refine ⟨fun q => by omega, fun _ => ?_⟩
      rintro _ rfl
      rw [gGL, sGL, show nI m + 1 = nI (m + 1) from add_nI m 1]
      refine ih (m + 1) r' _ (by omega) (by omega) hf a16 a17 a18 (fun q => ?_)
      rw [aw q, show (32 : Int64) = lN 32 from rfl, w256, show pkN (dgT T N b) (m + 1) = 256 * pkN (dgT T N b) m + dgT T N b m from rfl, hdg2 m hle]
  have j99 : ∀ (v : Int32) r' w', v = nI (mkT (kdT T N b)) → Fr8 r r' → r' 16 = nI s → r' 17 = nI e → (e - s ≤ 8 → w' = lN (pkN (dgT T N b) (e - s))) → J_X8_readsWord_99 Q v (stG 8 20 σ r' w') := by
    intro v r' w' hv hf a16 a17 aw
    unfold J_X8_readsWord_99
    rintro _ rfl
    rw [sG, gG, gG, pk_un (by decide), pk_un (by decide), a16, a17, sub_nI (by omega)]
    rcases Nat.lt_or_ge (e - s) 9 with q | q
    · exact ⟨8 - (e - s) + 1, pad v hv (8 - (e - s)) (e - s) _ w' (by omega) (Nat.le_refl _) (hf.u (by omega) _) (by rw [pk_un (by decide)]; exact a16) (by rw [pk_un (by decide)]; exact a17) pk_us aw⟩
    · refine ⟨1, ?_⟩
      unfold L_X8_readsWord_112
      rw [show (8 : Int32) ≤ nI (e - s) ↔ nI 8 ≤ nI (e - s) from Iff.rfl, le_nI (by decide) (by omega)]
      refine ⟨fun _ => k _ _ (hf.u (by omega) _) ⟨?_, ?_, fun q2 => by omega, fun q2 => by omega, fun q2 => by omega⟩, fun q2 => by omega⟩
      · rw [pk_un (by decide), hs]; exact a16
      · rw [pk_us]; exact hv
  have go : ∀ j m r' w', m + j = e - s → Fr8 r r' → r' 16 = nI s → r' 17 = nI (s + m) → (m ≤ 8 → w' = lN (pkN (dgT T N b) m)) → L_X8_readsWord_5 Q (fun σ11 => ((((gI σ11 8 0 17) - (gI σ11 8 0 16)) ≤ 8 → J_X8_readsWord_99 Q 2 σ11) ∧ (¬ ((gI σ11 8 0 17) - (gI σ11 8 0 16)) ≤ 8 → J_X8_readsWord_99 Q 1 σ11))) (j + 1) (stG 8 20 σ r' w') := by
    intro j
    induction j with
    | zero =>
      intro m r' w' hm hf a16 a17 aw
      have a15 : r' 15 = nI N := (hf 15 (by decide) (by decide) (by decide) (by decide)).trans h15
      have e1 : s + m = e := by omega
      rw [e1] at a17
      have kk : ((((gI (stG 8 20 σ r' w') 8 0 17) - (gI (stG 8 20 σ r' w') 8 0 16)) ≤ 8 → J_X8_readsWord_99 Q 2 (stG 8 20 σ r' w')) ∧ (¬ ((gI (stG 8 20 σ r' w') 8 0 17) - (gI (stG 8 20 σ r' w') 8 0 16)) ≤ 8 → J_X8_readsWord_99 Q 1 (stG 8 20 σ r' w'))) := by
        rw [gG, gG, a16, a17, sub_nI (by omega), show (8 : Int32) = nI 8 from rfl, le_nI (by omega) (by decide)]
        refine ⟨fun q => j99 2 r' w' ?_ hf a16 a17 (fun _ => by rw [aw (by omega), show m = e - s by omega]), fun q => j99 1 r' w' ?_ hf a16 a17 (fun q2 => by omega)⟩
        · rw [show kdT T N b = 1 by omega]; rfl
        · rw [show kdT T N b = 4 by omega]; rfl
      unfold L_X8_readsWord_5
      rw [gG, a17]
      refine m_see hN hT (by omega) a15 (fun q => m_inT (lo := 97) (hi := 122) (hT e q).1 (by decide) (by decide) (fun q2 => ?_) (fun _ => b0' kk)) (fun _ => m_inN (lo := 97) (by decide) (b0' kk))
      have := sp.2.2.2 q
      unfold letB at this
      exact absurd q2 (of_decide_eq_false this)
    | succ j ih =>
      intro m r' w' hm hf a16 a17 aw
      have a15 : r' 15 = nI N := (hf 15 (by decide) (by decide) (by decide) (by decide)).trans h15
      have hlt := of_decide_eq_true (sp.2.2.1 (s + m) (by omega) (by omega))
      unfold L_X8_readsWord_5
      rw [gG, a17]
      refine m_see hN hT (by omega) a15 (fun q => m_inT (lo := 97) (hi := 122) (hT _ q).1 (by decide) (by decide) (fun _ => b1' ?_) (fun q2 => absurd hlt q2)) (fun q => by omega)
      have nx : ∀ z, (m < 8 → z = lN (pkN (dgT T N b) (m + 1))) → J_X8_readsWord_63 Q (L_X8_readsWord_5 Q (fun σ11 => ((((gI σ11 8 0 17) - (gI σ11 8 0 16)) ≤ 8 → J_X8_readsWord_99 Q 2 σ11) ∧ (¬ ((gI σ11 8 0 17) - (gI σ11 8 0 16)) ≤ 8 → J_X8_readsWord_99 Q 1 σ11))) (j + 1)) (fun σ11 => ((((gI σ11 8 0 17) - (gI σ11 8 0 16)) ≤ 8 → J_X8_readsWord_99 Q 2 σ11) ∧ (¬ ((gI σ11 8 0 17) - (gI σ11 8 0 16)) ≤ 8 → J_X8_readsWord_99 Q 1 σ11))) z (stG 8 20 σ r' w') := by
        intro z hz
        unfold J_X8_readsWord_63
        rintro _ rfl _ rfl
        rw [sGL, gG, a17, sG, show nI (s + m) + 1 = nI (s + (m + 1)) from add_nI (s + m) 1]
        exact ih (m + 1) _ z (by omega) (hf.u (by omega) _) (by rw [pk_un (by decide)]; exact a16) pk_us (fun q => hz (by omega))
      rw [gG, gG, gGL, a16, a17, sub_nI (by omega), show (8 : Int32) ≤ nI (s + m - s) ↔ nI 8 ≤ nI (s + m - s) from Iff.rfl, le_nI (by decide) (by omega)]
      refine ⟨fun q2 => nx _ (fun q3 => by omega), fun q2 => m_see hN hT (by omega) a15 (fun q3 => nx _ (fun q4 => ?_)) (fun q3 => by omega)⟩
      rw [aw (by omega), nI_l (by omega), w256, show pkN (dgT T N b) (m + 1) = 256 * pkN (dgT T N b) m + dgT T N b m from rfl, hdg m (by omega)]
  exact ⟨e - s + 1, go (e - s) 0 r 0 (by omega) (Fr8.refl r) h16 h17 (fun _ => rfl)⟩
theorem m_whl {b : Nat} {r : Nat → Int32} {w : Int64} (hN : N ≤ 900) (hT : MT σ T N) (hb : b ≤ N) (hl : stT T N b < N) (h59 : ¬ T (stT T N b) = 59) (hlet : letB T (stT T N b) = false) (hdig : digB T (stT T N b) = true) (h15 : r 15 = nI N) (h16 : r 16 = nI (stT T N b)) (h17 : r 17 = nI (stT T N b)) (h19 : r 19 = 0) (k : ∀ r' w', Fr8 r r' → TCm T N b r' w' → Q (stG 8 20 σ r' w')) : ∃ n25, L_X8_goesOn_86 Q (fun σ26 => ((((gI σ26 8 0 17) - (gI σ26 8 0 16)) ≤ 3 → ∀ σ27, σ27 = sI σ26 8 0 18 3 → Q σ27) ∧ (¬ ((gI σ26 8 0 17) - (gI σ26 8 0 16)) ≤ 3 → ∀ σ28, σ28 = sI σ26 8 0 18 1 → Q σ28))) n25 (stG 8 20 σ r w) := by
  have l := tk_le (T := T) hb
  have c : enT T N b = scn (digB T) N (stT T N b) ∧ ((enT T N b - stT T N b ≤ 3 ∧ kdT T N b = 2) ∨ (3 < enT T N b - stT T N b ∧ kdT T N b = 4)) := by
    rcases tk_cases T N b with c | c | c | c | c
    · omega
    · omega
    · rw [hlet] at c; exact absurd c.2.2.1 (by decide)
    · exact c.2.2.2.2
    · rw [hdig] at c; exact absurd c.2.2.2.1 (by decide)
  have sp := scn_spec (digB T) l.2.1
  rw [← c.1] at sp
  obtain ⟨s, hs⟩ : ∃ s, stT T N b = s := ⟨_, rfl⟩
  obtain ⟨e, he⟩ : ∃ e, enT T N b = e := ⟨_, rfl⟩
  rw [hs, he] at sp
  rw [hs] at h16 h17 hl
  have fin : ∀ r', Fr8 r r' → r' 16 = nI s → r' 17 = nI e → (e - s ≤ 3 → r' 19 = nI (dvF T s (e - s))) → ((((gI (stG 8 20 σ r' w) 8 0 17) - (gI (stG 8 20 σ r' w) 8 0 16)) ≤ 3 → ∀ σ27, σ27 = sI (stG 8 20 σ r' w) 8 0 18 3 → Q σ27) ∧ (¬ ((gI (stG 8 20 σ r' w) 8 0 17) - (gI (stG 8 20 σ r' w) 8 0 16)) ≤ 3 → ∀ σ28, σ28 = sI (stG 8 20 σ r' w) 8 0 18 1 → Q σ28)) := by
    intro r' hf a16 a17 a19
    rw [gG, gG, a16, a17, sub_nI (by omega), show nI (e - s) ≤ (3 : Int32) ↔ nI (e - s) ≤ nI 3 from Iff.rfl, le_nI (by omega) (by decide)]
    refine ⟨fun q => ?_, fun q => ?_⟩
    · rintro _ rfl
      rw [sG]
      refine k _ _ (hf.u (by omega) _) ⟨?_, ?_, fun _ => ?_, fun q2 => by omega, fun _ => ?_⟩
      · rw [pk_un (by decide), hs]; exact a16
      · rw [pk_us, show kdT T N b = 2 by omega]; rfl
      · rw [pk_un (by decide), he]; exact a17
      · rw [pk_un (by decide), a19 q]
        unfold dvT
        rw [hs, he]
    · rintro _ rfl
      rw [sG]
      refine k _ _ (hf.u (by omega) _) ⟨?_, ?_, fun q2 => by omega, fun q2 => by omega, fun q2 => by omega⟩
      · rw [pk_un (by decide), hs]; exact a16
      · rw [pk_us, show kdT T N b = 4 by omega]; rfl
  have go : ∀ j m r', m + j = e - s → Fr8 r r' → r' 16 = nI s → r' 17 = nI (s + m) → (m ≤ 3 → r' 19 = nI (dvF T s m)) → L_X8_goesOn_86 Q (fun σ26 => ((((gI σ26 8 0 17) - (gI σ26 8 0 16)) ≤ 3 → ∀ σ27, σ27 = sI σ26 8 0 18 3 → Q σ27) ∧ (¬ ((gI σ26 8 0 17) - (gI σ26 8 0 16)) ≤ 3 → ∀ σ28, σ28 = sI σ26 8 0 18 1 → Q σ28))) (j + 1) (stG 8 20 σ r' w) := by
    intro j
    induction j with
    | zero =>
      intro m r' hm hf a16 a17 a19
      have a15 : r' 15 = nI N := (hf 15 (by decide) (by decide) (by decide) (by decide)).trans h15
      have e1 : s + m = e := by omega
      rw [e1] at a17
      have kk := fin r' hf a16 a17 (fun q => by rw [a19 (by omega), show m = e - s by omega])
      unfold L_X8_goesOn_86
      rw [gG, a17]
      refine m_see hN hT (by omega) a15 (fun q => m_inT (lo := 48) (hi := 57) (hT e q).1 (by decide) (by decide) (fun q2 => ?_) (fun _ => b0' kk)) (fun _ => m_inN (lo := 48) (by decide) (b0' kk))
      have := sp.2.2.2 q
      unfold digB at this
      exact absurd q2 (of_decide_eq_false this)
    | succ j ih =>
      intro m r' hm hf a16 a17 a19
      have a15 : r' 15 = nI N := (hf 15 (by decide) (by decide) (by decide) (by decide)).trans h15
      have hlt := of_decide_eq_true (sp.2.2.1 (s + m) (by omega) (by omega))
      unfold L_X8_goesOn_86
      rw [gG, a17]
      refine m_see hN hT (by omega) a15 (fun q => m_inT (lo := 48) (hi := 57) (hT _ q).1 (by decide) (by decide) (fun _ => b1' ?_) (fun q2 => absurd hlt q2)) (fun q => by omega)
      have nx : ∀ z, (m < 3 → z = nI (dvF T s (m + 1))) → J_X8_goesOn_144 Q (L_X8_goesOn_86 Q (fun σ26 => ((((gI σ26 8 0 17) - (gI σ26 8 0 16)) ≤ 3 → ∀ σ27, σ27 = sI σ26 8 0 18 3 → Q σ27) ∧ (¬ ((gI σ26 8 0 17) - (gI σ26 8 0 16)) ≤ 3 → ∀ σ28, σ28 = sI σ26 8 0 18 1 → Q σ28))) (j + 1)) (fun σ26 => ((((gI σ26 8 0 17) - (gI σ26 8 0 16)) ≤ 3 → ∀ σ27, σ27 = sI σ26 8 0 18 3 → Q σ27) ∧ (¬ ((gI σ26 8 0 17) - (gI σ26 8 0 16)) ≤ 3 → ∀ σ28, σ28 = sI σ26 8 0 18 1 → Q σ28))) z (stG 8 20 σ r' w) := by
        intro z hz
        unfold J_X8_goesOn_144
        rintro _ rfl _ rfl
        rw [sG, gG, pk_un (by decide), a17, sG, show nI (s + m) + 1 = nI (s + (m + 1)) from add_nI (s + m) 1]
        exact ih (m + 1) _ (by omega) ((hf.u (by omega) _).u (by omega) _) (by rw [pk_un (by decide), pk_un (by decide)]; exact a16) pk_us (fun q => by rw [pk_un (by decide), pk_us]; exact hz (by omega))
      rw [gG, gG, gG, a16, a17, sub_nI (by omega), show (3 : Int32) ≤ nI (s + m - s) ↔ nI 3 ≤ nI (s + m - s) from Iff.rfl, le_nI (by decide) (by omega)]
      refine ⟨fun q2 => nx _ (fun q3 => by omega), fun q2 => m_see hN hT (by omega) a15 (fun q3 => nx _ (fun q4 => ?_)) (fun q3 => by omega)⟩
      rw [a19 (by omega), show (10 : Int32) = nI 10 from rfl, show (48 : Int32) = nI 48 from rfl, mul_nI, add_nI, sub_nI (by omega)]
      show nI _ = nI (10 * dvF T s m + (T (s + m) - 48))
      congr 1
      omega
  exact ⟨e - s + 1, go (e - s) 0 r (by omega) (Fr8.refl r) h16 h17 (fun _ => h19)⟩
theorem m_tok {b : Nat} {r : Nat → Int32} {w : Int64} (hN : N ≤ 900) (hT : MT σ T N) (hb : b ≤ N) (h15 : r 15 = nI N) (h17 : r 17 = nI b) (k : ∀ r' w', Fr8 r r' → TCm T N b r' w' → Q (stG 8 20 σ r' w')) : S_X8_goesOn (stG 8 20 σ r w) Q := by
  have l := tk_le (T := T) hb
  have sp := scn_spec (spB T) hb
  have hst : scn (spB T) N b = stT T N b := rfl
  rw [hst] at sp
  unfold S_X8_goesOn
  have go : ∀ (K : Hp → Prop), (∀ r', Fr8 r r' → r' 17 = nI (stT T N b) → K (stG 8 20 σ r' w)) → ∀ j m r', m + j = stT T N b → b ≤ m → Fr8 r r' → r' 17 = nI m → L_X8_goesOn_0 Q K (j + 1) (stG 8 20 σ r' w) := by
    intro K hK j
    induction j with
    | zero =>
      intro m r' hm hbm hf a17
      have a15 : r' 15 = nI N := (hf 15 (by decide) (by decide) (by decide) (by decide)).trans h15
      have e1 : m = stT T N b := by omega
      subst e1
      have kk := hK r' hf a17
      unfold L_X8_goesOn_0
      rw [gG, a17]
      refine m_see hN hT (by omega) a15 (fun q => ⟨fun _ => kk, fun q2 => ?_⟩) (fun _ => ⟨fun _ => kk, fun q2 => absurd q2 (by decide)⟩)
      have q3 := sp.2.2.2 q
      rw [show (32 : Int32) = nI 32 from rfl, eq_nI (by have := (hT _ q).1; omega) (by decide)] at q2
      unfold spB at q3
      exact absurd q2 (of_decide_eq_false q3)
    | succ j ih =>
      intro m r' hm hbm hf a17
      have a15 : r' 15 = nI N := (hf 15 (by decide) (by decide) (by decide) (by decide)).trans h15
      have q3 := of_decide_eq_true (sp.2.2.1 m hbm (by omega))
      unfold L_X8_goesOn_0
      rw [gG, a17]
      refine m_see hN hT (by omega) a15 (fun q => ⟨fun q2 => ?_, fun _ => ?_⟩) (fun q => by omega)
      · rw [q3] at q2
        exact absurd rfl q2
      · rintro _ rfl
        rw [gG, a17, sG, show nI m + 1 = nI (m + 1) from add_nI m 1]
        exact ih (m + 1) _ (by omega) (by omega) (hf.u (by omega) _) pk_us
  refine ⟨stT T N b - b + 1, go _ (fun r' hf a17 => ?_) (stT T N b - b) b r (by omega) (Nat.le_refl b) (Fr8.refl r) h17⟩
  rintro _ rfl
  have f5 : Fr8 r (upd r' 16 (nI (stT T N b))) := hf.u (by omega) _
  have b15 : upd r' 16 (nI (stT T N b)) 15 = nI N := (f5 15 (by decide) (by decide) (by decide) (by decide)).trans h15
  have b17 : upd r' 16 (nI (stT T N b)) 17 = nI (stT T N b) := by rw [pk_un (by decide)]; exact a17
  rw [gG, a17, sG, gG, b17]
  refine m_see hN hT l.2.1 b15 (fun q => ?_) (fun q => ?_)
  · have t256 := (hT _ q).1
    refine ⟨fun _ => ?_, fun q2 => absurd q2 (ne_m1 (by omega))⟩
    refine m_inT (lo := 97) (hi := 122) t256 (by decide) (by decide) (fun q2 => b1' ?_) (fun q2 => b0' ?_)
    · have q2' : letB T (stT T N b) = true := decide_eq_true q2
      exact m_wrd hN hT hb q (by omega) q2' b15 pk_us b17 (fun r'' w'' hf2 ht => k r'' w'' (f5.trans hf2) ht)
    · have q2' : letB T (stT T N b) = false := decide_eq_false q2
      refine m_inT (lo := 48) (hi := 57) t256 (by decide) (by decide) (fun q3 => b1' ?_) (fun q3 => b0' ?_)
      · have q3' : digB T (stT T N b) = true := decide_eq_true q3
        rintro _ rfl
        rw [sG]
        exact m_whl hN hT hb q (by omega) q2' q3' (by rw [pk_un (by decide)]; exact b15) (by rw [pk_un (by decide)]; exact pk_us) (by rw [pk_un (by decide)]; exact b17) pk_us (fun r'' w'' hf2 ht => k r'' w'' ((f5.u (by omega) _).trans hf2) ht)
      · have q3' : digB T (stT T N b) = false := decide_eq_false q3
        rintro _ rfl
        rw [gG, b17, sG, show nI (stT T N b) + 1 = nI (stT T N b + 1) from add_nI _ 1, show nI (T (stT T N b)) = (59 : Int32) ↔ nI (T (stT T N b)) = nI 59 from Iff.rfl, eq_nI (by omega) (by decide)]
        have f6 := f5.u (c := 17) (by omega) (nI (stT T N b + 1))
        refine ⟨fun q4 => ?_, fun q4 => ?_⟩
        · have kd : kdT T N b = 4 := by
            rcases tk_cases T N b with c | c | c | c | c
            · omega
            · omega
            · rw [q2'] at c; exact absurd c.2.2.1 (by decide)
            · rw [q3'] at c; exact absurd c.2.2.2.1 (by decide)
            · exact c.2.2.2.2.1
          rintro _ rfl
          rw [sG]
          refine k _ _ (f6.u (by omega) _) ⟨?_, ?_, fun q5 => by omega, fun q5 => by omega, fun q5 => by omega⟩
          · rw [pk_un (by decide), pk_un (by decide), pk_us]
          · rw [pk_us, kd]; rfl
        · have kd : kdT T N b = 3 ∧ enT T N b = stT T N b + 1 := by
            rcases tk_cases T N b with c | c | c | c | c
            · omega
            · exact c.2.2
            · exact absurd q4 c.2.1
            · exact absurd q4 c.2.1
            · exact absurd q4 c.2.1
          rintro _ rfl
          rw [sG]
          refine k _ _ (f6.u (by omega) _) ⟨?_, ?_, fun _ => ?_, fun q5 => by omega, fun q5 => by omega⟩
          · rw [pk_un (by decide), pk_un (by decide), pk_us]
          · rw [pk_us, kd.1, q4]; rfl
          · rw [pk_un (by decide), pk_us, kd.2]
  · refine ⟨fun q2 => absurd rfl q2, fun _ => ?_⟩
    have kd : kdT T N b = 0 ∧ enT T N b = stT T N b := by
      rcases tk_cases T N b with c | c | c | c | c
      · exact c.2
      · omega
      · omega
      · omega
      · omega
    rintro _ rfl
    rw [sG]
    refine k _ _ (f5.u (by omega) _) ⟨?_, ?_, fun _ => ?_, fun q4 => by omega, fun q4 => by omega⟩
    · rw [pk_un (by decide)]; exact pk_us
    · rw [pk_us, kd.1]; rfl
    · rw [pk_un (by decide), kd.2]; exact b17
end TokM
