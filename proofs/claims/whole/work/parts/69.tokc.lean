/-! ===== an object's own cells as a row ===== -/
def stG (a kw : Nat) (σ : Hp) (r : Nat → Int32) (w : Int64) : Hp := (fun n i k => if n = a ∧ i = 0 then r k else σ.1 n i k, fun n i k => if n = a ∧ i = 0 ∧ k = kw then w else σ.2.1 n i k, σ.2.2)
section StG
variable {a kw : Nat} {σ : Hp} {r : Nat → Int32} {w : Int64}
theorem gG (k : Nat) : gI (stG a kw σ r w) a 0 k = r k := if_pos ⟨rfl, rfl⟩
theorem gGn {n : Nat} (h : n ≠ a) (i k : Nat) : gI (stG a kw σ r w) n i k = gI σ n i k := if_neg (fun q => h q.1)
theorem gGL : gL (stG a kw σ r w) a 0 kw = w := if_pos ⟨rfl, rfl, rfl⟩
theorem gGLn {n : Nat} (h : n ≠ a) (i k : Nat) : gL (stG a kw σ r w) n i k = gL σ n i k := if_neg (fun q => h q.1)
theorem gGR (q : Nat) : gR (stG a kw σ r w) q = gR σ q := rfl
theorem sG (k : Nat) (v : Int32) : sI (stG a kw σ r w) a 0 k v = stG a kw σ (upd r k v) w := by
  refine Prod.ext ?_ rfl
  funext x y z
  show (if x = a ∧ y = 0 ∧ z = k then v else if x = a ∧ y = 0 then r z else σ.1 x y z) = if x = a ∧ y = 0 then (if z = k then v else r z) else σ.1 x y z
  by_cases h1 : x = a ∧ y = 0
  · by_cases h2 : z = k
    · rw [if_pos ⟨h1.1, h1.2, h2⟩, if_pos h1, if_pos h2]
    · rw [if_neg (fun q => h2 q.2.2), if_pos h1, if_pos h1, if_neg h2]
  · rw [if_neg (fun q => h1 ⟨q.1, q.2.1⟩), if_neg h1, if_neg h1]
theorem sGL (v : Int64) : sL (stG a kw σ r w) a 0 kw v = stG a kw σ r v := by
  refine Prod.ext rfl (Prod.ext ?_ rfl)
  funext x y z
  show (if x = a ∧ y = 0 ∧ z = kw then v else if x = a ∧ y = 0 ∧ z = kw then w else σ.2.1 x y z) = if x = a ∧ y = 0 ∧ z = kw then v else σ.2.1 x y z
  by_cases h1 : x = a ∧ y = 0 ∧ z = kw
  · rw [if_pos h1, if_pos h1]
  · rw [if_neg h1, if_neg h1, if_neg h1]
theorem sGn {n : Nat} (h : n ≠ a) (i k : Nat) (v : Int32) : sI (stG a kw σ r w) n i k v = stG a kw (sI σ n i k v) r w := by
  refine Prod.ext ?_ rfl
  funext x y z
  show (if x = n ∧ y = i ∧ z = k then v else if x = a ∧ y = 0 then r z else σ.1 x y z) = if x = a ∧ y = 0 then r z else if x = n ∧ y = i ∧ z = k then v else σ.1 x y z
  by_cases h1 : x = n ∧ y = i ∧ z = k
  · rw [if_pos h1, if_neg (fun q => h (h1.1.symm.trans q.1)), if_pos h1]
  · rw [if_neg h1, if_neg h1]
theorem sGLn {n : Nat} (h : n ≠ a) (i k : Nat) (v : Int64) : sL (stG a kw σ r w) n i k v = stG a kw (sL σ n i k v) r w := by
  refine Prod.ext rfl (Prod.ext ?_ rfl)
  funext x y z
  show (if x = n ∧ y = i ∧ z = k then v else if x = a ∧ y = 0 ∧ z = kw then w else σ.2.1 x y z) = if x = a ∧ y = 0 ∧ z = kw then w else if x = n ∧ y = i ∧ z = k then v else σ.2.1 x y z
  by_cases h1 : x = n ∧ y = i ∧ z = k
  · rw [if_pos h1, if_neg (fun q => h (h1.1.symm.trans q.1)), if_pos h1]
  · rw [if_neg h1, if_neg h1]
end StG
theorem stG_self (a kw : Nat) (σ : Hp) : stG a kw σ (fun k => gI σ a 0 k) (gL σ a 0 kw) = σ := by
  refine Prod.ext ?_ (Prod.ext ?_ rfl)
  · funext x y z
    show (if x = a ∧ y = 0 then σ.1 a 0 z else σ.1 x y z) = σ.1 x y z
    by_cases h : x = a ∧ y = 0
    · rw [if_pos h, h.1, h.2]
    · rw [if_neg h]
  · funext x y z
    show (if x = a ∧ y = 0 ∧ z = kw then σ.2.1 a 0 kw else σ.2.1 x y z) = σ.2.1 x y z
    by_cases h : x = a ∧ y = 0 ∧ z = kw
    · rw [if_pos h, h.1, h.2.1, h.2.2]
    · rw [if_neg h]
theorem wb_shl (n : Nat) {k : Nat} (hk : k < 64) : lN n <<< ((nI k).toInt64 &&& 63) = lN (n * 2 ^ k) := by
  rw [wb_c k hk]
  apply wb_inj
  rw [Int64.toBitVec_shiftLeft, wb_tb, wb_tb, wb_tb, wb_smd k hk]
  apply BitVec.eq_of_toNat_eq
  rw [BitVec.shiftLeft_eq', BitVec.toNat_shiftLeft, BitVec.toNat_ofNat, BitVec.toNat_ofNat, BitVec.toNat_ofNat, Nat.mod_eq_of_lt (show k < 2 ^ 64 by omega), Nat.shiftLeft_eq, Nat.mul_mod, Nat.mod_mod, ← Nat.mul_mod]
theorem fb_orL (a b : Nat) : lN a ||| lN b = lN (a ||| b) := by
  apply Int64.toBitVec_inj.1
  show BitVec.ofNat 64 a ||| BitVec.ofNat 64 b = BitVec.ofNat 64 (a ||| b)
  apply BitVec.eq_of_getLsbD_eq
  intro i hi
  simp [hi]
theorem word_sh {t : Nat} (v : Nat) (ht : t < 256) : (lN v <<< ((8 : Int32).toInt64 &&& 63)) ||| lN t = lN (256 * v + t) := by
  rw [show (8 : Int32) = nI 8 from rfl, wb_shl v (by decide), fb_orL, Nat.mul_comm v, ← Nat.two_pow_add_eq_or_of_lt (i := 8) ht v]
/-! ===== the class's next token ===== -/
def CT (σ : Hp) (T : Tx) (N : Nat) : Prop := ∀ k, k < N → T k < 256 ∧ (T k < 128 → gI σ 37 0 k = nI (T k)) ∧ (128 ≤ T k → gI σ 37 0 k < 0)
def TCr (T : Tx) (N b : Nat) (r : Nat → Int32) (w : Int64) : Prop := r 4 = nI (stT T N b) ∧ r 6 = nI (kdT T N b) ∧ (kdT T N b ≠ 4 → r 5 = nI (enT T N b)) ∧ (kdT T N b = 1 → w = lN (wvT T N b)) ∧ (kdT T N b = 2 → r 8 = nI (dvT T N b))
def Fr4 (r0 r : Nat → Int32) : Prop := ∀ c, c ≠ 4 → c ≠ 5 → c ≠ 6 → c ≠ 8 → r c = r0 c
theorem Fr4.refl (r : Nat → Int32) : Fr4 r r := fun _ _ _ _ _ => rfl
theorem Fr4.u {r0 r : Nat → Int32} (h : Fr4 r0 r) {c : Nat} (hc : c = 4 ∨ c = 5 ∨ c = 6 ∨ c = 8) (v : Int32) : Fr4 r0 (upd r c v) := fun x h1 h2 h3 h4 => by
  rw [pk_un (by omega)]
  exact h x h1 h2 h3 h4
theorem Fr4.trans {r0 r r2 : Nat → Int32} (h : Fr4 r0 r) (h2 : Fr4 r r2) : Fr4 r0 r2 := fun c a b d e => (h2 c a b d e).trans (h c a b d e)
theorem neg_lt0 {x : Int32} (h : x < 0) {k : Nat} (hk : k < 2 ^ 31) : x < nI k := by
  rw [Int32.lt_iff_toInt_lt] at h ⊢
  rw [nI_toInt hk]
  have : (0 : Int32).toInt = 0 := rfl
  omega
theorem neg_ne {x : Int32} (h : x < 0) {k : Nat} (hk : k < 2 ^ 31) : ¬ x = nI k := fun e => by
  have := neg_lt0 h hk
  rw [e, Int32.lt_iff_toInt_lt] at this
  omega
section TokC
variable {σ : Hp} {T : Tx} {N : Nat} {Q : Hp → Prop}
theorem ct_eq {k v : Nat} (hT : CT σ T N) (hk : k < N) (hv : v < 128) : (gI σ 37 0 k = nI v) = (T k = v) := by
  obtain ⟨h1, h2, h3⟩ := hT k hk
  rcases Nat.lt_or_ge (T k) 128 with q | q
  · rw [h2 q, eq_nI (by omega) (by omega)]
  · exact propext ⟨fun e => absurd e (neg_ne (h3 q) (by omega)), fun e => by omega⟩
theorem ct_in {k lo hi : Nat} {Q0 Q1 : Prop} (hT : CT σ T N) (hk : k < N) (hlo : lo < 128) (hhi : hi < 128) (h1 : lo ≤ T k ∧ T k ≤ hi → Q1) (h0 : ¬ (lo ≤ T k ∧ T k ≤ hi) → Q0) : ((gI σ 37 0 k < nI lo → Q0) ∧ (¬ gI σ 37 0 k < nI lo → ((nI hi < gI σ 37 0 k → Q0) ∧ (¬ nI hi < gI σ 37 0 k → Q1)))) := by
  obtain ⟨a1, a2, a3⟩ := hT k hk
  rcases Nat.lt_or_ge (T k) 128 with q | q
  · rw [a2 q, lt_nI (by omega) (by omega), lt_nI (by omega) (by omega)]
    exact ⟨fun p => h0 (by omega), fun p => ⟨fun p2 => h0 (by omega), fun p2 => h1 (by omega)⟩⟩
  · exact ⟨fun _ => h0 (by omega), fun p => absurd (neg_lt0 (a3 q) (by omega)) p⟩
theorem ct_let {k : Nat} {R : Int32 → Hp → Prop} {σ' : Hp} (hT : CT σ T N) (hk : k < N) (h1 : letB T k = true → R 1 σ') (h0 : letB T k = false → R 0 σ') : S_X4_isLetter (gI σ 37 0 k) σ' R :=
  ct_in (lo := 97) (hi := 122) hT hk (by decide) (by decide) (fun q => h1 (decide_eq_true q)) (fun q => h0 (decide_eq_false q))
theorem ct_dig {k : Nat} {R : Int32 → Hp → Prop} {σ' : Hp} (hT : CT σ T N) (hk : k < N) (h1 : digB T k = true → R 1 σ') (h0 : digB T k = false → R 0 σ') : S_X4_isDigit (gI σ 37 0 k) σ' R :=
  ct_in (lo := 48) (hi := 57) hT hk (by decide) (by decide) (fun q => h1 (decide_eq_true q)) (fun q => h0 (decide_eq_false q))
theorem c_wrd {b : Nat} {r : Nat → Int32} {w : Int64} (hN : N ≤ 900) (hT : CT σ T N) (hb : b ≤ N) (hl : stT T N b < N) (h59 : ¬ T (stT T N b) = 59) (hlet : letB T (stT T N b) = true) (h3 : r 3 = nI N) (h4 : r 4 = nI (stT T N b)) (h5 : r 5 = nI (stT T N b)) (k : ∀ r' w', Fr4 r r' → TCr T N b r' w' → Q (stG 4 7 σ r' w')) : S_X4_stepWord (stG 4 7 σ r w) Q := by
  have l := tk_le (T := T) hb
  have c : enT T N b = scn (letB T) N (stT T N b) ∧ ((enT T N b - stT T N b ≤ 8 ∧ kdT T N b = 1) ∨ (8 < enT T N b - stT T N b ∧ kdT T N b = 4)) := by
    rcases tk_cases T N b with c | c | c | c | c
    · omega
    · omega
    · exact c.2.2.2
    · rw [hlet] at c; exact absurd c.2.2.1 (by decide)
    · rw [hlet] at c; exact absurd c.2.2.1 (by decide)
  have sp := scn_spec (letB T) l.2.1
  rw [← c.1] at sp
  obtain ⟨s, hs⟩ : ∃ s, stT T N b = s := ⟨_, rfl⟩
  obtain ⟨e, he⟩ : ∃ e, enT T N b = e := ⟨_, rfl⟩
  rw [hs, he] at sp
  rw [hs] at h4 h5 hl
  have hdg : ∀ m, m < e - s → dgT T N b m = T (s + m) := by
    intro m hm
    unfold dgT
    rw [hs, he, if_pos hm]
  have hdg2 : ∀ m, e - s ≤ m → dgT T N b m = 32 := by
    intro m hm
    unfold dgT
    rw [hs, he, if_neg (by omega)]
  unfold S_X4_stepWord
  rintro _ rfl
  rw [sGL]
  have fin : ∀ r' w', Fr4 r r' → r' 4 = nI s → r' 5 = nI e → (e - s ≤ 8 → w' = lN (pkN (dgT T N b) 8)) → (((8 : Int32) < ((gI (stG 4 7 σ r' w') 4 0 5) - (gI (stG 4 7 σ r' w') 4 0 4)) → ∀ σ11, σ11 = sI (stG 4 7 σ r' w') 4 0 6 4 → Q σ11) ∧ (¬ (8 : Int32) < ((gI (stG 4 7 σ r' w') 4 0 5) - (gI (stG 4 7 σ r' w') 4 0 4)) → ∀ σ12, σ12 = sI (stG 4 7 σ r' w') 4 0 6 1 → Q σ12)) := by
    intro r' w' hf a4 a5 aw
    rw [gG, gG, a4, a5, sub_nI (by omega), show (8 : Int32) = nI 8 from rfl, lt_nI (by decide) (by omega)]
    refine ⟨fun q => ?_, fun q => ?_⟩
    · rintro _ rfl
      rw [sG]
      refine k _ _ (hf.u (by omega) _) ⟨?_, ?_, fun q2 => by omega, fun q2 => by omega, fun q2 => by omega⟩
      · rw [pk_un (by decide), hs]; exact a4
      · rw [pk_us, show kdT T N b = 4 by omega]; rfl
    · rintro _ rfl
      rw [sG]
      refine k _ _ (hf.u (by omega) _) ⟨?_, ?_, fun _ => ?_, fun _ => aw (by omega), fun q2 => by omega⟩
      · rw [pk_un (by decide), hs]; exact a4
      · rw [pk_us, show kdT T N b = 1 by omega]; rfl
      · rw [pk_un (by decide), he]; exact a5
  have pad : ∀ j m r', m + j = 8 → e - s ≤ m → Fr4 r r' → r' 4 = nI s → r' 5 = nI e → L_X4_stepWord_76 Q (fun σ10 => (((8 : Int32) < ((gI σ10 4 0 5) - (gI σ10 4 0 4)) → ∀ σ11, σ11 = sI σ10 4 0 6 4 → Q σ11) ∧ (¬ (8 : Int32) < ((gI σ10 4 0 5) - (gI σ10 4 0 4)) → ∀ σ12, σ12 = sI σ10 4 0 6 1 → Q σ12))) (j + 1) (nI m) (stG 4 7 σ r' (lN (pkN (dgT T N b) m))) := by
    intro j
    induction j with
    | zero =>
      intro m r' hm hle hf a4 a5
      have : m = 8 := by omega
      subst this
      exact ⟨fun _ => fin r' _ hf a4 a5 (fun _ => rfl), fun q => absurd (by decide) q⟩
    | succ j ih =>
      intro m r' hm hle hf a4 a5
      unfold L_X4_stepWord_76
      rw [show (8 : Int32) ≤ nI m ↔ nI 8 ≤ nI m from Iff.rfl, le_nI (by decide) (by omega)]
      refine ⟨fun q => by omega, fun _ => ?_⟩
      rintro _ rfl
      rw [gGL, sGL, show (32 : Int64) = lN 32 from rfl, word_sh _ (by decide), show nI m + 1 = nI (m + 1) from add_nI m 1]
      have := ih (m + 1) r' (by omega) (by omega) hf a4 a5
      rw [show pkN (dgT T N b) (m + 1) = 256 * pkN (dgT T N b) m + dgT T N b m from rfl, hdg2 m hle] at this
      exact this
  have go : ∀ j m r', m + j = e - s → Fr4 r r' → r' 4 = nI s → r' 5 = nI (s + m) → L_X4_stepWord_5 Q (fun σ7 => J_X4_stepWord_66 Q σ7) (j + 1) (stG 4 7 σ r' (lN (pkN (dgT T N b) m))) := by
    intro j
    induction j with
    | zero =>
      intro m r' hm hf a4 a5
      have a3 : r' 3 = nI N := (hf 3 (by decide) (by decide) (by decide) (by decide)).trans h3
      have e1 : s + m = e := by omega
      rw [e1] at a5
      have kk : J_X4_stepWord_66 Q (stG 4 7 σ r' (lN (pkN (dgT T N b) m))) := by
        unfold J_X4_stepWord_66
        rw [gG, gG, a4, a5, sub_nI (by omega)]
        rcases Nat.lt_or_ge m 9 with q | q
        · refine ⟨8 - m + 1, ?_⟩
          rw [show e - s = m by omega]
          exact pad (8 - m) m r' (by omega) (by omega) hf a4 a5
        · refine ⟨1, ?_⟩
          unfold L_X4_stepWord_76
          rw [show (8 : Int32) ≤ nI (e - s) ↔ nI 8 ≤ nI (e - s) from Iff.rfl, le_nI (by decide) (by omega)]
          exact ⟨fun _ => fin r' _ hf a4 a5 (fun q2 => by omega), fun q2 => by omega⟩
      unfold L_X4_stepWord_5
      rw [gG, gG, a3, a5, le_nI (by omega) (by omega), gGn (by decide), ix_nI (by omega)]
      refine ⟨fun _ => kk, fun q => ⟨vp_in_nI (by omega) (by decide), ct_let hT (by omega) (fun q2 => ?_) (fun _ => b0' kk)⟩⟩
      rw [sp.2.2.2 (by omega)] at q2
      exact absurd q2 (by decide)
    | succ j ih =>
      intro m r' hm hf a4 a5
      have a3 : r' 3 = nI N := (hf 3 (by decide) (by decide) (by decide) (by decide)).trans h3
      have hlt := sp.2.2.1 (s + m) (by omega) (by omega)
      have hb2 := of_decide_eq_true hlt
      unfold L_X4_stepWord_5
      rw [gG, gG, a3, a5, le_nI (by omega) (by omega), gGn (by decide), ix_nI (by omega)]
      refine ⟨fun q => by omega, fun q => ⟨vp_in_nI (by omega) (by decide), ct_let hT (by omega) (fun _ => b1' ?_) (fun q2 => ?_)⟩⟩
      · rw [gG, a5]
        refine ⟨vp_in_nI (by omega) (by decide), ?_⟩
        rintro _ rfl _ rfl
        have := ih (m + 1) (upd r' 5 (nI (s + (m + 1)))) (by omega) (hf.u (by omega) _) (by rw [pk_un (by decide)]; exact a4) pk_us
        rw [show pkN (dgT T N b) (m + 1) = 256 * pkN (dgT T N b) m + dgT T N b m from rfl, hdg m (by omega)] at this
        rw [gGL, sGL, gG, a5, sG, gGn (by decide), ix_nI (by omega), ((hT (s + m) (by omega)).2.1 (by omega)), nI_l (by omega), word_sh _ (by omega), show nI (s + m) + 1 = nI (s + (m + 1)) from add_nI (s + m) 1]
        exact this
      · rw [hlt] at q2
        exact absurd q2 (by decide)
  exact ⟨e - s + 1, go (e - s) 0 r (by omega) (Fr4.refl r) h4 h5⟩
theorem c_whl {b : Nat} {r : Nat → Int32} {w : Int64} (hN : N ≤ 900) (hT : CT σ T N) (hb : b ≤ N) (hl : stT T N b < N) (h59 : ¬ T (stT T N b) = 59) (hlet : letB T (stT T N b) = false) (hdig : digB T (stT T N b) = true) (h3 : r 3 = nI N) (h4 : r 4 = nI (stT T N b)) (h5 : r 5 = nI (stT T N b)) (k : ∀ r' w', Fr4 r r' → TCr T N b r' w' → Q (stG 4 7 σ r' w')) : S_X4_stepWhole (stG 4 7 σ r w) Q := by
  have l := tk_le (T := T) hb
  have c : enT T N b = scn (digB T) N (stT T N b) ∧ ((enT T N b - stT T N b ≤ 3 ∧ kdT T N b = 2) ∨ (3 < enT T N b - stT T N b ∧ kdT T N b = 4)) := by
    rcases tk_cases T N b with c | c | c | c | c
    · omega
    · omega
    · rw [hlet] at c; exact absurd c.2.2.1 (by decide)
    · exact c.2.2.2.2
    · rw [hdig] at c; exact absurd c.2.2.2.1 (by decide)
  have sp := scn_spec (digB T) l.2.1
  rw [← c.1] at sp
  obtain ⟨s, hs⟩ : ∃ s, stT T N b = s := ⟨_, rfl⟩
  obtain ⟨e, he⟩ : ∃ e, enT T N b = e := ⟨_, rfl⟩
  rw [hs, he] at sp
  rw [hs] at h4 h5 hl
  unfold S_X4_stepWhole
  rintro _ rfl
  rw [sG]
  have fin : ∀ r', Fr4 r r' → r' 4 = nI s → r' 5 = nI e → r' 8 = nI (dvF T s (e - s)) → J_X4_stepWhole_68 Q (stG 4 7 σ r' w) := by
    intro r' hf a4 a5 a8
    unfold J_X4_stepWhole_68
    rw [gG, gG, a4, a5, sub_nI (by omega), show (3 : Int32) = nI 3 from rfl, lt_nI (by decide) (by omega)]
    refine ⟨fun q => ?_, fun q => ?_⟩
    · rintro _ rfl
      rw [sG]
      refine k _ _ (hf.u (by omega) _) ⟨?_, ?_, fun q2 => by omega, fun q2 => by omega, fun q2 => by omega⟩
      · rw [pk_un (by decide), hs]; exact a4
      · rw [pk_us, show kdT T N b = 4 by omega]; rfl
    · rintro _ rfl
      rw [sG]
      refine k _ _ (hf.u (by omega) _) ⟨?_, ?_, fun _ => ?_, fun q2 => by omega, fun _ => ?_⟩
      · rw [pk_un (by decide), hs]; exact a4
      · rw [pk_us, show kdT T N b = 2 by omega]; rfl
      · rw [pk_un (by decide), he]; exact a5
      · rw [pk_un (by decide), a8]
        unfold dvT
        rw [hs, he]
  have go : ∀ j m r', m + j = e - s → Fr4 r r' → r' 4 = nI s → r' 5 = nI (s + m) → r' 8 = nI (dvF T s m) → L_X4_stepWhole_5 Q (fun σ7 => J_X4_stepWhole_68 Q σ7) (j + 1) (stG 4 7 σ r' w) := by
    intro j
    induction j with
    | zero =>
      intro m r' hm hf a4 a5 a8
      have a3 : r' 3 = nI N := (hf 3 (by decide) (by decide) (by decide) (by decide)).trans h3
      have e1 : s + m = e := by omega
      rw [e1] at a5
      have kk := fin r' hf a4 a5 (by rw [a8, show m = e - s by omega])
      unfold L_X4_stepWhole_5
      rw [gG, gG, a3, a5, le_nI (by omega) (by omega), gGn (by decide), ix_nI (by omega)]
      refine ⟨fun _ => kk, fun q => ⟨vp_in_nI (by omega) (by decide), ct_dig hT (by omega) (fun q2 => ?_) (fun _ => b0' kk)⟩⟩
      rw [sp.2.2.2 (by omega)] at q2
      exact absurd q2 (by decide)
    | succ j ih =>
      intro m r' hm hf a4 a5 a8
      have a3 : r' 3 = nI N := (hf 3 (by decide) (by decide) (by decide) (by decide)).trans h3
      have hlt := sp.2.2.1 (s + m) (by omega) (by omega)
      have hb2 := of_decide_eq_true hlt
      unfold L_X4_stepWhole_5
      rw [gG, gG, a3, a5, le_nI (by omega) (by omega), gGn (by decide), ix_nI (by omega)]
      refine ⟨fun q => by omega, fun q => ⟨vp_in_nI (by omega) (by decide), ct_dig hT (by omega) (fun _ => b1' ?_) (fun q2 => ?_)⟩⟩
      · rw [gG, a5]
        refine ⟨vp_in_nI (by omega) (by decide), ?_⟩
        rintro _ rfl _ rfl
        rw [gG, a8, sG, gG, pk_un (by decide), a5, sG, gGn (by decide), ix_nI (by omega), ((hT (s + m) (by omega)).2.1 (by omega)), show (10 : Int32) = nI 10 from rfl, show (48 : Int32) = nI 48 from rfl, mul_nI, sub_nI (by omega), add_nI, show nI (s + m) + 1 = nI (s + (m + 1)) from add_nI (s + m) 1, Nat.mul_comm _ 10]
        exact ih (m + 1) _ (by omega) ((hf.u (by omega) _).u (by omega) _) (by rw [pk_un (by decide), pk_un (by decide)]; exact a4) pk_us (by rw [pk_un (by decide), pk_us]; rfl)
      · rw [hlt] at q2
        exact absurd q2 (by decide)
  exact ⟨e - s + 1, go (e - s) 0 _ (by omega) ((Fr4.refl r).u (by omega) _) (by rw [pk_un (by decide)]; exact h4) (by rw [pk_un (by decide)]; exact h5) pk_us⟩
theorem c_tok {b : Nat} {r : Nat → Int32} {w : Int64} (hN : N ≤ 900) (hT : CT σ T N) (hb : b ≤ N) (h10 : r 10 = 0) (h3 : r 3 = nI N) (h5 : r 5 = nI b) (k : ∀ r' w', Fr4 r r' → TCr T N b r' w' → Q (stG 4 7 σ r' w')) : S_X4_step (stG 4 7 σ r w) Q := by
  have l := tk_le (T := T) hb
  have sp := scn_spec (spB T) hb
  have hst : scn (spB T) N b = stT T N b := rfl
  rw [hst] at sp
  unfold S_X4_step
  rw [gG, gG, h10, h5]
  refine b0' ?_
  rintro _ rfl
  rw [sG]
  have j54 : ∀ r', Fr4 r r' → r' 4 = nI (stT T N b) → J_X4_step_54 Q (stG 4 7 σ r' w) := by
    intro r' hf a4
    have a3 : r' 3 = nI N := (hf 3 (by decide) (by decide) (by decide) (by decide)).trans h3
    unfold J_X4_step_54
    rintro _ rfl
    have f5 : Fr4 r (upd r' 5 (nI (stT T N b))) := hf.u (by omega) _
    have b4 : upd r' 5 (nI (stT T N b)) 4 = nI (stT T N b) := by rw [pk_un (by decide)]; exact a4
    have b3 : upd r' 5 (nI (stT T N b)) 3 = nI N := by rw [pk_un (by decide)]; exact a3
    rw [gG, a4, sG, gG, gG, b4, b3, lt_nI (by omega) (by omega), gGn (by decide), ix_nI (by omega)]
    refine ⟨fun q => ⟨vp_in_nI (by omega) (by decide), ?_⟩, fun q => ?_⟩
    · rw [show (59 : Int32) = nI 59 from rfl, ct_eq hT q (by decide)]
      refine ⟨fun q59 => ⟨vp_in_nI (by omega) (by decide), ct_let hT q (fun q2 => b1' ?_) (fun q2 => b0' ?_)⟩, fun q59 => ?_⟩
      · exact c_wrd hN hT hb q q59 q2 b3 b4 pk_us (fun r'' w'' hf2 ht => k r'' w'' (f5.trans hf2) ht)
      · rw [gG, b4, gGn (by decide), ix_nI (by omega)]
        refine ⟨vp_in_nI (by omega) (by decide), ct_dig hT q (fun q3 => b1' ?_) (fun q3 => b0' ?_)⟩
        · exact c_whl hN hT hb q q59 q2 q3 b3 b4 pk_us (fun r'' w'' hf2 ht => k r'' w'' (f5.trans hf2) ht)
        · rintro _ rfl
          rw [sG]
          have kd : kdT T N b = 4 := by
            rcases tk_cases T N b with c | c | c | c | c
            · omega
            · omega
            · rw [q2] at c; exact absurd c.2.2.1 (by decide)
            · rw [q3] at c; exact absurd c.2.2.2.1 (by decide)
            · exact c.2.2.2.2.1
          refine k _ _ (f5.u (by omega) _) ⟨?_, ?_, fun q4 => by omega, fun q4 => by omega, fun q4 => by omega⟩
          · rw [pk_un (by decide)]; exact b4
          · rw [pk_us, kd]; rfl
      · rintro _ rfl _ rfl
        have kd : kdT T N b = 3 ∧ enT T N b = stT T N b + 1 := by
          rcases tk_cases T N b with c | c | c | c | c
          · omega
          · exact c.2.2
          · exact absurd q59 c.2.1
          · exact absurd q59 c.2.1
          · exact absurd q59 c.2.1
        rw [sG, gG, pk_un (by decide), b4, sG, show nI (stT T N b) + 1 = nI (stT T N b + 1) from add_nI _ 1]
        refine k _ _ ((f5.u (by omega) _).u (by omega) _) ⟨?_, ?_, fun _ => ?_, fun q4 => by omega, fun q4 => by omega⟩
        · rw [pk_un (by decide), pk_un (by decide)]; exact b4
        · rw [pk_un (by decide), pk_us, kd.1]; rfl
        · rw [pk_us, kd.2]
    · rintro _ rfl
      have kd : kdT T N b = 0 ∧ enT T N b = stT T N b := by
        rcases tk_cases T N b with c | c | c | c | c
        · exact c.2
        · omega
        · omega
        · omega
        · omega
      rw [sG]
      refine k _ _ (f5.u (by omega) _) ⟨?_, ?_, fun _ => ?_, fun q4 => by omega, fun q4 => by omega⟩
      · rw [pk_un (by decide)]; exact b4
      · rw [pk_us, kd.1]; rfl
      · rw [pk_un (by decide), pk_us, kd.2]
  have go : ∀ j m r', m + j = stT T N b → b ≤ m → Fr4 r r' → r' 4 = nI m → L_X4_step_16 Q (fun σ4 => J_X4_step_54 Q σ4) (j + 1) (stG 4 7 σ r' w) := by
    intro j
    induction j with
    | zero =>
      intro m r' hm hbm hf a4
      have a3 : r' 3 = nI N := (hf 3 (by decide) (by decide) (by decide) (by decide)).trans h3
      have e1 : m = stT T N b := by omega
      subst e1
      have kk := j54 r' hf a4
      unfold L_X4_step_16
      rw [gG, gG, a3, a4, le_nI (by omega) (by omega), gGn (by decide), ix_nI (by omega)]
      refine ⟨fun _ => kk, fun q => ⟨vp_in_nI (by omega) (by decide), fun _ => kk, fun q2 => ?_⟩⟩
      have q3 := sp.2.2.2 (by omega)
      rw [show (32 : Int32) = nI 32 from rfl, ct_eq hT (by omega) (by decide)] at q2
      unfold spB at q3
      exact absurd q2 (of_decide_eq_false q3)
    | succ j ih =>
      intro m r' hm hbm hf a4
      have a3 : r' 3 = nI N := (hf 3 (by decide) (by decide) (by decide) (by decide)).trans h3
      have q3 := of_decide_eq_true (sp.2.2.1 m hbm (by omega))
      unfold L_X4_step_16
      rw [gG, gG, a3, a4, le_nI (by omega) (by omega), gGn (by decide), ix_nI (by omega), show (32 : Int32) = nI 32 from rfl, ct_eq hT (by omega) (by decide)]
      refine ⟨fun q => by omega, fun q => ⟨vp_in_nI (by omega) (by decide), fun q2 => absurd q3 q2, fun _ => ?_⟩⟩
      rintro _ rfl
      rw [sG, show nI m + 1 = nI (m + 1) from add_nI m 1]
      exact ih (m + 1) _ (by omega) (by omega) (hf.u (by omega) _) pk_us
  exact ⟨stT T N b - b + 1, go (stT T N b - b) b _ (by omega) (Nat.le_refl b) ((Fr4.refl r).u (by omega) _) pk_us⟩
end TokC
