/-! ===== the reference reads a link ===== -/
def FRm (l : Nat) (σ σ' : Hp) : Prop := (∀ a b c, ¬ (a = 58 ∧ 7 * l + 3 ≤ c ∧ c < 7 * l + 7) → gI σ' a b c = gI σ a b c) ∧ (∀ a b c, gL σ' a b c = gL σ a b c) ∧ (∀ a, gR σ' a = gR σ a)
theorem FRm.refl (l : Nat) (σ : Hp) : FRm l σ σ := ⟨fun _ _ _ _ => rfl, fun _ _ _ => rfl, fun _ => rfl⟩
theorem FRm.fm {l : Nat} {σ σ' : Hp} (h : FRm l σ σ') : FM σ σ' := ⟨fun a b c _ _ q => h.1 a b c (fun z => q z.1), fun a b c _ => h.2.1 a b c, h.2.2⟩
theorem FRm.s {l : Nat} {σ σ' : Hp} (h : FRm l σ σ') {c : Nat} (hc : 7 * l + 3 ≤ c ∧ c < 7 * l + 7) (i : Nat) (v : Int32) : FRm l σ (sI σ' 58 i c v) := by
  refine ⟨fun x y z q => ?_, h.2.1, h.2.2⟩
  rw [gI_sI, if_neg (by omega)]
  exact h.1 x y z q
theorem RDm.row {σ σ' : Hp} {p : PD} {nm : Nat → Int64} {hB : Nat} (h : RDm σ p nm hB) (hV : PV p) (h1 : ∀ a b c, ¬ (a = 58 ∧ 7 * nL p ≤ c ∧ c < 7 * nL p + 7) → gI σ' a b c = gI σ a b c) (h2 : ∀ a b c, gL σ' a b c = gL σ a b c) : RDm σ' p nm hB := by
  obtain ⟨a1, a2, a3, a4, a5, a6⟩ := h
  refine ⟨by rw [h1 54 0 5 (by omega)]; exact a1, by rw [h1 54 0 6 (by omega)]; exact a2, fun q c hc => by rw [h1 54 0 c (by omega)]; exact a3 q c hc, fun e he => ?_, fun l hl => ⟨fun j hj => ?_, ?_⟩, fun l i hl hi => ?_⟩
  · rw [h1 56 0 e (by omega), h2]
    exact a4 e he
  · rw [h1 58 0 _ (by omega)]
    exact (a5 l hl).1 j hj
  · rw [h2]
    exact (a5 l hl).2
  · have hr := (hV.2.2.2.2.2.2.2.2 l hl).2.2.2.2.2.2.1
    rw [h1 58 0 _ (by omega)]
    exact a6 l i hl hi
theorem RDm.fr {σ σ' : Hp} {p : PD} {nm : Nat → Int64} {hB : Nat} (h : RDm σ p nm hB) (hV : PV p) (hd : FRm (nL p) σ σ') : RDm σ' p nm hB := h.row hV (fun a b c q => hd.1 a b c (by omega)) hd.2.1
section RecsM
variable {T : Tx} {N hB : Nat} {OK : OT → Prop} {p : PD} {nm : Nat → Int64}
theorem m_isGapS {σ : Hp} {v : Nat} {R : Int32 → Hp → Prop} (hv : v ≤ 999) (h1 : isGap v → R 1 σ) (h0 : ¬ isGap v → R 0 σ) : S_X8_isGap (nI v) σ R := by
  unfold S_X8_isGap
  rw [show (nI v = (8 : Int32)) = (nI v = nI 8) from rfl, show (nI v = (16 : Int32)) = (nI v = nI 16) from rfl, show (nI v = (32 : Int32)) = (nI v = nI 32) from rfl, show (nI v = (64 : Int32)) = (nI v = nI 64) from rfl, show (nI v = (128 : Int32)) = (nI v = nI 128) from rfl, show (nI v = (256 : Int32)) = (nI v = nI 256) from rfl, eq_nI (by omega) (by decide), eq_nI (by omega) (by decide), eq_nI (by omega) (by decide), eq_nI (by omega) (by decide), eq_nI (by omega) (by decide), eq_nI (by omega) (by decide)]
  refine ⟨fun q => h1 (Or.inl q), fun q8 => ⟨fun q => h1 (Or.inr (Or.inl q)), fun q16 => ⟨fun q => h1 (Or.inr (Or.inr (Or.inl q))), fun q32 => ⟨fun q => h1 (Or.inr (Or.inr (Or.inr (Or.inl q)))), fun q64 => ⟨fun q => h1 (Or.inr (Or.inr (Or.inr (Or.inr (Or.inl q))))), fun q128 => ⟨fun q => h0 (fun g => ?_), fun q => h1 (Or.inr (Or.inr (Or.inr (Or.inr (Or.inr q)))))⟩⟩⟩⟩⟩⟩
  rcases g with g | g | g | g | g | g
  · exact q8 g
  · exact q16 g
  · exact q32 g
  · exact q64 g
  · exact q128 g
  · exact q g
theorem m_readGap {σ : Hp} {r : Nat → Int32} {w : Int64} {b : Nat} {R : Int32 → Hp → Prop} {kk : Nat → Nat → OT} (hN : N ≤ 900) (hT : MT σ T N) (hb : b ≤ N) (h15 : r 15 = nI N) (ht : TCm T N b r w) (h : OK (cif (isW T N 10 b) (gapO T N (enT T N b) kk) (erO 1 (stT T N b)))) (hE : ∀ f pl, OK (erO f pl) → 1 ≤ f → f ≤ 6 → ∀ r' w', EPm r r' f pl → R (-1) (stG 8 20 σ r' w')) (hK : ∀ g b', OK (kk g b') → isGap g → b < b' → b' ≤ N → ∀ r' w', Fr8 r r' → TCm T N b' r' w' → R (nI g) (stG 8 20 σ r' w')) : S_X8_readGap (stG 8 20 σ r w) R := by
  unfold S_X8_readGap
  refine m_isW hN hT hb (by decide) ht (fun i => b1 ?_) (fun i => b0 ?_)
  · rw [cif_pos i] at h
    unfold gapO at h
    have n1 := nx_lt hb (show kdT T N b ≠ 0 by rw [i.1]; decide)
    refine m_tok hN hT n1.2 h15 (ht.2.2.1 (by rw [i.1]; decide)) (fun r1 w1 f1 t1 => ?_)
    have z15 : r1 15 = nI N := (f1 15 (by decide) (by decide) (by decide) (by decide)).trans h15
    have k4 := kdT_le T N (enT T N b)
    have cv : ∀ {f pl : Nat} {ra rb : Nat → Int32}, FrM r ra → EPm ra rb f pl → EPm r rb f pl := fun a e => ⟨a.trans e.1, e.2.1, e.2.2⟩
    rw [gG, gG, t1.2.1, show (3 : Int32) = nI (mkT 2) from rfl, mk_eq k4 (by decide)]
    refine ⟨fun q => ?_, fun q => ?_⟩
    · rw [cif_pos q] at h
      have d := dv_lt n1.2 q
      rw [t1.2.2.2.2 q]
      refine m_isGapS d (fun g => b1' ?_) (fun g => b0' ?_)
      · rw [cif_pos g] at h
        have gg := gap_256 g
        have n2 := nx_lt n1.2 (show kdT T N (enT T N b) ≠ 0 by rw [q]; decide)
        unfold S_X8_passes
        rw [gG, gG, t1.2.1, show (3 : Int32) = nI (mkT 2) from rfl, mk_eq k4 (by decide), t1.2.2.2.2 q]
        refine ⟨fun _ => ?_, fun z => absurd q z⟩
        unfold S_X8_in
        rw [show (8 : Int32) = nI 8 from rfl, show (256 : Int32) = nI 256 from rfl, lt_nI (by omega) (by decide), lt_nI (by decide) (by omega)]
        refine ⟨fun z => by omega, fun _ => ⟨fun z => by omega, fun _ => b1 ?_⟩⟩
        exact m_tok hN hT n2.2 z15 (t1.2.2.1 (by rw [q]; decide)) (fun r2 w2 f2 t2 => hK _ _ h g (by omega) n2.2 r2 w2 (f1.trans f2) t2)
      · rw [cif_neg g] at h
        exact m_errs (f := 4) rfl t1.1 (fun r' e => hE 4 _ h (by decide) (by decide) r' w1 (cv f1.m e))
    · rw [cif_neg q] at h
      exact m_errs (f := 1) rfl t1.1 (fun r' e => hE 1 _ h (by decide) (by decide) r' w1 (cv f1.m e))
  · rw [cif_neg i] at h
    exact m_errs (f := 1) rfl ht.1 (fun r' e => hE 1 _ h (by decide) (by decide) r' w e)
theorem m_isHeard {σ : Hp} {r : Nat → Int32} {w : Int64} {l i e f : Nat} {q : Nat → Nat} {R : Int32 → Hp → Prop} (hl : l < 8) (hi : i ≤ 3) (he : e < 6) (hf : f < 6) (hq : ∀ j, j < i → q j < 6) (h0c : gI σ 58 0 (7 * l) = nI f) (h3c : gI σ 58 0 (7 * l + 3) = nI i) (h4c : ∀ j, j < i → gI σ 58 0 (7 * l + 4 + j) = nI (q j)) (h1 : (e = f ∨ ∃ j, j < i ∧ q j = e) → R 1 (stG 8 20 σ r w)) (h0 : ¬ (e = f ∨ ∃ j, j < i ∧ q j = e) → R 0 (stG 8 20 σ r w)) : S_X8_isHeard (nI (7 * l)) (nI e) (stG 8 20 σ r w) R := by
  have go : ∀ m j, j + m = i → (∀ j', j' < j → q j' ≠ e) → L_X8_isHeard_2 R (fun σ2 => vp_in (nI (7 * l) + 0) 56 ∧ ((¬ (gI σ2 58 0 (ix (nI (7 * l) + 0))) = (nI e) → R 0 σ2) ∧ ((gI σ2 58 0 (ix (nI (7 * l) + 0))) = (nI e) → R 1 σ2))) (fun σ3 => R 1 σ3) (nI (7 * l)) (nI e) (m + 1) (nI j) (stG 8 20 σ r w) := by
    intro m
    induction m with
    | zero =>
      intro j hj hno
      unfold L_X8_isHeard_2
      rw [show nI (7 * l) + 3 = nI (7 * l + 3) from add_nI _ 3, ix_nI (by omega), gGn (by decide), h3c, le_nI (by omega) (by omega)]
      refine ⟨vp_in_nI (by omega) (by decide), fun _ => ?_, fun z => absurd (by omega) z⟩
      rw [show nI (7 * l) + 0 = nI (7 * l) from add_nI _ 0, ix_nI (by omega), gGn (by decide), h0c, eq_nI (by omega) (by omega)]
      refine ⟨vp_in_nI (by omega) (by decide), fun z => h0 (fun c => ?_), fun z => h1 (Or.inl z.symm)⟩
      rcases c with c | ⟨j', c1, c2⟩
      · exact z c.symm
      · exact hno j' (by omega) c2
    | succ m ih =>
      intro j hj hno
      have hq' := hq j (by omega)
      have e4 : gI (stG 8 20 σ r w) 58 0 (7 * l + 4 + j) = nI (q j) := (gGn (by decide) _ _).trans (h4c j (by omega))
      have e3 : gI (stG 8 20 σ r w) 58 0 (7 * l + 3) = nI i := (gGn (by decide) _ _).trans h3c
      unfold L_X8_isHeard_2
      rw [show nI (7 * l) + 3 = nI (7 * l + 3) from add_nI _ 3, ix_nI (k := 7 * l + 3) (by omega), e3, le_nI (by omega) (by omega), show nI (7 * l) + 4 = nI (7 * l + 4) from add_nI _ 4, add_nI, ix_nI (k := 7 * l + 4 + j) (by omega), e4, eq_nI (by omega) (by omega), show nI j + 1 = nI (j + 1) from add_nI j 1]
      refine ⟨vp_in_nI (by omega) (by decide), fun z => by omega, fun _ => ⟨vp_in_nI (by omega) (by decide), fun z => ih (j + 1) (by omega) (fun j' hj' => ?_), fun z => h1 (Or.inr ⟨j, by omega, z⟩)⟩⟩
      rcases Nat.lt_or_ge j' j with a | a
      · exact hno j' a
      · rw [show j' = j by omega]
        exact z
  exact ⟨i + 1, go i 0 (by omega) (fun j' hj' => by omega)⟩
theorem m_readRec {σ : Hp} {r : Nat → Int32} {w : Int64} {b i f : Nat} {q : Nat → Nat} {R : Int32 → Hp → Prop} {kk : Nat → Nat → OT} (hN : N ≤ 900) (hT : MT σ T N) (hb : b ≤ N) (hV : PV p) (hl : nL p < 8) (hi : i < 3) (hf : f < nE p) (hq : ∀ j, j < i → q j < nE p) (hD : RDm σ p nm hB) (h0c : gI σ 58 0 (7 * nL p) = nI f) (h3c : gI σ 58 0 (7 * nL p + 3) = nI i) (h4c : ∀ j, j < i → gI σ 58 0 (7 * nL p + 4 + j) = nI (q j)) (h15 : r 15 = nI N) (ht : TCm T N b r w) (h : OK (keO T N b p nm (fun e b' => cif (e = f ∨ ∃ j, j < i ∧ q j = e) (erO 3 (stT T N b)) (kk e b')))) (hE : ∀ f pl, OK (erO f pl) → 1 ≤ f → f ≤ 6 → ∀ r' w', EPm r r' f pl → R (-1) (stG 8 20 σ r' w')) (hK : ∀ e b', OK (kk e b') → e < nE p → ¬ (e = f ∨ ∃ j, j < i ∧ q j = e) → b < b' → b' ≤ N → ∀ r' w', Fr8 r r' → TCm T N b' r' w' → R (nI e) (stG 8 20 (sI (sI σ 58 0 (7 * nL p + 4 + i) (nI e)) 58 0 (7 * nL p + 3) (nI (i + 1))) r' w')) : S_X8_readReceiver (nI (7 * nL p)) (stG 8 20 σ r w) R := by
  have h6 : nE p ≤ 6 := hV.2.2.2.2.2.1
  have h8 : nL p ≤ 8 := hV.2.2.2.2.2.2.1
  unfold keO at h
  unfold S_X8_readReceiver
  refine m_endHere hN hT hb h6 h8 hD ht (fun a1 a2 => ?_) (fun a1 a2 r' e => ?_) (fun a1 r' e => ?_)
  · rw [cif_pos a1, cif_pos a2] at h
    obtain ⟨e, he⟩ : ∃ e, fdE p nm (lN (wvT T N b)) = e := ⟨_, rfl⟩
    rw [he] at h a2 ⊢
    dsimp only at h
    refine ⟨fun _ => ?_, fun z => absurd z (ne_m1 (by omega))⟩
    refine m_isHeard hl (by omega) (by omega) (by omega) (fun j hj => by have := hq j hj; omega) h0c h3c h4c (fun c => b1' ?_) (fun c => b0' ?_)
    · rw [cif_pos c] at h
      exact m_errs (f := 3) rfl ht.1 (fun r' e => hE 3 _ h (by decide) (by decide) r' w e)
    · rw [cif_neg c] at h
      have e3 : gI (stG 8 20 σ r w) 58 0 (7 * nL p + 3) = nI i := (gGn (by decide) _ _).trans h3c
      rw [show nI (7 * nL p) + 3 = nI (7 * nL p + 3) from add_nI _ 3, ix_nI (k := 7 * nL p + 3) (by omega), e3, show nI (7 * nL p) + 4 = nI (7 * nL p + 4) from add_nI _ 4, add_nI (7 * nL p + 4) i, ix_nI (by omega)]
      refine ⟨vp_in_nI (by omega) (by decide), vp_in_nI (by omega) (by decide), ?_⟩
      rintro _ rfl
      rw [sGn (by decide), gGn (by decide), gI_sI, if_neg (by omega), h3c, show nI i + 1 = nI (i + 1) from add_nI i 1]
      refine ⟨vp_in_nI (by omega) (by decide), vp_in_nI (by omega) (by decide), ?_⟩
      rintro _ rfl
      rw [sGn (by decide)]
      have n1 := nx_lt hb (show kdT T N b ≠ 0 by rw [a1.1]; decide)
      have FF := ((FM.refl σ).s (a := 58) (by omega) 0 (7 * nL p + 4 + i) (nI e)).s (a := 58) (by omega) 0 (7 * nL p + 3) (nI (i + 1))
      exact m_tok hN (hT.fm FF) n1.2 h15 (ht.2.2.1 (by rw [a1.1]; decide)) (hK e _ h a2 c n1.1 n1.2)
  · rw [cif_pos a1, cif_neg a2] at h
    exact ⟨fun z => absurd rfl z, fun _ => hE 2 _ h (by decide) (by decide) r' w e⟩
  · rw [cif_neg a1] at h
    exact ⟨fun z => absurd rfl z, fun _ => hE 1 _ h (by decide) (by decide) r' w e⟩
theorem m_recs {σ0 : Hp} {r0 : Nat → Int32} {f bq : Nat} {kR : Nat → (Nat → Nat) → Nat → OT} {K271 K254 K269 : Hp → Prop} {Qr : Int32 → Hp → Prop} {y1 : Int32} (hN : N ≤ 900) (hT0 : MT σ0 T N) (hV : PV p) (hl8 : nL p < 8) (hD0 : RDm σ0 p nm hB) (hf : f < nE p) (hf0 : gI σ0 58 0 (7 * nL p) = nI f) (hr15 : r0 15 = nI N)
    (hk : ∀ i q b', kdT T N b' ≠ 3 → kdT T N b' ≠ 0 → kR i q b' = erO 1 (stT T N b'))
    (hE : ∀ f pl, OK (erO f pl) → 1 ≤ f → f ≤ 6 → ∀ σ' r' w', FRm (nL p) σ0 σ' → EPm r0 r' f pl → K269 (stG 8 20 σ' r' w'))
    (hE2 : ∀ b', OK (erO 1 (stT T N b')) → ∀ σ' r' w', FRm (nL p) σ0 σ' → FrM r0 r' → r' 16 = nI (stT T N b') → K254 (stG 8 20 σ' r' w'))
    (hK : ∀ i q b', OK (kR i q b') → 1 ≤ i → i ≤ 3 → bq ≤ b' → b' ≤ N → (∀ j, j < i → q j < nE p ∧ q j ≠ f) → (∀ j k, j < i → k < i → q j = q k → j = k) → ∀ σ' r' w', FRm (nL p) σ0 σ' → gI σ' 58 0 (7 * nL p + 3) = nI i → (∀ j, j < i → gI σ' 58 0 (7 * nL p + 4 + j) = nI (q j)) → Fr8 r0 r' → TCm T N b' r' w' → K271 (stG 8 20 σ' r' w')) :
    ∀ m i q b σ r w, m + i = 3 → 1 ≤ i → bq ≤ b → b ≤ N → FRm (nL p) σ0 σ → gI σ 58 0 (7 * nL p + 3) = nI i → (∀ j, j < i → gI σ 58 0 (7 * nL p + 4 + j) = nI (q j)) → (∀ j, j < i → q j < nE p ∧ q j ≠ f) → (∀ j k, j < i → k < i → q j = q k → j = k) → Fr8 r0 r → TCm T N b r w → OK (cif (kdT T N b = 1 ∧ i < 3) (rcO T N p nm f kR m i q b) (kR i q b)) → L_X8_readLink_226 Qr K271 K254 K269 y1 (nI (7 * nL p)) (m + 1) (stG 8 20 σ r w) := by
  intro m
  induction m with
  | zero =>
    intro i q b σ r w hmi hi hbq hb hF h3c h4c hq hd hfr ht h
    have k4 := kdT_le T N b
    have : i = 3 := by omega
    subst this
    rw [cif_neg (by omega)] at h
    have kk := hK 3 q b h (by decide) (by decide) hbq hb hq hd σ r w hF h3c h4c hfr ht
    unfold L_X8_readLink_226
    rw [gG, ht.2.1, show (59 : Int32) = nI (mkT 3) from rfl, mk_eq k4 (by decide), show (nI (mkT (kdT T N b)) = (0 : Int32)) = (nI (mkT (kdT T N b)) = nI (mkT 0)) from rfl, mk_eq k4 (by decide), show nI (7 * nL p) + 3 = nI (7 * nL p + 3) from add_nI _ 3, ix_nI (by omega), gGn (by decide), h3c]
    refine ⟨fun _ => kk, fun n3 => ⟨fun _ => kk, fun n0 => ⟨vp_in_nI (by omega) (by decide), fun z => absurd rfl z, fun _ => ?_⟩⟩⟩
    rw [hk 3 q b n3 n0] at h
    exact hE2 b h σ r w hF hfr.m ht.1
  | succ m ih =>
    intro i q b σ r w hmi hi hbq hb hF h3c h4c hq hd hfr ht h
    have k4 := kdT_le T N b
    have hD := hD0.fr hV hF
    have hT := hT0.fm hF.fm
    have f0 : gI σ 58 0 (7 * nL p) = nI f := (hF.1 58 0 _ (by omega)).trans hf0
    have h15 : r 15 = nI N := (hfr 15 (by decide) (by decide) (by decide) (by decide)).trans hr15
    have cv : ∀ {f pl : Nat} {ra rb : Nat → Int32}, FrM r0 ra → EPm ra rb f pl → EPm r0 rb f pl := fun a e => ⟨a.trans e.1, e.2.1, e.2.2⟩
    have fin : ¬ (kdT T N b = 1 ∧ i < 3) → K271 (stG 8 20 σ r w) := by
      intro c
      rw [cif_neg c] at h
      exact hK i q b h hi (by omega) hbq hb hq hd σ r w hF h3c h4c hfr ht
    unfold L_X8_readLink_226
    rw [gG, ht.2.1, show (59 : Int32) = nI (mkT 3) from rfl, mk_eq k4 (by decide), show (nI (mkT (kdT T N b)) = (0 : Int32)) = (nI (mkT (kdT T N b)) = nI (mkT 0)) from rfl, mk_eq k4 (by decide), show nI (7 * nL p) + 3 = nI (7 * nL p + 3) from add_nI _ 3, ix_nI (by omega), gGn (by decide), h3c, show (nI i = (3 : Int32)) = (nI i = nI 3) from rfl, eq_nI (by omega) (by decide)]
    refine ⟨fun c => fin (by omega), fun n3 => ⟨fun c => fin (by omega), fun n0 => ⟨vp_in_nI (by omega) (by decide), fun _ => ?_, fun c => by omega⟩⟩⟩
    have h' : OK (keO T N b p nm (fun e b' => cif (e = f ∨ ∃ j, j < i ∧ q j = e) (erO 3 (stT T N b)) (cif (kdT T N b' = 1 ∧ i + 1 < 3) (rcO T N p nm f kR m (i + 1) (qS q i e) b') (kR (i + 1) (qS q i e) b')))) := by
      by_cases c : kdT T N b = 1
      · rw [cif_pos ⟨c, by omega⟩] at h
        exact h
      · rw [cif_neg (fun z => c z.1), hk i q b n3 n0] at h
        unfold keO
        rw [cif_neg (fun z : isNm T N b => c z.1)]
        exact h
    refine m_readRec (OK := OK) hN hT hb hV hl8 (by omega) hf (fun j hj => (hq j hj).1) hD f0 h3c h4c h15 ht h' (fun f pl o a1 a6 r' w' e => ⟨fun z => absurd rfl z, fun _ => hE f pl o a1 a6 _ _ _ hF (cv hfr.m e)⟩) (fun e b' o he c hbb hbN r' w' f1 t1 => ⟨fun _ => ?_, fun z => absurd z (ne_m1 (by have : nE p ≤ 6 := hV.2.2.2.2.2.1; omega))⟩)
    have hF2 := (hF.s (c := 7 * nL p + 4 + i) (by omega) 0 (nI e)).s (c := 7 * nL p + 3) (by omega) 0 (nI (i + 1))
    refine ih (i + 1) (qS q i e) b' _ r' w' (by omega) (by omega) (by omega) hbN hF2 ?_ (fun j hj => ?_) (fun j hj => ?_) (fun j k hj hk' => ?_) (hfr.trans f1) t1 o
    · rw [gI_sI, if_pos ⟨rfl, rfl, rfl⟩]
    · rw [gI_sI, if_neg (by omega), gI_sI]
      unfold qS
      by_cases z : j = i
      · rw [if_pos ⟨rfl, rfl, by omega⟩, if_pos z]
      · rw [if_neg (by omega), if_neg z]
        exact h4c j (by omega)
    · unfold qS
      by_cases z : j = i
      · rw [if_pos z]; exact ⟨he, fun z2 => c (Or.inl z2)⟩
      · rw [if_neg z]; exact hq j (by omega)
    · unfold qS
      by_cases z : j = i
      · by_cases z2 : k = i
        · intro _; omega
        · rw [if_pos z, if_neg z2]
          intro ee
          exact absurd (Or.inr ⟨k, by omega, ee.symm⟩) c
      · by_cases z2 : k = i
        · rw [if_neg z, if_pos z2]
          intro ee
          exact absurd (Or.inr ⟨j, by omega, ee⟩) c
        · rw [if_neg z, if_neg z2]
          exact hd j k (by omega) (by omega)
end RecsM
