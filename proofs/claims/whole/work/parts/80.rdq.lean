/-! ===== the reference reads a text ===== -/
section ReadM
variable {T : Tx} {N : Nat} {Q : Int32 → Hp → Prop} {OK : OT → Prop}
theorem m_line {σ : Hp} {r : Nat → Int32} {w : Int64} {b hB : Nat} {p : PD} {nm : Nat → Int64} {k : PD → (Nat → Int64) → Nat → Nat → OT} (hk : ∀ p' nm' hb' b', kdT T N b' ≠ 3 → kdT T N b' ≠ 0 → k p' nm' hb' b' = erO 1 (stT T N b')) (hC : MK σ T N p nm hB r w b) (h : OK (linO T N p nm hB b k)) (hE : ∀ f pl, OK (erO f pl) → 1 ≤ f → f ≤ 6 → ∀ σ' r' w', FM σ σ' → EPm r r' f pl → Q (-1) (stG 8 20 σ' r' w')) (hK : ∀ p' nm' hB' b' v, OK (k p' nm' hB' b') → b < b' → ∀ σ' r' w', FM σ σ' → FrM r r' → MK σ' T N p' nm' hB' r' w' b' → ¬ v = -1 → Q v (stG 8 20 σ' r' w')) : S_X8_readLine (stG 8 20 σ r w) Q := by
  obtain ⟨hN, hT, hb, hI, hD, h15, h23, ht⟩ := hC
  have hC : MK σ T N p nm hB r w b := ⟨hN, hT, hb, hI, hD, h15, h23, ht⟩
  unfold linO at h
  unfold S_X8_readLine
  refine m_isW hN hT hb (by decide) ht (fun i => b1' ?_) (fun i => b0' ?_)
  · rw [cif_pos i] at h
    exact m_busL (OK := OK) hC i h hE (fun p' b' v o => hK p' nm 1 b' v o)
  · rw [cif_neg i] at h
    refine m_isW hN hT hb (by decide) ht (fun i2 => b1' ?_) (fun i2 => b0' ?_)
    · rw [cif_pos i2] at h
      exact m_endL (OK := OK) hC i2 h hE (fun p' nm' b' v o => hK p' nm' hB b' v o)
    · rw [cif_neg i2] at h
      refine m_isW hN hT hb (by decide) ht (fun i3 => b1' ?_) (fun i3 => b0' ?_)
      · rw [cif_pos i3] at h
        exact m_lnkL (OK := OK) hk hC i3 h hE (fun p' nm' b' v o => hK p' nm' hB b' v o)
      · rw [cif_neg i3] at h
        exact m_errs (f := 1) rfl ht.1 (fun r' e => hE 1 _ h (by decide) (by decide) _ _ _ (FM.refl σ) e)
theorem lin_k (m : Nat) : ∀ (p' : PD) (nm' : Nat → Int64) (hB' b' : Nat), kdT T N b' ≠ 3 → kdT T N b' ≠ 0 → (fun p' nm' hb' b' => cif (kdT T N b' = 3) (linsO T N m p' nm' hb' (enT T N b')) (cif (kdT T N b' = 0) (cif (nL p' = 0) (erO 6 (stT T N b')) (0, 0, p', nm')) (erO 1 (stT T N b')))) p' nm' hB' b' = erO 1 (stT T N b') := by
  intro p' nm' hB' b' a1 a2
  dsimp only
  rw [cif_neg a1, cif_neg a2]
theorem m_lins {σ0 : Hp} {r0 : Nat → Int32} (hE : ∀ f pl, OK (erO f pl) → 1 ≤ f → f ≤ 6 → ∀ σ' r' w', FM σ0 σ' → EPm r0 r' f pl → Q (-1) (stG 8 20 σ' r' w')) (hK : ∀ p nm, OK (0, 0, p, nm) → 0 < nL p → ∀ σ' r' w', FM σ0 σ' → FrM r0 r' → PI p 1 → RDm σ' p nm 1 → Q (nI (nL p)) (stG 8 20 σ' r' w')) :
    ∀ m b p nm hB σ r w, (kdT T N b = 3 → N < m + enT T N b) → FM σ0 σ → FrM r0 r → MK σ T N p nm hB r w b → OK (cif (kdT T N b = 3) (linsO T N m p nm hB (enT T N b)) (cif (kdT T N b = 0) (cif (nL p = 0) (erO 6 (stT T N b)) (0, 0, p, nm)) (erO 1 (stT T N b)))) → L_X8_readAll_44 Q (fun σ13 => (((gI σ13 8 0 18) = 0 → vp_in 6 7 ∧ ((¬ (gI σ13 54 0 (ix 6)) = 0 → vp_in 6 7 ∧ Q (gI σ13 54 0 (ix 6)) σ13) ∧ ((gI σ13 54 0 (ix 6)) = 0 → S_X8_errs 6 σ13 (fun r15 σ14 => Q r15 σ14)))) ∧ (¬ (gI σ13 8 0 18) = 0 → S_X8_errs 1 σ13 (fun r17 σ16 => Q r17 σ16)))) (fun σ18 => Q (-1) σ18) (m + 1) (stG 8 20 σ r w) := by
  have v6 : vp_in 6 7 := vp_in_nI (n := 6) (by decide) (by decide)
  have cv : ∀ {f pl : Nat} {ra rb : Nat → Int32}, FrM r0 ra → EPm ra rb f pl → EPm r0 rb f pl := fun a e => ⟨a.trans e.1, e.2.1, e.2.2⟩
  have fin : ∀ b p nm hB σ r w, ¬ kdT T N b = 3 → FM σ0 σ → FrM r0 r → MK σ T N p nm hB r w b → OK (cif (kdT T N b = 0) (cif (nL p = 0) (erO 6 (stT T N b)) (0, 0, p, nm)) (erO 1 (stT T N b))) → (((gI (stG 8 20 σ r w) 8 0 18) = 0 → vp_in 6 7 ∧ ((¬ (gI (stG 8 20 σ r w) 54 0 (ix 6)) = 0 → vp_in 6 7 ∧ Q (gI (stG 8 20 σ r w) 54 0 (ix 6)) (stG 8 20 σ r w)) ∧ ((gI (stG 8 20 σ r w) 54 0 (ix 6)) = 0 → S_X8_errs 6 (stG 8 20 σ r w) (fun r15 σ14 => Q r15 σ14)))) ∧ (¬ (gI (stG 8 20 σ r w) 8 0 18) = 0 → S_X8_errs 1 (stG 8 20 σ r w) (fun r17 σ16 => Q r17 σ16))) := by
    intro b p nm hB σ r w n3 hF hfr hC o
    obtain ⟨hN, hT, hb, hI, hD, h15, h23, ht⟩ := hC
    have k4 := kdT_le T N b
    have e6 : gI (stG 8 20 σ r w) 54 0 6 = nI (nL p) := (gGn (by decide) _ _).trans hD.2.1
    rw [show ix 6 = 6 from rfl, e6, gG, ht.2.1, show (nI (mkT (kdT T N b)) = (0 : Int32)) = (nI (mkT (kdT T N b)) = nI (mkT 0)) from rfl, mk_eq k4 (by decide), show (nI (nL p) = (0 : Int32)) = (nI (nL p) = nI 0) from rfl, eq_nI (by have : nL p ≤ 8 := hI.1.2.2.2.2.2.2.1; omega) (by decide)]
    refine ⟨fun q => ⟨v6, fun q2 => ⟨v6, ?_⟩, fun q2 => ?_⟩, fun q => ?_⟩
    · rw [cif_pos q, cif_neg q2] at o
      have hb1 : hB = 1 := by
        rcases Nat.lt_or_ge hB 1 with a | a
        · exact absurd (hI.2.1 (by omega)).2 q2
        · have := hI.2.2.2; omega
      subst hb1
      exact hK p nm o (by omega) σ r w hF hfr hI hD
    · rw [cif_pos q, cif_pos q2] at o
      exact m_errs (f := 6) rfl ht.1 (fun r' e => hE 6 _ o (by decide) (by decide) _ _ _ hF (cv hfr e))
    · rw [cif_neg q] at o
      exact m_errs (f := 1) rfl ht.1 (fun r' e => hE 1 _ o (by decide) (by decide) _ _ _ hF (cv hfr e))
  intro m
  induction m with
  | zero =>
    intro b p nm hB σ r w hm hF hfr hC o
    have hC' := hC
    obtain ⟨hN, hT, hb, hI, hD, h15, h23, ht⟩ := hC
    have k4 := kdT_le T N b
    have n3 : ¬ kdT T N b = 3 := fun q => by
      have := hm q
      have := (nx_lt hb (show kdT T N b ≠ 0 by rw [q]; decide)).2
      omega
    rw [cif_neg n3] at o
    unfold L_X8_readAll_44
    refine ⟨fun _ => fin b p nm hB σ r w n3 hF hfr hC' o, fun q => ?_⟩
    rw [gG, ht.2.1, show (59 : Int32) = nI (mkT 3) from rfl, mk_eq k4 (by decide)] at q
    exact absurd q n3
  | succ m ih =>
    intro b p nm hB σ r w hm hF hfr hC o
    have hC' := hC
    obtain ⟨hN, hT, hb, hI, hD, h15, h23, ht⟩ := hC
    have k4 := kdT_le T N b
    unfold L_X8_readAll_44
    rw [gG, ht.2.1, show (59 : Int32) = nI (mkT 3) from rfl, mk_eq k4 (by decide)]
    refine ⟨fun n3 => ?_, fun q => ?_⟩
    · rw [cif_neg n3] at o
      have ff := fin b p nm hB σ r w n3 hF hfr hC' o
      rw [gG, ht.2.1] at ff
      exact ff
    · rw [cif_pos q] at o
      have n1 := nx_lt hb (show kdT T N b ≠ 0 by rw [q]; decide)
      have hm' := hm q
      refine m_tok hN hT n1.2 h15 (ht.2.2.1 (by rw [q]; decide)) (fun r1 w1 f1 t1 => ?_)
      have hC1 : MK σ T N p nm hB r1 w1 (enT T N b) := ⟨hN, hT, n1.2, hI, hD, (f1 15 (by decide) (by decide) (by decide) (by decide)).trans h15, (f1 23 (by decide) (by decide) (by decide) (by decide)).trans h23, t1⟩
      have g1 := hfr.trans f1.m
      unfold linsO at o
      refine m_line (OK := OK) (lin_k m) hC1 o (fun f pl o' a1 a6 σ' r' w' hF' e => ⟨fun z => absurd rfl z, fun _ => hE f pl o' a1 a6 σ' r' w' (hF.trans hF') (cv g1 e)⟩) (fun p' nm' hB' b' v o' hbb σ' r' w' hF' hf' hC2 nv => ⟨fun _ => ?_, fun z => absurd z nv⟩)
      refine ih b' p' nm' hB' σ' r' w' (fun q3 => ?_) (hF.trans hF') (g1.trans hf') hC2 o'
      have := nx_lt hC2.2.2.1 (show kdT T N b' ≠ 0 by rw [q3]; decide)
      omega
theorem m_readAll {σ : Hp} {r : Nat → Int32} {w : Int64} (hN : N ≤ 900) (hT : MT σ T N) (h : OK (linsO T N (N + 1) p0N nm0 0 0)) (hE : ∀ f pl, OK (erO f pl) → 1 ≤ f → f ≤ 6 → ∀ σ' r' w', FM σ σ' → EPm r r' f pl → Q (-1) (stG 8 20 σ' r' w')) (hK : ∀ p nm, OK (0, 0, p, nm) → 0 < nL p → ∀ σ' r' w', FM σ σ' → FrM r r' → PI p 1 → RDm σ' p nm 1 → Q (nI (nL p)) (stG 8 20 σ' r' w')) : S_X8_readAll (nI N) (stG 8 20 σ r w) Q := by
  have v5 : vp_in 5 7 := vp_in_nI (n := 5) (by decide) (by decide)
  have v6 : vp_in 6 7 := vp_in_nI (n := 6) (by decide) (by decide)
  have cv : ∀ {f pl : Nat} {ra rb : Nat → Int32}, FrM r ra → EPm ra rb f pl → EPm r rb f pl := fun a e => ⟨a.trans e.1, e.2.1, e.2.2⟩
  unfold S_X8_readAll
  rintro _ rfl _ rfl _ rfl
  refine ⟨v5, ?_⟩
  rintro _ rfl
  refine ⟨v6, ?_⟩
  rintro _ rfl
  rw [sG, sG, sG, show ix 5 = 5 from rfl, show ix 6 = 6 from rfl, sGn (by decide), sGn (by decide)]
  have F := ((FM.refl σ).s (a := 54) (by omega) 0 5 0).s (a := 54) (by omega) 0 6 0
  have hT' := hT.fm F
  have fr0 : FrM r (upd (upd (upd r 15 (nI N)) 17 0) 23 0) := (((FrM.refl r).u (by omega) _).u (by omega) _).u (by omega) _
  refine m_tok (b := 0) hN hT' (Nat.zero_le _) (by rw [pk_un (by decide), pk_un (by decide), pk_us]) (by rw [pk_un (by decide), pk_us]; rfl) (fun r1 w1 f1 t1 => ?_)
  have hC : MK (sI (sI σ 54 0 5 0) 54 0 6 0) T N p0N nm0 0 r1 w1 0 := by
    refine ⟨hN, hT', Nat.zero_le _, PI0, ⟨?_, ?_, fun q => by omega, fun e he => absurd he (Nat.not_lt_zero _), fun l hl => absurd hl (Nat.not_lt_zero _), fun l i hl => absurd hl (Nat.not_lt_zero _)⟩, (f1 15 (by decide) (by decide) (by decide) (by decide)).trans (by rw [pk_un (by decide), pk_un (by decide), pk_us]), (f1 23 (by decide) (by decide) (by decide) (by decide)).trans (by rw [pk_us]; rfl), t1⟩
    · rw [gI_sI, if_neg (by omega), gI_sI, if_pos ⟨rfl, rfl, rfl⟩]; rfl
    · rw [gI_sI, if_pos ⟨rfl, rfl, rfl⟩]; rfl
  have g1 := fr0.trans f1.m
  unfold linsO at h
  refine m_line (OK := OK) (lin_k N) hC h (fun f pl o' a1 a6 σ' r' w' hF' e => ⟨fun z => absurd rfl z, fun _ => hE f pl o' a1 a6 σ' r' w' (F.trans hF') (cv g1 e)⟩) (fun p' nm' hB' b' v o' hbb σ' r' w' hF' hf' hC2 nv => ⟨fun _ => ⟨N + 1, ?_⟩, fun z => absurd z nv⟩)
  refine m_lins (OK := OK) (σ0 := σ) (r0 := r) hE hK N b' p' nm' hB' σ' r' w' (fun q3 => ?_) (F.trans hF') (g1.trans hf') hC2 o'
  have := nx_lt hC2.2.2.1 (show kdT T N b' ≠ 0 by rw [q3]; decide)
  omega
end ReadM
