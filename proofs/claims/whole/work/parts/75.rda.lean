/-! ===== the class reads a text ===== -/
def p0N : PD := fun _ _ => 0
def nm0 : Nat → Int64 := fun _ => 0
section ReadC
variable {T : Tx} {N P : Nat} {Q : Hp → Prop} {OK : OT → Prop}
theorem x_end {σ : Hp} {r : Nat → Int32} {w : Int64} (hR : gR σ 1 = P) (hP : P < 2) (h : ¬ r 10 = 0) (k : Q (stG 4 7 σ r w)) : J_X4_read_132 Q (stG 4 7 σ r w) := by
  unfold J_X4_read_132
  refine ⟨fun _ => ⟨by rw [gGR, hR]; exact hP, fun _ => k, fun _ => x_fail h k⟩, fun _ => x_fail h k⟩
theorem c_lins {σ0 : Hp} {r0 : Nat → Int32} (hE : ∀ f pl, OK (erO f pl) → 1 ≤ f → f ≤ 6 → ∀ σ' r' w', FD P σ0 σ' → EPr r0 r' f pl → Q (stG 4 7 σ' r' w')) (hK : ∀ p nm, OK (0, 0, p, nm) → 0 < nL p → ∀ σ' r' w', FD P σ0 σ' → r' 1 = r0 1 → r' 10 = 0 → PI p 1 → RDc σ' P p nm 1 → Q (stG 4 7 σ' r' w')) (hN : N ≤ 900) (hT0 : CT σ0 T N) (hR0 : gR σ0 1 = P) (hP : P < 2) :
    ∀ m L b p nm hB σ r w, N < m + b → L ≤ b → b ≤ N → FD P σ0 σ → r 1 = r0 1 → r 5 = nI b → r 10 = 0 → r 3 = nI N → r 9 = nI hB → PI p hB → RDc σ P p nm hB → OK (linsO T N m p nm hB b) → L_X4_read_46 Q (fun σ21 => J_X4_read_132 Q σ21) m (nI L) (stG 4 7 σ r w) := by
  intro m
  induction m with
  | zero => intro L b p nm hB σ r w h1 h2 h3; omega
  | succ m ih =>
    intro L b p nm hB σ r w hm hL hb hF h1 h5 h10 h3 h9 hI hD h
    have hT := hT0.fd hF
    have hR : gR σ 1 = P := (hF.2.2 1).trans hR0
    have c0 := cst_val.1
    have c6 := cst_val.2.2.2.2.2.2.1
    have c7 := cst_val.2.2.2.2.2.2.2.1
    unfold linsO at h
    unfold L_X4_read_46
    refine c_tok hN hT hb h10 h3 h5 (fun r1 w1 f1 t1 => ?_)
    have y10 : r1 10 = 0 := (f1 10 (by decide) (by decide) (by decide) (by decide)).trans h10
    have y3 : r1 3 = nI N := (f1 3 (by decide) (by decide) (by decide) (by decide)).trans h3
    have y9 : r1 9 = nI hB := (f1 9 (by decide) (by decide) (by decide) (by decide)).trans h9
    have y1 : r1 1 = r0 1 := (f1 1 (by decide) (by decide) (by decide) (by decide)).trans h1
    have hC : CK σ T N P p nm hB r1 w1 b := ⟨hN, hT, hb, hR, hP, hI, hD, y10, y3, y9, t1⟩
    have cv : ∀ {f pl : Nat} {ra rb : Nat → Int32}, ra 1 = r0 1 → EPr ra rb f pl → EPr r0 rb f pl := fun a e => ⟨e.1.trans a, e.2.1, e.2.2⟩
    have er : ∀ f pl, OK (erO f pl) → 1 ≤ f → f ≤ 6 → ∀ σ' r' w', FD P σ σ' → EPr r1 r' f pl → J_X4_read_106 Q (L_X4_read_46 Q (fun σ21 => J_X4_read_132 Q σ21) m) (fun σ21 => J_X4_read_132 Q σ21) (nI L) (stG 4 7 σ' r' w') := by
      intro f pl o f1' f6 σ' r' w' hF2 e
      have nz := e.nz f1' f6
      have kk := x_end (hF2.2.2 1 |>.trans hR) hP nz (hE f pl o f1' f6 σ' r' w' (hF.trans hF2) (cv y1 e))
      unfold J_X4_read_106
      rw [gG, gG, gG]
      exact ⟨fun _ => kk, fun _ => ⟨fun _ => kk, fun z => absurd z nz⟩⟩
    have ok : ∀ p' nm' hB' b', OK (cif (kdT T N b' = 3) (linsO T N m p' nm' hB' (enT T N b')) (cif (kdT T N b' = 0) (cif (nL p' = 0) (erO 6 (stT T N b')) (0, 0, p', nm')) (erO 1 (stT T N b')))) → b < b' → ∀ σ' r' w', FD P σ σ' → r' 1 = r1 1 → CK σ' T N P p' nm' hB' r' w' b' → J_X4_read_106 Q (L_X4_read_46 Q (fun σ21 => J_X4_read_132 Q σ21) m) (fun σ21 => J_X4_read_132 Q σ21) (nI L) (stG 4 7 σ' r' w') := by
      intro p' nm' hB' b' o hbb σ' r' w' hF2 e1 hC2
      obtain ⟨_, hT2, hb2, hR2, _, hI2, hD2, z10, z3, z9, t2⟩ := hC2
      have k4 := kdT_le T N b'
      have x1 : r' 1 = r0 1 := e1.trans y1
      have kk : kdT T N b' ≠ 3 → J_X4_read_132 Q (stG 4 7 σ' r' w') := by
        intro n3
        rw [cif_neg n3] at o
        unfold J_X4_read_132
        rw [gG, t2.2.1, show (0 : Int32) = nI 0 from rfl, eq_nI (by omega) (by decide), gGR, hR2, gGn (by decide), hD2.2.1, eq_nI (by have : nL p' ≤ 8 := hI2.1.2.2.2.2.2.2.1; omega) (by decide)]
        refine ⟨fun q => ⟨hP, fun q2 => ?_, fun q2 => ?_⟩, fun q => ?_⟩
        · rw [cif_pos q, cif_neg q2] at o
          have hb1 : hB' = 1 := by
            rcases Nat.lt_or_ge hB' 1 with a | a
            · exact absurd (hI2.2.1 (by omega)).2 q2
            · have := hI2.2.2.2; omega
          subst hb1
          exact hK p' nm' o (by omega) σ' r' w' (hF.trans hF2) x1 z10 hI2 hD2
        · rw [cif_pos q, cif_pos q2] at o
          exact c_fail (f := 6) rfl z10 t2.1 (fun r2 e => hE 6 _ o (by decide) (by decide) _ _ _ (hF.trans hF2) (cv x1 e))
        · rw [cif_neg q] at o
          exact c_fail (f := 1) rfl z10 t2.1 (fun r2 e => hE 1 _ o (by decide) (by decide) _ _ _ (hF.trans hF2) (cv x1 e))
      unfold J_X4_read_106
      rw [gG, gG, gG, z3, z10, t2.2.1, show nI L + 1 = nI (L + 1) from add_nI L 1, lt_nI (by omega) (by omega), show (3 : Int32) = nI 3 from rfl, eq_nI (by omega) (by decide)]
      refine ⟨fun q => kk (fun q3 => ?_), fun q => ⟨fun z => absurd rfl z, fun _ => ⟨fun q3 => ?_, fun q3 => kk q3⟩⟩⟩
      · have := nx_lt hb2 (show kdT T N b' ≠ 0 by rw [q3]; decide)
        omega
      · rw [cif_pos q3] at o
        have n2 := nx_lt hb2 (show kdT T N b' ≠ 0 by rw [q3]; decide)
        exact ih (L + 1) (enT T N b') p' nm' hB' σ' r' w' (by omega) (by omega) n2.2 (hF.trans hF2) x1 (t2.2.2.1 (by rw [q3]; decide)) z10 z3 z9 hI2 hD2 o
    unfold linO at h
    refine c_isW hb (by decide) c0 t1 (fun i => b1' ?_) (fun i => b0' ?_)
    · rw [cif_pos i] at h
      exact c_busL (OK := OK) hC i h er (fun p' b' o l σ' r' w' => ok p' nm 1 b' o l σ' r' w')
    · rw [cif_neg i] at h
      refine c_isW hb (by decide) c6 t1 (fun i2 => b1' ?_) (fun i2 => b0' ?_)
      · rw [cif_pos i2] at h
        exact c_endL (OK := OK) hC i2 h er (fun p' nm' b' o l σ' r' w' => ok p' nm' hB b' o l σ' r' w')
      · rw [cif_neg i2] at h
        refine c_isW hb (by decide) c7 t1 (fun i3 => b1' ?_) (fun i3 => b0' ?_)
        · rw [cif_pos i3] at h
          exact c_lnkL (OK := OK) hC i3 h er (fun p' nm' b' o l σ' r' w' => ok p' nm' hB b' o l σ' r' w')
        · rw [cif_neg i3] at h
          exact c_fail (f := 1) rfl y10 t1.1 (fun r2 e => er 1 _ h (by decide) (by decide) σ r2 w1 (FD.refl P σ) e)
theorem PI0 : PI p0N 0 := ⟨⟨by decide, by decide, by decide, by decide, by decide, by decide, by decide, fun e he => absurd he (Nat.not_lt_zero _), fun l hl => absurd hl (Nat.not_lt_zero _)⟩, fun _ => ⟨rfl, rfl⟩, fun q => by omega, by decide⟩
theorem c_read {σ : Hp} {M : Nat} (hM : M ≤ 900) (hNM : N ≤ M) (h1 : gI σ 4 0 1 = nI M) (hT : CT σ T N) (hR : gR σ 1 = P) (hP : P < 2) (h : OK (linsO T N (N + 1) p0N nm0 0 0)) (hE : ∀ f pl, OK (erO f pl) → 1 ≤ f → f ≤ 6 → ∀ σ' r' w', FD P σ σ' → r' 1 = 0 → r' 10 = nI f → r' 11 = nI pl → Q (stG 4 7 σ' r' w')) (hK : ∀ p nm, OK (0, 0, p, nm) → 0 < nL p → ∀ σ' r' w', FD P σ σ' → r' 1 = 0 → r' 10 = 0 → PI p 1 → RDc σ' P p nm 1 → Q (stG 4 7 σ' r' w')) : S_X4_read (nI N) σ Q := by
  unfold S_X4_read
  rintro _ rfl _ rfl _ rfl _ rfl _ rfl _ rfl
  rw [h1, if_neg (fun q => by have := (nI_ltI (a := M) (b := N) (by omega) (by omega)).mp q; omega)]
  rw [← stG_self 4 7 σ]
  rw [sG, sG, sG, sG, sG, sG, gGR, hR]
  refine ⟨hP, ?_⟩
  unfold S_X2_clear
  rintro _ rfl _ rfl _ rfl
  rw [sGn (by decide), sGn (by decide), sGn (by decide)]
  have F := (((FD.refl P σ).s (a := 2) (by omega) 0 0).s (a := 2) (by omega) 5 0).s (a := 2) (by omega) 6 0
  obtain ⟨r0, hr0⟩ : ∃ r0, upd (upd (upd (upd (upd (upd (fun k => gI σ 4 0 k) 3 (nI N)) 1 0) 5 0) 9 0) 10 0) 11 (-1) = r0 := ⟨_, rfl⟩
  have a1 : r0 1 = 0 := by rw [← hr0, pk_un (by decide), pk_un (by decide), pk_un (by decide), pk_un (by decide), pk_us]
  have a3 : r0 3 = nI N := by rw [← hr0, pk_un (by decide), pk_un (by decide), pk_un (by decide), pk_un (by decide), pk_un (by decide), pk_us]
  have a5 : r0 5 = nI 0 := by rw [← hr0, pk_un (by decide), pk_un (by decide), pk_un (by decide), pk_us]; rfl
  have a9 : r0 9 = nI 0 := by rw [← hr0, pk_un (by decide), pk_un (by decide), pk_us]; rfl
  have a10 : r0 10 = 0 := by rw [← hr0, pk_un (by decide), pk_us]
  rw [hr0]
  refine ⟨N + 1, c_lins (σ0 := σ) (r0 := r0) (OK := OK) (fun f pl o f1 f6 σ' r' w' hF e => hE f pl o f1 f6 σ' r' w' hF (e.1.trans a1) e.2.1 e.2.2) (fun p nm o hl σ' r' w' hF e1 e10 hI hD => hK p nm o hl σ' r' w' hF (e1.trans a1) e10 hI hD) (by omega) hT hR hP (N + 1) 0 0 p0N nm0 0 _ r0 _ (by omega) (Nat.le_refl 0) (Nat.zero_le _) F rfl a5 a10 a3 a9 PI0 ⟨?_, ?_, fun q => by omega, fun e he => absurd he (Nat.not_lt_zero _), fun l hl => absurd hl (Nat.not_lt_zero _), fun l i hl => absurd hl (Nat.not_lt_zero _)⟩ h⟩
  · rw [gI_sI, if_neg (by omega), gI_sI, if_pos ⟨rfl, rfl, rfl⟩]; rfl
  · rw [gI_sI, if_pos ⟨rfl, rfl, rfl⟩]; rfl
end ReadC
