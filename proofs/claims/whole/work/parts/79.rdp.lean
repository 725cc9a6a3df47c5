section LnkM
variable {σ : Hp} {T : Tx} {N b hB : Nat} {r : Nat → Int32} {w : Int64} {Q : Int32 → Hp → Prop} {OK : OT → Prop} {p : PD} {nm : Nat → Int64} {k : PD → (Nat → Int64) → Nat → Nat → OT}
theorem m_lnkL (hk : ∀ p' nm' hb' b', kdT T N b' ≠ 3 → kdT T N b' ≠ 0 → k p' nm' hb' b' = erO 1 (stT T N b')) (hC : MK σ T N p nm hB r w b) (hW : isW T N 7 b) (h : OK (lnkO T N p nm hB b k)) (hE : ∀ f pl, OK (erO f pl) → 1 ≤ f → f ≤ 6 → ∀ σ' r' w', FM σ σ' → EPm r r' f pl → Q (-1) (stG 8 20 σ' r' w')) (hK : ∀ p' nm' b' v, OK (k p' nm' hB b') → b < b' → ∀ σ' r' w', FM σ σ' → FrM r r' → MK σ' T N p' nm' hB r' w' b' → ¬ v = -1 → Q v (stG 8 20 σ' r' w')) : S_X8_readLink (stG 8 20 σ r w) Q := by
  obtain ⟨hN, hT, hb, hI, hD, h15, h23, ht⟩ := hC
  have F0 := FM.refl σ
  have h6 : nE p ≤ 6 := hI.1.2.2.2.2.2.1
  have h8 : nL p ≤ 8 := hI.1.2.2.2.2.2.2.1
  have v6 : vp_in 6 7 := vp_in_nI (n := 6) (by decide) (by decide)
  have cv : ∀ {f pl : Nat} {ra rb : Nat → Int32}, FrM r ra → EPm ra rb f pl → EPm r rb f pl := fun a e => ⟨a.trans e.1, e.2.1, e.2.2⟩
  have e6 : gI (stG 8 20 σ r w) 54 0 6 = nI (nL p) := (gGn (by decide) _ _).trans hD.2.1
  unfold lnkO at h
  unfold S_X8_readLink
  rw [show ix 6 = 6 from rfl, e6, show (nI (nL p) = (8 : Int32)) = (nI (nL p) = nI 8) from rfl, eq_nI (by omega) (by decide), gG, h23]
  refine ⟨v6, fun nq => ?_, fun nq => ?_⟩
  rotate_left
  · have h1 : hB = 1 := by
      have h2 := hI.2.2.2
      rcases Nat.lt_or_ge hB 1 with a | a
      · have := (hI.2.1 (by omega)).2; omega
      · omega
    subst h1
    rw [cif_neg (by decide), cif_neg (by omega)] at h
    exact m_errs (f := 5) rfl ht.1 (fun r' e => hE 5 _ h (by decide) (by decide) _ _ _ F0 e)
  by_cases q0 : hB = 0
  · subst q0
    rw [cif_pos rfl] at h
    exact b0 (m_errs (f := 6) rfl ht.1 (fun r' e => hE 6 _ h (by decide) (by decide) _ _ _ F0 e))
  have h1 : hB = 1 := by have := hI.2.2.2; omega
  subst h1
  have hlt : nL p < 8 := by omega
  rw [cif_neg q0, cif_pos hlt] at h
  refine b1 ?_
  rw [show (7 : Int32) = nI 7 from rfl, mul_nI, show nI (7 * nL p) + 0 = nI (7 * nL p) from add_nI _ 0, show nI (7 * nL p) + 1 = nI (7 * nL p + 1) from add_nI _ 1, show nI (7 * nL p) + 2 = nI (7 * nL p + 2) from add_nI _ 2, show (6 : Int32) + nI (nL p) = nI (6 + nL p) from add_nI 6 _]
  have i0 : ix (nI (7 * nL p)) = 7 * nL p := ix_nI (by omega)
  have i1 : ix (nI (7 * nL p + 1)) = 7 * nL p + 1 := ix_nI (by omega)
  have vr : ∀ c, c < 7 → vp_in (nI (7 * nL p + c)) 56 := fun c hc => vp_in_nI (by omega) (by decide)
  rw [i0, i1]
  have n0 := nx_lt hb (show kdT T N b ≠ 0 by rw [hW.1]; decide)
  refine m_tok hN hT n0.2 h15 (ht.2.2.1 (by rw [hW.1]; decide)) (fun r0 w0 f0 t0 => ?_)
  have z15 : r0 15 = nI N := (f0 15 (by decide) (by decide) (by decide) (by decide)).trans h15
  -- its name
  unfold nmO at h
  refine m_newN hN hT n0.2 (a := 6 + nL p) (by omega) h6 h8 hD z15 t0 (fun i td r1 w1 f1 t1 => ?_) (fun i td r1 e => ?_) (fun i r1 e => ?_)
  rotate_left
  · rw [cif_pos i, cif_pos td] at h
    exact ⟨fun z => absurd rfl z, fun _ => hE 3 _ h (by decide) (by decide) _ _ _ F0 (cv f0.m e)⟩
  · rw [cif_neg i] at h
    exact ⟨fun z => absurd rfl z, fun _ => hE 1 _ h (by decide) (by decide) _ _ _ F0 (cv f0.m e)⟩
  rw [cif_pos i, cif_neg td] at h
  obtain ⟨wn, hwn⟩ : ∃ wn, lN (wvT T N (enT T N b)) = wn := ⟨_, rfl⟩
  rw [hwn] at h ⊢
  dsimp only at h
  have n1 := nx_lt n0.2 (show kdT T N (enT T N b) ≠ 0 by rw [i.1]; decide)
  obtain ⟨b1', hb1⟩ : ∃ b1', enT T N (enT T N b) = b1' := ⟨_, rfl⟩
  rw [hb1] at h n1 t1
  have y15 : r1 15 = nI N := (f1 15 (by decide) (by decide) (by decide) (by decide)).trans z15
  have yf := f0.trans f1
  have G1 := F0.l 0 (6 + nL p) wn
  have D1 := hD.l60 (a := 6 + nL p) (v := wn) h6 (by omega)
  have hT1 := hT.fm G1
  refine ⟨fun _ => ?_, fun z => absurd z (by decide)⟩
  -- from
  refine m_isW hN hT1 n1.2 (by decide) t1 (fun i2 => b1 ?_) (fun i2 => b0 ?_)
  rotate_left
  · rw [cif_neg i2] at h
    exact m_errs (f := 1) rfl t1.1 (fun r' e => hE 1 _ h (by decide) (by decide) _ _ _ G1 (cv yf.m e))
  rw [cif_pos i2] at h
  have n2 := nx_lt n1.2 (show kdT T N b1' ≠ 0 by rw [i2.1]; decide)
  refine m_tok hN hT1 n2.2 y15 (t1.2.2.1 (by rw [i2.1]; decide)) (fun r2 w2 f2 t2 => ?_)
  have x15 : r2 15 = nI N := (f2 15 (by decide) (by decide) (by decide) (by decide)).trans y15
  have xf := yf.trans f2
  -- its end
  unfold keO at h
  refine m_endHere hN hT1 n2.2 h6 h8 D1 t2 (fun i3 i3' => ⟨vr 0 (by decide), ?_⟩) (fun i3 i3' r3 e => ⟨vr 0 (by decide), ?_⟩) (fun i3 r3 e => ⟨vr 0 (by decide), ?_⟩)
  rotate_left
  · rw [cif_pos i3, cif_neg i3'] at h
    rintro _ rfl
    rw [sGn (by decide), gGn (by decide), gI_sI, if_pos ⟨rfl, rfl, rfl⟩]
    exact ⟨vr 0 (by decide), fun z => absurd rfl z, fun _ => hE 2 _ h (by decide) (by decide) _ _ _ (G1.s (by omega) _ _ _) (cv xf.m e)⟩
  · rw [cif_neg i3] at h
    rintro _ rfl
    rw [sGn (by decide), gGn (by decide), gI_sI, if_pos ⟨rfl, rfl, rfl⟩]
    exact ⟨vr 0 (by decide), fun z => absurd rfl z, fun _ => hE 1 _ h (by decide) (by decide) _ _ _ (G1.s (by omega) _ _ _) (cv xf.m e)⟩
  rw [cif_pos i3, cif_pos i3'] at h
  obtain ⟨fe, hfe⟩ : ∃ fe, fdE p nm (lN (wvT T N (enT T N b1'))) = fe := ⟨_, rfl⟩
  rw [hfe] at h i3' ⊢
  dsimp only at h
  rintro _ rfl
  rw [sGn (by decide), gGn (by decide), gI_sI, if_pos ⟨rfl, rfl, rfl⟩]
  refine ⟨vr 0 (by decide), fun _ => ?_, fun z => absurd z (ne_m1 (by omega))⟩
  have n3 := nx_lt n2.2 (show kdT T N (enT T N b1') ≠ 0 by rw [i3.1]; decide)
  obtain ⟨b2, hb2⟩ : ∃ b2, enT T N (enT T N b1') = b2 := ⟨_, rfl⟩
  rw [hb2] at h n3
  have G2 := G1.s (a := 58) (by omega) 0 (7 * nL p) (nI fe)
  have hT2 := hT.fm G2
  refine m_tok hN hT2 (show enT T N (enT T N b1') ≤ N by rw [hb2]; exact n3.2) x15 (t2.2.2.1 (by rw [i3.1]; decide)) (fun r3 w3 f3 t3 => ?_)
  rw [hb2] at t3
  have u15 : r3 15 = nI N := (f3 15 (by decide) (by decide) (by decide) (by decide)).trans x15
  have uf := xf.trans f3
  -- gap
  refine m_readGap (OK := OK) hN hT2 n3.2 u15 t3 h (fun f pl o a1 a6 r' w' e => ⟨vr 1 (by decide), ?_⟩) (fun g b3 o3 hg m3 l3 r4 w4 f4 t4 => ⟨vr 1 (by decide), ?_⟩)
  · rintro _ rfl
    rw [sGn (by decide), gGn (by decide), gI_sI, if_pos ⟨rfl, rfl, rfl⟩]
    exact ⟨vr 1 (by decide), fun z => absurd rfl z, fun _ => hE f pl o a1 a6 _ _ _ (G2.s (by omega) _ _ _) (cv uf.m e)⟩
  have gg := gap_256 hg
  rintro _ rfl
  rw [sGn (by decide), gGn (by decide), gI_sI, if_pos ⟨rfl, rfl, rfl⟩]
  refine ⟨vr 1 (by decide), fun _ => ⟨vr 1 (by decide), ?_⟩, fun z => absurd z (ne_m1 (by omega))⟩
  have G3 := G2.s (a := 58) (by omega) 0 (7 * nL p + 1) (nI g)
  have hT3 := hT.fm G3
  have s15 : r4 15 = nI N := (f4 15 (by decide) (by decide) (by decide) (by decide)).trans u15
  have sf := uf.trans f4
  obtain ⟨mx, hmx⟩ : ∃ mx, (if g < 40 then g else 40) = mx := ⟨_, rfl⟩
  have mx1 : mx ≤ 40 ∧ mx ≤ g := by rw [← hmx]; split <;> omega
  rw [hmx] at o3
  have j169 : ∀ z0, z0 = nI mx → J_X8_readLink_169 Q (nI (nL p)) (nI (7 * nL p)) z0 1 (nI (7 * nL p + 2)) (stG 8 20 (sI (sI (sL σ 60 0 (6 + nL p) wn) 58 0 (7 * nL p) (nI fe)) 58 0 (7 * nL p + 1) (nI g)) r4 w4) := by
    intro z0 hz0
    subst hz0
    unfold J_X8_readLink_169
    rw [show nI (7 * nL p) + 2 = nI (7 * nL p + 2) from add_nI _ 2, show nI (7 * nL p) + 3 = nI (7 * nL p + 3) from add_nI _ 3, ix_nI (k := 7 * nL p + 2) (by omega), ix_nI (k := 7 * nL p + 3) (by omega)]
    refine m_after (OK := OK) (lo := 1) hN hT3 l3 (by decide) (by decide) (by omega) s15 t4 o3 (fun f pl o a1 a6 r' w' e => ⟨vr 2 (by decide), ?_⟩) (fun le b4 o4 gl4 l9 m4 l4 r5 w5 f5 t5 => ⟨vr 2 (by decide), ?_⟩)
    · rintro _ rfl
      rw [sGn (by decide), gGn (by decide), gI_sI, if_pos ⟨rfl, rfl, rfl⟩]
      exact ⟨vr 2 (by decide), fun z => absurd rfl z, fun _ => hE f pl o a1 a6 _ _ _ (G3.s (by omega) _ _ _) (cv sf.m e)⟩
    rintro _ rfl
    rw [sGn (by decide), gGn (by decide), gI_sI, if_pos ⟨rfl, rfl, rfl⟩]
    refine ⟨vr 2 (by decide), fun _ => ?_, fun z => absurd z (ne_m1 (by omega))⟩
    have G4 := G3.s (a := 58) (by omega) 0 (7 * nL p + 2) (nI le)
    have hT4 := hT.fm G4
    have q15 : r5 15 = nI N := (f5 15 (by decide) (by decide) (by decide) (by decide)).trans s15
    have qf := sf.trans f5
    -- to
    refine m_isW hN hT4 l4 (by decide) t5 (fun i8 => b1 ?_) (fun i8 => b0 ?_)
    rotate_left
    · rw [cif_neg i8] at o4
      exact m_errs (f := 1) rfl t5.1 (fun r' e => hE 1 _ o4 (by decide) (by decide) _ _ _ G4 (cv qf.m e))
    rw [cif_pos i8] at o4
    have n8 := nx_lt l4 (show kdT T N b4 ≠ 0 by rw [i8.1]; decide)
    refine m_tok hN hT4 n8.2 q15 (t5.2.2.1 (by rw [i8.1]; decide)) (fun r6 w6 f6 t6 => ⟨vr 3 (by decide), ?_⟩)
    rintro _ rfl
    rw [sGn (by decide)]
    have p15 : r6 15 = nI N := (f6 15 (by decide) (by decide) (by decide) (by decide)).trans q15
    have pf := qf.trans f6
    have G5 := G4.s (a := 58) (by omega) 0 (7 * nL p + 3) 0
    obtain ⟨σs, hσs⟩ : ∃ σs, sI (sI (sI (sI (sL σ 60 0 (6 + nL p) wn) 58 0 (7 * nL p) (nI fe)) 58 0 (7 * nL p + 1) (nI g)) 58 0 (7 * nL p + 2) (nI le)) 58 0 (7 * nL p + 3) 0 = σs := ⟨_, rfl⟩
    have s0 : gI σs 58 0 (7 * nL p) = nI fe := by rw [← hσs, gI_sI, if_neg (by omega), gI_sI, if_neg (by omega), gI_sI, if_neg (by omega), gI_sI, if_pos ⟨rfl, rfl, rfl⟩]
    have s1 : gI σs 58 0 (7 * nL p + 1) = nI g := by rw [← hσs, gI_sI, if_neg (by omega), gI_sI, if_neg (by omega), gI_sI, if_pos ⟨rfl, rfl, rfl⟩]
    have s2 : gI σs 58 0 (7 * nL p + 2) = nI le := by rw [← hσs, gI_sI, if_neg (by omega), gI_sI, if_pos ⟨rfl, rfl, rfl⟩]
    have s3 : gI σs 58 0 (7 * nL p + 3) = nI 0 := by rw [← hσs, gI_sI, if_pos ⟨rfl, rfl, rfl⟩]; rfl
    have sL60 : gL σs 60 0 (6 + nL p) = wn := by rw [← hσs, gL_sI, gL_sI, gL_sI, gL_sI, gL_sL, if_pos ⟨rfl, rfl, rfl⟩]
    have Ds : RDm σs p nm 1 := by
      refine D1.row hI.1 (fun a b c z => ?_) (fun a b c => ?_)
      · rw [← hσs, gI_sI, if_neg (by omega), gI_sI, if_neg (by omega), gI_sI, if_neg (by omega), gI_sI, if_neg (by omega)]
      · rw [← hσs]
        rfl
    rw [hσs] at G5 ⊢
    have hTs := hT.fm G5
    have kr : ∀ i q b', kdT T N b' ≠ 3 → kdT T N b' ≠ 0 → (fun i q b5 => k (lnkP p fe g le i q) (nmU nm (6 + nL p) wn) 1 b5) i q b' = erO 1 (stT T N b') := fun i q b' a1 a2 => hk _ _ _ _ a1 a2
    refine m_readRec (OK := OK) (i := 0) (q := fun _ => 0) hN hTs n8.2 hI.1 hlt (by decide) i3' (fun j hj => by omega) Ds s0 s3 (fun j hj => by omega) p15 t6 o4 (fun f pl o a1 a6 r' w' e => ⟨fun z => absurd rfl z, fun _ => hE f pl o a1 a6 _ _ _ G5 (cv pf.m e)⟩) (fun e b5 o5 he5 c5 m5 l5 r7 w7 f7 t7 => ⟨fun _ => ?_, fun z => absurd z (ne_m1 (by omega))⟩)
    have hF2 := ((FRm.refl (nL p) σs).s (c := 7 * nL p + 4 + 0) (by omega) 0 (nI e)).s (c := 7 * nL p + 3) (by omega) 0 (nI (0 + 1))
    refine ⟨3, m_recs (OK := OK) (bq := b5) (r0 := r6) (kR := fun i q b5 => k (lnkP p fe g le i q) (nmU nm (6 + nL p) wn) 1 b5) hN hTs hI.1 hlt Ds i3' s0 p15 kr (fun f pl o a1 a6 σ' r' w' hF e => hE f pl o a1 a6 _ _ _ (G5.trans hF.fm) (cv pf.m e)) (fun b' o σ' r' w' hF hm h16 => m_errs (f := 1) rfl h16 (fun r'' e => hE 1 _ o (by decide) (by decide) _ _ _ (G5.trans hF.fm) (cv (pf.m.trans hm) e))) (fun i q b' o i1' i3'' bl bN gq gd σ' r' w' hF g3 g4 hfr t' => ⟨v6, v6, ?_⟩) 2 1 (qS (fun _ => 0) 0 e) b5 _ r7 w7 (by decide) (by decide) (Nat.le_refl _) l5 hF2 ?_ (fun j hj => ?_) (fun j hj => ?_) (fun j k hj hk' => by omega) f7 t7 o5⟩
    · rw [gI_sI, if_pos ⟨rfl, rfl, rfl⟩]
    · rw [show j = 0 by omega, gI_sI, if_neg (by omega), gI_sI, if_pos ⟨rfl, rfl, by omega⟩]
      unfold qS
      rw [if_pos rfl]
    · unfold qS
      rw [if_pos (by omega)]
      exact ⟨he5, fun z => c5 (Or.inl z)⟩
    · have D' := Ds.fr hI.1 hF
      rintro _ rfl
      have e6' : gI (stG 8 20 σ' r' w') 54 0 6 = nI (nL p) := (gGn (by decide) _ _).trans D'.2.1
      rw [show ix 6 = 6 from rfl, e6', sGn (by decide), show nI (nL p) + 1 = nI (nL p + 1) from add_nI _ 1]
      have FG := (G5.trans hF.fm).s (a := 54) (by omega) 0 6 (nI (nL p + 1))
      refine hK _ _ _ _ o (by omega) _ r' w' FG (pf.trans hfr).m ⟨hN, hT.fm FG, bN, PI_lnk hI hlt i3' hg ⟨gl4.1, by omega, by omega⟩ ⟨i1', i3''⟩ gq gd, ?_, (hfr 15 (by decide) (by decide) (by decide) (by decide)).trans p15, ((pf.trans hfr) 23 (by decide) (by decide) (by decide) (by decide)).trans h23, t'⟩ (ne_m1 (by omega))
      have n0' : ∀ c, c ≠ 6 → lnkP p fe g le i q 0 c = p 0 c := fun c hc => lnkP_ne (by omega) (by omega)
      have n1' : ∀ c, lnkP p fe g le i q 1 c = p 1 c := fun c => lnkP_ne (by omega) (by omega)
      have en : nE (lnkP p fe g le i q) = nE p := n0' 5 (by decide)
      refine ⟨?_, ?_, fun _ c hc => ?_, fun e he => ?_, fun l hl => ⟨fun j hj => ?_, ?_⟩, fun l j hl hj => ?_⟩
      · rw [gI_sI, if_neg (by omega), D'.1, en]
      · rw [gI_sI, if_pos ⟨rfl, rfl, rfl⟩, lnkP_nL]
      · rw [gI_sI, if_neg (by omega), D'.2.2.1 rfl c hc, n0' c (by omega)]
      · rw [en] at he
        have := D'.2.2.2.1 e he
        rw [gI_sI, if_neg (by omega), gL_sI]
        exact ⟨this.1.trans (congrArg nI (n1' e).symm), this.2.trans (if_neg (by omega)).symm⟩
      · rw [lnkP_nL] at hl
        rw [gI_sI, if_neg (by omega)]
        by_cases el : l = nL p
        · subst el
          rw [lnkP_row (k := j) (by omega)]
          have : j = 0 ∨ j = 1 ∨ j = 2 ∨ j = 3 := by omega
          rcases this with z | z | z | z <;> subst z
          · exact (hF.1 58 0 _ (by omega)).trans s0
          · exact (hF.1 58 0 _ (by omega)).trans s1
          · exact (hF.1 58 0 _ (by omega)).trans s2
          · exact g3
        · rw [lnkP_ne (by omega) (by omega)]
          exact (D'.2.2.2.2.1 l (by omega)).1 j hj
      · rw [lnkP_nL] at hl
        rw [gL_sI]
        by_cases el : l = nL p
        · subst el
          exact ((hF.2.1 60 0 _).trans sL60).trans (if_pos rfl).symm
        · exact (D'.2.2.2.2.1 l (by omega)).2.trans (if_neg (by omega)).symm
      · rw [lnkP_nL] at hl
        unfold rc at hj
        unfold re
        rw [gI_sI, if_neg (by omega)]
        by_cases el : l = nL p
        · subst el
          rw [lnkP_row (k := 3) (by decide)] at hj
          have hj' : j < i := hj
          rw [g4 j hj', Nat.add_assoc, lnkP_row (k := 4 + j) (by omega), Nat.add_comm 4 j]
          rfl
        · rw [lnkP_ne (by omega) (by omega)] at hj
          have hr := (hI.1.2.2.2.2.2.2.2.2 l (by omega)).2.2.2.2.2.2.1
          have hj3 : j < 3 := by unfold rc at hr; omega
          rw [lnkP_ne (by omega) (by omega)]
          exact D'.2.2.2.2.2 l j (by omega) hj
  rw [show (40 : Int32) = nI 40 from rfl, le_nI (by decide) (by omega)]
  refine ⟨fun c => j169 _ ?_, fun c => ⟨vr 1 (by decide), j169 _ ?_⟩⟩
  · rw [← hmx, if_neg (by omega)]
  · rw [← hmx, if_pos (by omega)]
end LnkM
