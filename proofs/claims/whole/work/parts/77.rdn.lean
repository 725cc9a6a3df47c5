/-! ===== the reference reads a line ===== -/
def MK (σ : Hp) (T : Tx) (N : Nat) (p : PD) (nm : Nat → Int64) (hB : Nat) (r : Nat → Int32) (w : Int64) (b : Nat) : Prop := N ≤ 900 ∧ MT σ T N ∧ b ≤ N ∧ PI p hB ∧ RDm σ p nm hB ∧ r 15 = nI N ∧ r 23 = nI hB ∧ TCm T N b r w
section StageM
variable {σ : Hp} {T : Tx} {N b : Nat} {r : Nat → Int32} {w : Int64} {Q : Int32 → Hp → Prop} {Z : Hp → Prop} {OK : OT → Prop}
theorem m_stage {j lo hi cn : Nat} {c : Int32} {kk : Nat → Nat → OT} (hc : c = nI cn) (hcn : cn < 7) (hN : N ≤ 900) (hT : MT σ T N) (hb : b ≤ N) (hj : j < 13) (hlo : lo < 2 ^ 31) (hhi : hi < 2 ^ 31) (h15 : r 15 = nI N) (ht : TCm T N b r w) (h : OK (aftO T N j lo hi b kk)) (hE : ∀ f pl, OK (erO f pl) → 1 ≤ f → f ≤ 6 → ∀ r' w', EPm r r' f pl → Q (-1) (stG 8 20 (sI σ 54 0 cn (-1)) r' w')) (hK : ∀ v b', OK (kk v b') → lo ≤ v ∧ v ≤ hi → b < b' → b' ≤ N → ∀ r' w', Fr8 r r' → TCm T N b' r' w' → Z (stG 8 20 (sI σ 54 0 cn (nI v)) r' w')) : S_X8_after j (nI lo) (nI hi) (stG 8 20 σ r w) (fun r3 σ2 => vp_in c 7 ∧ ∀ σ4, σ4 = sI σ2 54 0 (ix c) r3 → vp_in c 7 ∧ ((¬ (gI σ4 54 0 (ix c)) = (-1) → Z σ4) ∧ ((gI σ4 54 0 (ix c)) = (-1) → Q (-1) σ4))) := by
  have vc : vp_in c 7 := by rw [hc]; exact vp_in_nI hcn (by decide)
  have ic : ix c = cn := by rw [hc]; exact ix_nI (by omega)
  rw [ic]
  refine m_after (OK := OK) hN hT hb hj hlo hhi h15 ht h (fun f pl o f1 f6 r' w' e => ⟨vc, ?_⟩) (fun v b' o g l9 m l r' w' f t => ⟨vc, ?_⟩)
  · rintro _ rfl
    rw [sGn (by decide), gGn (by decide), gI_sI, if_pos ⟨rfl, rfl, rfl⟩]
    exact ⟨vc, fun z => absurd rfl z, fun _ => hE f pl o f1 f6 r' w' e⟩
  · rintro _ rfl
    rw [sGn (by decide), gGn (by decide), gI_sI, if_pos ⟨rfl, rfl, rfl⟩]
    exact ⟨vc, fun _ => hK v b' o g m l r' w' f t, fun z => absurd z (ne_m1 (by omega))⟩
end StageM
section LinesM
variable {σ : Hp} {T : Tx} {N b hB : Nat} {r : Nat → Int32} {w : Int64} {Q : Int32 → Hp → Prop} {OK : OT → Prop} {p : PD} {nm : Nat → Int64} {k : PD → (Nat → Int64) → Nat → Nat → OT}
theorem m_busL (hC : MK σ T N p nm hB r w b) (hW : isW T N 0 b) (h : OK (busO T N p nm hB b k)) (hE : ∀ f pl, OK (erO f pl) → 1 ≤ f → f ≤ 6 → ∀ σ' r' w', FM σ σ' → EPm r r' f pl → Q (-1) (stG 8 20 σ' r' w')) (hK : ∀ p' b' v, OK (k p' nm 1 b') → b < b' → ∀ σ' r' w', FM σ σ' → FrM r r' → MK σ' T N p' nm 1 r' w' b' → ¬ v = -1 → Q v (stG 8 20 σ' r' w')) : S_X8_readBus (stG 8 20 σ r w) Q := by
  obtain ⟨hN, hT, hb, hI, hD, h15, h23, ht⟩ := hC
  have F0 := FM.refl σ
  unfold busO at h
  unfold S_X8_readBus
  rw [gG, h23]
  by_cases q0 : hB = 0
  · subst q0
    rw [cif_pos rfl] at h
    refine b0' ?_
    have n0 := nx_lt hb (show kdT T N b ≠ 0 by rw [hW.1]; decide)
    refine m_tok hN hT n0.2 h15 (ht.2.2.1 (by rw [hW.1]; decide)) (fun r0 w0 f0 t0 => ?_)
    have z15 : r0 15 = nI N := (f0 15 (by decide) (by decide) (by decide) (by decide)).trans h15
    have cv : ∀ {f pl : Nat} {ra rb : Nat → Int32}, FrM r ra → EPm ra rb f pl → EPm r rb f pl := fun a e => ⟨a.trans e.1, e.2.1, e.2.2⟩
    refine m_stage (OK := OK) (cn := 0) rfl (by decide) (lo := 1) (hi := 3) hN hT n0.2 (by decide) (by decide) (by decide) z15 t0 h (fun f pl o a1 a6 r' w' e => hE f pl o a1 a6 _ _ _ (F0.s (by omega) _ _ _) (cv f0.m e)) (fun v1 b1 o1 g1 m1 l1 r1 w1 f1 t1 => ?_)
    have G1 := F0.s (a := 54) (by omega) 0 0 (nI v1)
    have y15 : r1 15 = nI N := (f1 15 (by decide) (by decide) (by decide) (by decide)).trans z15
    have y := f0.trans f1
    refine m_stage (OK := OK) (cn := 1) rfl (by decide) (lo := 1) (hi := 12) hN (hT.fm G1) l1 (by decide) (by decide) (by decide) y15 t1 o1 (fun f pl o a1 a6 r' w' e => hE f pl o a1 a6 _ _ _ (G1.s (by omega) _ _ _) (cv y.m e)) (fun v2 b2 o2 g2 m2 l2 r2 w2 f2 t2 => ?_)
    have G2 := G1.s (a := 54) (by omega) 0 1 (nI v2)
    have x15 : r2 15 = nI N := (f2 15 (by decide) (by decide) (by decide) (by decide)).trans y15
    have x := y.trans f2
    refine m_stage (OK := OK) (cn := 2) rfl (by decide) (lo := 0) (hi := 400) hN (hT.fm G2) l2 (by decide) (by decide) (by decide) x15 t2 o2 (fun f pl o a1 a6 r' w' e => hE f pl o a1 a6 _ _ _ (G2.s (by omega) _ _ _) (cv x.m e)) (fun v3 b3 o3 g3 m3 l3 r3 w3 f3 t3 => ?_)
    have G3 := G2.s (a := 54) (by omega) 0 2 (nI v3)
    have u15 : r3 15 = nI N := (f3 15 (by decide) (by decide) (by decide) (by decide)).trans x15
    have uu := x.trans f3
    refine m_stage (OK := OK) (cn := 3) rfl (by decide) (lo := 1) (hi := 100) hN (hT.fm G3) l3 (by decide) (by decide) (by decide) u15 t3 o3 (fun f pl o a1 a6 r' w' e => hE f pl o a1 a6 _ _ _ (G3.s (by omega) _ _ _) (cv uu.m e)) (fun v4 b4 o4 g4 m4 l4 r4 w4 f4 t4 => ?_)
    have G4 := G3.s (a := 54) (by omega) 0 3 (nI v4)
    have s15 : r4 15 = nI N := (f4 15 (by decide) (by decide) (by decide) (by decide)).trans u15
    have ss := uu.trans f4
    have v4' : vp_in 4 7 := vp_in_nI (n := 4) (by decide) (by decide)
    have i4 : ix 4 = 4 := rfl
    refine m_after (OK := OK) (lo := 1) (hi := 999) hN (hT.fm G4) l4 (by decide) (by decide) (by decide) s15 t4 o4 (fun f pl o a1 a6 r' w' e => ⟨v4', ?_⟩) (fun v5 b5 o5 g5 l9 m5 l5 r5 w5 f5 t5 => ⟨v4', ?_⟩)
    · rintro _ rfl
      rw [i4, sGn (by decide), gGn (by decide), gI_sI, if_pos ⟨rfl, rfl, rfl⟩]
      refine ⟨v4', fun _ => ?_, fun z => absurd rfl z⟩
      rintro _ rfl
      rw [sG, gGn (by decide), gI_sI, if_pos ⟨rfl, rfl, rfl⟩]
      exact ⟨v4', hE f pl o a1 a6 _ _ _ (G4.s (by omega) _ _ _) ⟨(ss.m.trans e.1).u (by omega) _, by rw [pk_un (by decide)]; exact e.2.1, by rw [pk_un (by decide)]; exact e.2.2⟩⟩
    · rintro _ rfl
      rw [i4, sGn (by decide), gGn (by decide), gI_sI, if_pos ⟨rfl, rfl, rfl⟩]
      refine ⟨v4', fun z => absurd z (ne_m1 (by omega)), fun _ => ?_⟩
      rintro _ rfl
      rw [sG, gGn (by decide), gI_sI, if_pos ⟨rfl, rfl, rfl⟩]
      have G5 := G4.s (a := 54) (by omega) 0 4 (nI v5)
      obtain ⟨ne0, nl0⟩ := hI.2.1 rfl
      have ee : nE (busP p v1 v2 v3 v4 v5) = 0 := (busP_ne (by omega)).trans ne0
      have ll : nL (busP p v1 v2 v3 v4 v5) = 0 := (busP_ne (by omega)).trans nl0
      refine ⟨v4', hK _ b5 (nI v5) o5 (by omega) _ _ w5 G5 ((ss.trans f5).m.u (by omega) _) ⟨hN, hT.fm G5, l5, PI_bus hI g1 g2.2 g3.2 g4.2 g5.2, ⟨?_, ?_, fun _ c hc => ?_, fun e he => by rw [ee] at he; omega, fun l hl => by rw [ll] at hl; omega, fun l i hl => by rw [ll] at hl; omega⟩, by rw [pk_un (by decide)]; exact (f5 15 (by decide) (by decide) (by decide) (by decide)).trans s15, pk_us, ⟨by rw [pk_un (by decide)]; exact t5.1, by rw [pk_un (by decide)]; exact t5.2.1, fun z => by rw [pk_un (by decide)]; exact t5.2.2.1 z, t5.2.2.2.1, fun z => by rw [pk_un (by decide)]; exact t5.2.2.2.2 z⟩⟩ (ne_m1 (by omega))⟩
      · rw [gI_sI, if_neg (by omega), gI_sI, if_neg (by omega), gI_sI, if_neg (by omega), gI_sI, if_neg (by omega), gI_sI, if_neg (by omega), hD.1, ee, ne0]
      · rw [gI_sI, if_neg (by omega), gI_sI, if_neg (by omega), gI_sI, if_neg (by omega), gI_sI, if_neg (by omega), gI_sI, if_neg (by omega), hD.2.1, ll, nl0]
      · have : c = 0 ∨ c = 1 ∨ c = 2 ∨ c = 3 ∨ c = 4 := by omega
        rcases this with q | q | q | q | q <;> subst q
        · rw [gI_sI, if_neg (by omega), gI_sI, if_neg (by omega), gI_sI, if_neg (by omega), gI_sI, if_neg (by omega), gI_sI, if_pos ⟨rfl, rfl, rfl⟩]; rfl
        · rw [gI_sI, if_neg (by omega), gI_sI, if_neg (by omega), gI_sI, if_neg (by omega), gI_sI, if_pos ⟨rfl, rfl, rfl⟩]; rfl
        · rw [gI_sI, if_neg (by omega), gI_sI, if_neg (by omega), gI_sI, if_pos ⟨rfl, rfl, rfl⟩]; rfl
        · rw [gI_sI, if_neg (by omega), gI_sI, if_pos ⟨rfl, rfl, rfl⟩]; rfl
        · rw [gI_sI, if_pos ⟨rfl, rfl, rfl⟩]; rfl
  · rw [cif_neg q0] at h
    have h1 : hB = 1 := by have := hI.2.2.2; omega
    subst h1
    exact b1' (m_errs (f := 3) rfl ht.1 (fun r' e => hE 3 _ h (by decide) (by decide) _ _ _ F0 e))
theorem RDm.l60 {a : Nat} {v : Int64} (h : RDm σ p nm hB) (h6 : nE p ≤ 6) (ha : (nE p ≤ a ∧ a < 6) ∨ 6 + nL p ≤ a) : RDm (sL σ 60 0 a v) p nm hB := by
  obtain ⟨a1, a2, a3, a4, a5, a6⟩ := h
  refine ⟨a1, a2, a3, fun e he => ?_, fun l hl => ?_, a6⟩
  · rw [gI_sL, gL_sL, if_neg (by omega)]
    exact a4 e he
  · rw [gL_sL, if_neg (by omega)]
    exact a5 l hl
theorem m_endL (hC : MK σ T N p nm hB r w b) (hW : isW T N 6 b) (h : OK (endO T N p nm hB b k)) (hE : ∀ f pl, OK (erO f pl) → 1 ≤ f → f ≤ 6 → ∀ σ' r' w', FM σ σ' → EPm r r' f pl → Q (-1) (stG 8 20 σ' r' w')) (hK : ∀ p' nm' b' v, OK (k p' nm' hB b') → b < b' → ∀ σ' r' w', FM σ σ' → FrM r r' → MK σ' T N p' nm' hB r' w' b' → ¬ v = -1 → Q v (stG 8 20 σ' r' w')) : S_X8_readEnd (stG 8 20 σ r w) Q := by
  obtain ⟨hN, hT, hb, hI, hD, h15, h23, ht⟩ := hC
  have F0 := FM.refl σ
  have h6 : nE p ≤ 6 := hI.1.2.2.2.2.2.1
  have h8 : nL p ≤ 8 := hI.1.2.2.2.2.2.2.1
  have hsw : pSw p ≤ 3 := hI.1.1
  have v5 : vp_in 5 7 := vp_in_nI (n := 5) (by decide) (by decide)
  have v0 : vp_in 0 7 := vp_in_nI (n := 0) (by decide) (by decide)
  unfold endO at h
  unfold S_X8_readEnd
  rw [show ix 5 = 5 from rfl, show ix 0 = 0 from rfl, gGn (by decide), hD.1, show (nI (nE p) = (6 : Int32)) = (nI (nE p) = nI 6) from rfl, eq_nI (by omega) (by decide), gG, h23]
  refine ⟨v5, fun nq => ?_, fun nq => ?_⟩
  · by_cases q0 : hB = 0
    · subst q0
      rw [cif_pos rfl] at h
      exact b0 (m_errs (f := 6) rfl ht.1 (fun r' e => hE 6 _ h (by decide) (by decide) _ _ _ F0 e))
    have h1 : hB = 1 := by have := hI.2.2.2; omega
    subst h1
    have hlt : nE p < 6 := by omega
    rw [cif_neg q0, cif_pos hlt] at h
    have sw1 := hI.2.2.1 rfl
    refine b1 ?_
    have n0 := nx_lt hb (show kdT T N b ≠ 0 by rw [hW.1]; decide)
    refine m_tok hN hT n0.2 h15 (ht.2.2.1 (by rw [hW.1]; decide)) (fun r0 w0 f0 t0 => ?_)
    have z15 : r0 15 = nI N := (f0 15 (by decide) (by decide) (by decide) (by decide)).trans h15
    have cv : ∀ {f pl : Nat} {ra rb : Nat → Int32}, FrM r ra → EPm ra rb f pl → EPm r rb f pl := fun a e => ⟨a.trans e.1, e.2.1, e.2.2⟩
    unfold nmO at h
    refine m_newN hN hT n0.2 (a := nE p) (by omega) h6 h8 hD z15 t0 (fun i td r1 w1 f1 t1 => ?_) (fun i td r1 e => ?_) (fun i r1 e => ?_)
    · rw [cif_pos i, cif_neg td] at h
      obtain ⟨wn, hwn⟩ : ∃ wn, lN (wvT T N (enT T N b)) = wn := ⟨_, rfl⟩
      rw [hwn] at h ⊢
      have n1 := nx_lt n0.2 (show kdT T N (enT T N b) ≠ 0 by rw [i.1]; decide)
      have y15 : r1 15 = nI N := (f1 15 (by decide) (by decide) (by decide) (by decide)).trans z15
      have yf := f0.trans f1
      have G1 := F0.l 0 (nE p) wn
      have D1 := hD.l60 (a := nE p) (v := wn) h6 (by omega)
      refine ⟨fun _ => ⟨v0, ?_⟩, fun z => absurd z (by decide)⟩
      rw [gGn (by decide), D1.2.2.1 rfl 0 (by decide), show nI (p 0 0) - 1 = nI (pSw p - 1) from sub_nI (a := pSw p) (b := 1) sw1]
      have ve : vp_in (nI (nE p)) 6 := vp_in_nI hlt (by decide)
      have ie : ix (nI (nE p)) = nE p := ix_nI (by omega)
      rw [ie]
      refine m_after (OK := OK) (lo := 0) hN (hT.fm G1) n1.2 (by decide) (by decide) (by omega) y15 t1 h (fun f pl o a1 a6 r' w' e => ⟨ve, ?_⟩) (fun s b2 o2 g2 l9 m2 l2 r2 w2 f2 t2 => ⟨ve, ?_⟩)
      · rintro _ rfl
        rw [sGn (by decide), gGn (by decide), gI_sI, if_pos ⟨rfl, rfl, rfl⟩]
        refine ⟨v5, ve, fun z => absurd rfl z, fun _ => ⟨v5, ?_⟩⟩
        rintro _ rfl
        rw [sGn (by decide), gGn (by decide), gI_sI, if_neg (by omega), gI_sI, if_pos ⟨rfl, rfl, rfl⟩]
        exact ⟨ve, hE f pl o a1 a6 _ _ _ ((G1.s (by omega) _ _ _).s (by omega) _ _ _) (cv yf.m e)⟩
      · rintro _ rfl
        rw [sGn (by decide), gGn (by decide), gI_sI, if_pos ⟨rfl, rfl, rfl⟩]
        refine ⟨v5, ve, fun _ => ⟨v5, ?_⟩, fun z => absurd z (ne_m1 (by omega))⟩
        rintro _ rfl
        have e5 : gI (stG 8 20 (sI (sL σ 60 0 (nE p) wn) 56 0 (nE p) (nI s)) r2 w2) 54 0 5 = nI (nE p) := by
          rw [gGn (by decide), gI_sI, if_neg (by omega)]
          exact D1.1
        rw [e5, sGn (by decide), gGn (by decide), gI_sI, if_neg (by omega), gI_sI, if_pos ⟨rfl, rfl, rfl⟩, show nI (nE p) + 1 = nI (nE p + 1) from add_nI _ 1]
        have G2 := (G1.s (a := 56) (by omega) 0 (nE p) (nI s)).s (a := 54) (by omega) 0 5 (nI (nE p + 1))
        refine ⟨ve, hK _ _ _ (nI s) o2 (by omega) _ r2 w2 G2 (yf.trans f2).m ⟨hN, hT.fm G2, l2, PI_end hI hlt g2.2, ⟨?_, ?_, fun _ c hc => ?_, fun e he => ?_, fun l hl => ?_, fun l i hl hi => ?_⟩, (f2 15 (by decide) (by decide) (by decide) (by decide)).trans y15, ((yf.trans f2) 23 (by decide) (by decide) (by decide) (by decide)).trans h23, t2⟩ (ne_m1 (by omega))⟩
        · rw [gI_sI, if_pos ⟨rfl, rfl, rfl⟩, endP_nE]
        · rw [gI_sI, if_neg (by omega), gI_sI, if_neg (by omega), D1.2.1]
          exact congrArg nI (endP_ne (p := p) (x := 0) (y := 6) (by omega) (by omega)).symm
        · rw [gI_sI, if_neg (by omega), gI_sI, if_neg (by omega), D1.2.2.1 rfl c hc, endP_ne (by omega) (by omega)]
        · rw [endP_nE] at he
          rw [gI_sI, if_neg (by omega), gI_sI, gL_sI, gL_sI, gL_sL]
          by_cases eq : e = nE p
          · subst eq
            rw [if_pos ⟨rfl, rfl, rfl⟩, if_pos ⟨rfl, rfl, rfl⟩, endP_s]
            exact ⟨rfl, (if_pos rfl).symm⟩
          · rw [if_neg (by omega), if_neg (by omega)]
            have := hD.2.2.2.1 e (by omega)
            exact ⟨this.1.trans (congrArg nI (endP_ne (p := p) (x := 1) (y := e) (by omega) (by omega)).symm), this.2.trans (if_neg eq).symm⟩
        · have hl' : l < nL p := by
            have : nL (endP p s) = nL p := endP_ne (by omega) (by omega)
            omega
          have := hD.2.2.2.2.1 l hl'
          have n2' : ∀ c, endP p s 2 c = p 2 c := fun c => endP_ne (by omega) (by omega)
          refine ⟨fun j hj => ?_, ?_⟩
          · rw [n2', gI_sI, if_neg (by omega), gI_sI, if_neg (by omega), gI_sL]
            exact this.1 j hj
          · rw [gL_sI, gL_sI, gL_sL, if_neg (by omega)]
            exact this.2.trans (if_neg (by omega)).symm
        · have hl' : l < nL p := by
            have : nL (endP p s) = nL p := endP_ne (by omega) (by omega)
            omega
          have n2' : ∀ c, endP p s 2 c = p 2 c := fun c => endP_ne (by omega) (by omega)
          unfold rc at hi
          rw [n2'] at hi
          unfold re
          rw [n2', gI_sI, if_neg (by omega), gI_sI, if_neg (by omega), gI_sL]
          exact hD.2.2.2.2.2 l i hl' hi
    · rw [cif_pos i, cif_pos td] at h
      exact ⟨fun z => absurd rfl z, fun _ => hE 3 _ h (by decide) (by decide) _ _ _ F0 (cv f0.m e)⟩
    · rw [cif_neg i] at h
      exact ⟨fun z => absurd rfl z, fun _ => hE 1 _ h (by decide) (by decide) _ _ _ F0 (cv f0.m e)⟩
  · have h1 : hB = 1 := by
      have h2 := hI.2.2.2
      rcases Nat.lt_or_ge hB 1 with a | a
      · have := (hI.2.1 (by omega)).1; omega
      · omega
    subst h1
    rw [cif_neg (by decide), cif_neg (by omega)] at h
    exact m_errs (f := 5) rfl ht.1 (fun r' e => hE 5 _ h (by decide) (by decide) _ _ _ F0 e)
end LinesM
