/-! ===== send, down, babble, anew ===== -/
section Mut2
variable {n : Nat} {σ : Hp} {p : PD} {P : Nat} {Q : Int32 → Hp → Prop}
theorem RQ.toldX (h : RQ n σ p P) (hL : 0 < nL p) (c : Int32) (x : SD) : gI (prH c (stX σ 0 x)) 8 0 14 = 1 := by
  rw [(Hd.prH c _).1 8 0 14 (Or.inl (by decide)) (Or.inr (by decide)), gX8]
  exact h.told1 hL
theorem gPX (c : Int32) (x : SD) {a : Nat} (a7 : a ≠ 7) (a8 : a ≠ 8) (hs : stN a = false) (i k : Nat) : gI (prH c (stX σ 0 x)) a i k = gI σ a i k := by
  rw [(Hd.prH c _).1 a i k (Or.inl a7) (Or.inl a8)]
  exact gXn hs i k
theorem RQ.MX (h : RQ n σ p P) (c : Int32) (x : SD) : PM (prH c (stX σ 0 x)) p := by
  have := h.M
  unfold PM at this ⊢
  simp only [gPX (σ := σ) c x (a := 53) (by decide) (by decide) rfl, gPX (σ := σ) c x (a := 55) (by decide) (by decide) rfl, gPX (σ := σ) c x (a := 57) (by decide) (by decide) rfl]
  exact this
theorem lnkX {l : Nat} (h : RQ n σ p P) (c : Int32) (x : SD) (hl : l < nL p) (k : Q 1 (prH c (stX σ 0 x))) : S_X8_isLink (nI l) (prH c (stX σ 0 x)) Q := by
  have h8 := h.nL8
  unfold S_X8_isLink
  rw [h.toldX (by omega) c x]
  refine b1' ⟨vp_in_nI (n := 6) (by decide) (by decide), ?_⟩
  rw [show ix 6 = 6 from rfl, (h.MX c x).1 6 (by decide)]
  exact rng2 (n := nL p) (by omega) (dec_nI (by show nL p < _; omega)) (fun _ => b1' k) (fun q => absurd ⟨l, hl, rfl⟩ q)
theorem endX {l : Nat} (h : RQ n σ p P) (hL : 0 < nL p) (c : Int32) (x : SD) (hl : l < nE p) (k : Q 1 (prH c (stX σ 0 x))) : S_X8_isEnd (nI l) (prH c (stX σ 0 x)) Q := by
  have h8 := h.nE6
  unfold S_X8_isEnd
  rw [h.toldX hL c x]
  refine b1' ⟨vp_in_nI (n := 5) (by decide) (by decide), ?_⟩
  rw [show ix 5 = 5 from rfl, (h.MX c x).1 5 (by decide)]
  exact rng2 (n := nE p) (by omega) (dec_nI (by show nE p < _; omega)) (fun _ => b1' k) (fun q => absurd ⟨l, hl, rfl⟩ q)
theorem sI_X (σ : Hp) {f : Nat} (hf : stN f = true) (k : Nat) (v : Int32) : sI σ f 0 k v = stX σ 0 (u (xs σ 0) f k v) := by
  have := sX (σ := σ) (S := 0) (x := xs σ 0) hf k v
  rw [stX_self] at this
  exact this
theorem sI_M (σ : Hp) (k : Nat) (v : Int32) : sI σ 61 0 k v = stM σ (upd (fun c => gI σ 61 0 c) k v) (gI σ 8 0 28) := by
  have := sM61 σ (fun c => gI σ 61 0 c) (gI σ 8 0 28) k v
  rw [stM_self] at this
  exact this
theorem k_send {x y : Int32} (h : RR n σ) : S_X7_send x y σ (fun r σ1 => S_X8_send x y σ1 (fun r' σ2 => r = r' ∧ RR (n + 1) σ2)) := by
  obtain ⟨⟨p, P, hq⟩, hT⟩ := h
  have h8 := hq.nL8
  unfold S_X7_send
  rw [hq.g0]
  refine ⟨hq.P2, c_hasLink hq (fun l hl e => b1 ?_) (fun q => b0 ?_)⟩
  · subst e
    have hL : 0 < nL p := by omega
    refine rng4 (a := 1) (b := 16) (by decide) (by decide) (fun ⟨k, k1, k2, e⟩ => ?_) (fun q => ?_)
    · subst e
      obtain ⟨s, t, b, t1, hb1, hI, hE, hR, hz⟩ := hq.2.2.1.1 hL
      obtain ⟨⟨w, w1, w2⟩, hk2, hk3, hk4⟩ := hI.2.2.1 l hl
      have v8 : vp_in (nI l) 8 := vp_in_nI (by omega) (by decide)
      have g40 : gI σ 40 0 l = nI w := (hE.1 40 l rfl (show l < 8 by omega)).trans w2
      have g61 : gI σ 61 0 (1 + 5 * l) = nI w := (hR 40 l (show l < 8 by omega)).trans w2
      have mv : vp_in (nI (1 + 5 * l)) 1809 := vp_in_nI (by omega) (by decide)
      have la : (1 + 5 * nI l + 0 : Int32) = nI (1 + 5 * l) := by
        rw [show (1 : Int32) = nI 1 from rfl, show (5 : Int32) = nI 5 from rfl, show (0 : Int32) = nI 0 from rfl, mul_nI, add_nI, add_nI, Nat.add_zero]
      rw [ix_nI (by omega), g40, add_nI, show (16 : Int32) = nI 16 from rfl, le_nI (by omega) (by decide)]
      refine ⟨v8, fun q => ⟨v8, v8, ?_⟩, fun q => ?_⟩
      · rintro _ rfl
        refine ⟨v8, ?_⟩
        rintro _ rfl
        rw [sI_X σ (f := 40) rfl l (nI (w + k))]
        unfold S_X8_send
        refine fresh_pre (lnkX hq 0 _ hl (b1 ?_))
        refine rng3 (a := 1) (b := 16) (by decide) (by decide) (fun _ => b1 ?_) (fun q => absurd ⟨k, k1, k2, rfl⟩ q)
        unfold S_X8_linkAt
        dsimp only
        rw [la, ix_nI (by omega), gPX 0 _ (by decide) (by decide) rfl, g61, add_nI, show (16 : Int32) = nI 16 from rfl, le_nI (by omega) (by decide)]
        refine ⟨mv, fun _ => ⟨mv, mv, ?_⟩, fun q2 => absurd q q2⟩
        rintro _ rfl
        refine ⟨mv, ?_, ?_⟩
        · rw [sI_M, gM61, pk_us, gX40, u_self]
        · rw [sI_M]
          refine hq.done hT hL ⟨u s 40 l (nI (w + k)), t, b, by omega, by omega, ?_, hE.set rfl (by decide) (by decide) l _, ?_, fun l' a1 a2 => ?_⟩
          · refine hI.link (l := l) hq.V (fun f f1 f2 f3 f4 c => u_nf _ _ f1) (fun l' hl' => ⟨u_nk _ _ hl', u_nf _ _ (by decide), u_nf _ _ (by decide)⟩) ⟨⟨w + k, by omega, u_self _ _ _ _⟩, ?_, ?_, ?_⟩
            · rw [u_nf _ _ (by decide)]; exact hk2
            · rw [u_nf _ _ (by decide)]; exact hk3
            · intro net hnet
              rw [u_nf _ _ (by decide)]
              exact hk4 net hnet
          · have hR' : ER (fun c => gI (prH 0 (stX σ 0 (u (xs σ 0) 40 l (nI (w + k))))) 61 0 c) s := fun f c hc => (gPX 0 _ (by decide) (by decide) rfl 0 _).trans (hR f c hc)
            exact hR'.set (f := 40) (k := l) (show l < 8 by omega) rfl _
          · rw [u_nk _ _ (by omega)]
            exact hz l' a1 a2
      · rintro _ rfl
        unfold S_X8_send
        refine fresh_pre (m_isLink (hq.pr 3) (fun _ _ _ => b1 ?_) (fun q => absurd ⟨l, hl, rfl⟩ q))
        refine rng3 (a := 1) (b := 16) (by decide) (by decide) (fun _ => b1 ?_) (fun q => absurd ⟨k, k1, k2, rfl⟩ q)
        unfold S_X8_linkAt
        dsimp only
        rw [la, ix_nI (by omega), pr61, g61, add_nI, show (16 : Int32) = nI 16 from rfl, le_nI (by omega) (by decide)]
        exact ⟨mv, fun q2 => absurd q2 q, fun _ => kR hq hT n34⟩
    · rintro _ rfl
      unfold S_X8_send
      refine fresh_pre (m_isLink (hq.pr 2) (fun _ _ _ => b1 ?_) (fun q => absurd ⟨l, hl, rfl⟩ q))
      exact rng3 (a := 1) (b := 16) (by decide) (by decide) (fun q2 => absurd q2 q) (fun _ => b0 (kR hq hT n24))
  · rintro _ rfl
    unfold S_X8_send
    exact fresh_pre (m_isLink (hq.pr 1) (fun l' hl' e' => absurd ⟨l', hl', e'⟩ q) (fun _ => b0 (kR hq hT n14)))
theorem k_down {x y : Int32} (h : RR n σ) : S_X7_down x y σ (fun r σ1 => S_X8_down x y σ1 (fun r' σ2 => r = r' ∧ RR (n + 1) σ2)) := by
  obtain ⟨⟨p, P, hq⟩, hT⟩ := h
  have no : (nL p = 0 ∨ ¬ isN x 2) → J_X7_down_14 (fun r σ1 => S_X8_down x y σ1 (fun r' σ2 => r = r' ∧ RR (n + 1) σ2)) σ := by
    intro q
    rintro _ rfl
    unfold S_X8_down
    refine fresh_pre ?_
    rcases Nat.eq_zero_or_pos (nL p) with e | e
    · rw [(hq.pr 1).told0 e]
      exact b0' (kR hq hT n14)
    · rw [(hq.pr 1).told1 e]
      refine b1' (rng2 (n := 2) (by decide) rfl (fun q2 => ?_) (fun _ => b0 (kR hq hT n14)))
      rcases q with q | q
      · omega
      · exact absurd q2 q
  unfold S_X7_down
  refine c_noBus hq (fun hL => b0 ?_) (fun q => b1 (no (Or.inl q)))
  refine c_hasNet (fun m hm e => b1 ?_) (fun q => b0 (no (Or.inr q)))
  subst e
  have yes : isN y 2 → J_X7_down_35 (fun r σ1 => S_X8_down (nI m) y σ1 (fun r' σ2 => r = r' ∧ RR (n + 1) σ2)) (nI m) y σ := by
    intro hy
    have v2 : vp_in (nI m) 2 := vp_in_nI hm (by decide)
    refine ⟨v2, v2, ?_⟩
    rintro _ rfl _ rfl
    rw [ix_nI (by omega), sI_X σ (f := 38) rfl m y]
    obtain ⟨s, t, b, t1, hb1, hI, hE, hR, hz⟩ := hq.2.2.1.1 hL
    unfold S_X8_down
    refine fresh_pre ?_
    rw [hq.toldX hL]
    refine b1' (rng2 (n := 2) (by decide) rfl (fun _ => b1 ?_) (fun q => absurd ⟨m, hm, rfl⟩ q))
    refine rng2 (n := 2) (by decide) rfl (fun _ => b1 ?_) (fun q => absurd hy q)
    have mv : vp_in (nI (79 + m)) 1809 := vp_in_nI (by omega) (by decide)
    rw [show (79 : Int32) = nI 79 from rfl, add_nI, ix_nI (by omega)]
    refine ⟨mv, mv, ?_⟩
    rintro _ rfl
    refine ⟨?_, ?_⟩
    · rw [gPX 0 _ (by decide) (by decide) rfl]
      exact hq.row hL (f := 38) rfl hm rfl
    · rw [sI_M]
      refine hq.done hT hL ⟨u s 38 m y, t, b, by omega, by omega, hI.other (by simp), hE.set rfl (by decide) (by decide) m _, ?_, fun l' a1 a2 => ?_⟩
      · have hR' : ER (fun c => gI (prH 0 (stX σ 0 (u (xs σ 0) 38 m y))) 61 0 c) s := fun f c hc => (gPX 0 _ (by decide) (by decide) rfl 0 _).trans (hR f c hc)
        exact hR'.set (f := 38) (k := m) hm rfl _
      · rw [u_nf _ _ (by decide)]
        exact hz l' a1 a2
  refine ⟨fun e => yes ⟨0, by decide, e⟩, fun e0 => ⟨fun e => yes ⟨1, by decide, e⟩, fun e1 => ?_⟩⟩
  rintro _ rfl
  unfold S_X8_down
  refine fresh_pre ?_
  rw [(hq.pr 2).told1 hL]
  refine b1' (rng2 (n := 2) (by decide) rfl (fun _ => b1 ?_) (fun q => absurd ⟨m, hm, rfl⟩ q))
  refine rng2 (n := 2) (by decide) rfl (fun q => ?_) (fun _ => b0 (kR hq hT n24))
  obtain ⟨j, hj, e⟩ := q
  have : j = 0 ∨ j = 1 := by omega
  rcases this with rfl | rfl
  · exact absurd e e0
  · exact absurd e e1
end Mut2
