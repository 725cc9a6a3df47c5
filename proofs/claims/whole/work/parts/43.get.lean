section Cases2
variable {n : Nat} {σ : Hp} {p : PD} {P : Nat} {Q : Int32 → Hp → Prop}
theorem c_hasNet {x : Int32} (h1 : ∀ k, k < 2 → x = nI k → Q 1 σ) (h0 : ¬ isN x 2 → Q 0 σ) : S_X7_hasNet x σ Q := rng1 (n := 2) (by decide) (fun ⟨k, a, b⟩ => h1 k a b) h0
theorem c_lostSort {x : Int32} (h1 : ∀ k, k < 3 → x = nI k → Q 1 σ) (h0 : ¬ isN x 3 → Q 0 σ) : S_X7_isLostSort x σ Q := rng1 (n := 3) (by decide) (fun ⟨k, a, b⟩ => h1 k a b) h0
def nlK (n : Nat) (c x y : Int32) (r4 : Int32) (σ3 : Hp) : Prop := S_X8_fresh σ3 (fun σ1 => S_X8_isLink y σ1 (fun r3 σ2 => ((r3 = 0 → S_X8_no 1 σ2 (fun r5 σ4 => r4 = r5 ∧ RR (n + 1) σ4)) ∧ (¬ r3 = 0 → S_X8_in x 0 1 σ2 (fun r7 σ6 => ((r7 = 0 → S_X8_no 1 σ6 (fun r5 σ4 => r4 = r5 ∧ RR (n + 1) σ4)) ∧ (¬ r7 = 0 → vp_in ((c + (8 * x)) + y) 1809 ∧ (r4 = (gI σ6 61 0 (ix ((c + (8 * x)) + y))) ∧ RR (n + 1) σ6))))))))
/-- the case credit or policed: a row of 16 by net and link -/
theorem netLink {x y : Int32} {f b : Nat} {c : Int32} (hf : ∀ k, k % 8 < nL p → plk p f k = true) (hv : vlen f = 16) (hm : ∀ k, mi f k = b + k) (hb : b < 100) (hc : c = nI b) (hq : RQ n σ p P) (hT : TR σ) :
    S_X7_hasNet x σ (fun r2 σ1 => ((r2 = 0 → S_X7_refuse 1 σ1 (nlK n c x y)) ∧ (¬ r2 = 0 → gR σ1 0 < 2 ∧ S_X2_hasLink (gR σ1 0) y σ1 (fun r7 σ6 => ((¬ r7 = 0 → vp_in ((x * 8) + y) 16 ∧ S_X7_answer (gI σ6 f 0 (ix ((x * 8) + y))) σ6 (nlK n c x y)) ∧ (r7 = 0 → S_X7_refuse 1 σ6 (nlK n c x y))))))) := by
  have h8 := hq.nL8
  subst hc
  refine c_hasNet (fun k hk e => b1' ?_) (fun q => b0' ?_)
  · rw [hq.g0]
    refine ⟨hq.P2, c_hasLink hq (fun l hl e2 => b1 ?_) (fun q => b0 ?_)⟩
    · subst e
      subst e2
      rw [show (8 : Int32) = nI 8 from rfl, mul_nI, add_nI]
      refine ⟨vp_in_nI (by omega) (by decide), ?_⟩
      rintro _ rfl
      unfold nlK
      rw [show (8 : Int32) = nI 8 from rfl, mul_nI, add_nI, add_nI]
      refine fresh_pre (m_isLink (hq.pr 0) (fun l' hl' e' => b1' ?_) (fun q => absurd ⟨l, hl, rfl⟩ q))
      refine rng2 (n := 2) (by decide) rfl (fun _ => b1' ?_) (fun q => absurd ⟨k, hk, rfl⟩ q)
      refine ⟨vp_in_nI (by omega) (by decide), ?_, hq.ans hT⟩
      rw [ix_nI (by omega), ix_nI (by omega), pr61]
      refine hq.row (by omega) (hf _ (by omega)) (by omega) ?_
      rw [hm]
      omega
    · rintro _ rfl
      unfold nlK
      exact fresh_pre (m_isLink (hq.pr 1) (fun l' hl' e' => absurd ⟨l', hl', e'⟩ q) (fun _ => b0' (kR hq hT n14)))
  · rintro _ rfl
    unfold nlK
    refine fresh_pre (m_isLink (hq.pr 1) (fun l' hl' e' => b1' ?_) (fun _ => b0' (kR hq hT n14)))
    exact rng2 (n := 2) (by decide) rfl (fun q2 => absurd q2 q) (fun _ => b0' (kR hq hT n14))
theorem k_credit {x y : Int32} (h : RR n σ) : S_X7_credit x y σ (fun r σ1 => S_X8_credit x y σ1 (fun r' σ2 => r = r' ∧ RR (n + 1) σ2)) := by
  obtain ⟨⟨p, P, hq⟩, hT⟩ := h
  exact netLink (f := 45) (b := 41) (fun _ h => lv45 h) rfl (fun _ => rfl) (by decide) rfl hq hT
theorem k_policed {x y : Int32} (h : RR n σ) : S_X7_policed x y σ (fun r σ1 => S_X8_policed x y σ1 (fun r' σ2 => r = r' ∧ RR (n + 1) σ2)) := by
  obtain ⟨⟨p, P, hq⟩, hT⟩ := h
  exact netLink (f := 46) (b := 57) (fun _ _ => rfl) rfl (fun _ => rfl) (by decide) rfl hq hT
theorem m_isLoss {x y : Int32} (h : RQ n σ p P) (h1 : 0 < nL p → isN x 2 → isN y 3 → Q 1 σ) (h0 : nL p = 0 ∨ ¬ isN x 2 ∨ ¬ isN y 3 → Q 0 σ) : S_X8_isLoss x y σ Q := by
  unfold S_X8_isLoss
  rcases Nat.eq_zero_or_pos (nL p) with e | e
  · rw [h.told0 e]
    exact b0' (h0 (Or.inl e))
  · rw [h.told1 e]
    exact b1' (rng2 (n := 2) (by decide) rfl (fun a => b1' (rng2 (n := 3) (by decide) rfl (fun b => b1' (h1 e a b)) (fun b => b0' (h0 (Or.inr (Or.inr b)))))) (fun a => b0' (h0 (Or.inr (Or.inl a)))))
theorem k_lost {x y : Int32} (h : RR n σ) : S_X7_lost x y σ (fun r σ1 => S_X8_lost x y σ1 (fun r' σ2 => r = r' ∧ RR (n + 1) σ2)) := by
  obtain ⟨⟨p, P, hq⟩, hT⟩ := h
  have no : (nL p = 0 ∨ ¬ isN x 2 ∨ ¬ isN y 3) → J_X7_lost_21 (fun r σ1 => S_X8_lost x y σ1 (fun r' σ2 => r = r' ∧ RR (n + 1) σ2)) σ := by
    intro q
    rintro _ rfl
    unfold S_X8_lost
    refine fresh_pre (m_isLoss (hq.pr 1) (fun a b c => ?_) (fun _ => b0' (kR hq hT n14)))
    rcases q with q | q | q
    · omega
    · exact absurd b q
    · exact absurd c q
  unfold S_X7_lost
  refine c_noBus hq (fun hL => b0 ?_) (fun q => b1 (no (Or.inl q)))
  refine c_hasNet (fun k hk e => b1' ?_) (fun q => b0' (no (Or.inr (Or.inl q))))
  refine c_lostSort (fun j hj e2 => b1 ?_) (fun q => b0 (no (Or.inr (Or.inr q))))
  subst e
  subst e2
  rw [show (3 : Int32) = nI 3 from rfl, mul_nI, add_nI]
  refine ⟨vp_in_nI (by omega) (by decide), ?_⟩
  rintro _ rfl
  unfold S_X8_lost
  refine fresh_pre (m_isLoss (hq.pr 0) (fun _ _ _ => b1' ?_) (fun q => ?_))
  · rw [show (3 : Int32) = nI 3 from rfl, show (73 : Int32) = nI 73 from rfl, mul_nI, add_nI, add_nI]
    refine ⟨vp_in_nI (by omega) (by decide), ?_, hq.ans hT⟩
    rw [ix_nI (by omega), ix_nI (by omega), pr61]
    exact hq.row hL (f := 39) rfl (show _ < 6 by omega) (show _ = 73 + _ by omega)
  · rcases q with q | q | q
    · omega
    · exact absurd ⟨k, hk, rfl⟩ q
    · exact absurd ⟨j, hj, rfl⟩ q
theorem k_about {x : Int32} (h : RR n σ) : S_X7_about x σ (fun r σ1 => S_X8_about x σ1 (fun r' σ2 => r = r' ∧ RR (n + 1) σ2)) := by
  obtain ⟨⟨p, P, hq⟩, hT⟩ := h
  unfold S_X7_about
  refine c_noBus hq (fun hL => b0' ?_) (fun q => b1' ?_)
  · rw [hq.g0]
    have fin : ∀ j, j < 7 → gI σ 2 P j = nI (p 0 j) → x = nI j → P < 2 ∧ S_X7_answer (gI σ 2 P j) σ (fun r σ1 => S_X8_about x σ1 (fun r' σ2 => r = r' ∧ RR (n + 1) σ2)) := by
      rintro j hj hv rfl
      refine ⟨hq.P2, ?_⟩
      rintro _ rfl
      unfold S_X8_about
      refine fresh_pre ?_
      rw [(hq.pr 0).told1 hL]
      refine b1' (rng2 (n := 8) (by decide) rfl (fun _ => b1 ?_) (fun q => absurd ⟨j, by omega, rfl⟩ q))
      refine ⟨fun _ => ⟨vp_in_nI (by omega) (by decide), ?_, hq.ans hT⟩, fun q => ?_⟩
      · rw [ix_nI (by omega), pr53, hv, hq.M.1 j hj]
      · have := nI_inj31 (b := 7) (by omega) (by decide) q
        omega
    obtain ⟨x0, x1, x2, x3, x4, x5, x6, _⟩ := hq.X
    refine ⟨fin 0 (by decide) x0, fin 1 (by decide) x1, fin 2 (by decide) x2, fin 3 (by decide) x3, fin 4 (by decide) x4, fin 5 (by decide) x5, fin 6 (by decide) x6, fun e => ?_, fun a0 a1 a2 a3 a4 a5 a6 a7 => ?_⟩
    · subst e
      rintro _ rfl
      unfold S_X8_about
      refine fresh_pre ?_
      rw [(hq.pr 0).told1 hL]
      refine b1' (rng2 (n := 8) (by decide) rfl (fun _ => b1 ?_) (fun q => absurd ⟨7, by decide, rfl⟩ q))
      refine ⟨fun q => absurd rfl q, fun _ => ⟨vp0, ?_, hq.ans hT⟩⟩
      rw [pr61]
      exact hq.row hL (f := 5) rfl (by decide) rfl
    · rintro _ rfl
      unfold S_X8_about
      refine fresh_pre ?_
      rw [(hq.pr 1).told1 hL]
      refine b1' (rng2 (n := 8) (by decide) rfl (fun q => ?_) (fun _ => b0 (kR hq hT n14)))
      obtain ⟨j, hj, e⟩ := q
      have : j = 0 ∨ j = 1 ∨ j = 2 ∨ j = 3 ∨ j = 4 ∨ j = 5 ∨ j = 6 ∨ j = 7 := by omega
      rcases this with rfl | rfl | rfl | rfl | rfl | rfl | rfl | rfl
      · exact absurd e a0
      · exact absurd e a1
      · exact absurd e a2
      · exact absurd e a3
      · exact absurd e a4
      · exact absurd e a5
      · exact absurd e a6
      · exact absurd e a7
  · rintro _ rfl
    unfold S_X8_about
    refine fresh_pre ?_
    rw [(hq.pr 1).told0 q]
    exact b0' (kR hq hT n14)
end Cases2
