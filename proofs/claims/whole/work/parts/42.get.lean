/-! ===== the answers of the plain questions ===== -/
section Cases
variable {n : Nat} {σ : Hp} {p : PD} {P : Nat}
theorem pr61 (c : Int32) (σ : Hp) (k : Nat) : gI (prH c σ) 61 0 k = gI σ 61 0 k := (Hd.prH c σ).1 61 0 k (Or.inl (by decide)) (Or.inl (by decide))
theorem pr53 (c : Int32) (σ : Hp) (k : Nat) : gI (prH c σ) 53 0 k = gI σ 53 0 k := (Hd.prH c σ).1 53 0 k (Or.inl (by decide)) (Or.inl (by decide))
theorem pr55 (c : Int32) (σ : Hp) (k : Nat) : gI (prH c σ) 55 0 k = gI σ 55 0 k := (Hd.prH c σ).1 55 0 k (Or.inl (by decide)) (Or.inl (by decide))
theorem RQ.row (h : RQ n σ p P) (hL : 0 < nL p) {f k x : Nat} (hf : plk p f k = true) (hk : k < vlen f) (hx : x = mi f k) : gI σ f 0 k = gI σ 61 0 x := by
  obtain ⟨s, t, b, _, _, _, hE, hR, _⟩ := h.2.2.1.1 hL
  subst hx
  exact (hE.1 f k hf hk).trans (hR f k hk).symm
theorem kR (h : RQ n σ p P) (hT : TR σ) {c : Int32} (hc : c ≠ 4) : S_X8_no c (prH c σ) (fun r σ2 => (-1 : Int32) = r ∧ RR (n + 1) σ2) := by
  rintro _ rfl
  exact ⟨rfl, h.ref hT c hc⟩
theorem n14 : (1 : Int32) ≠ 4 := by decide
theorem n24 : (2 : Int32) ≠ 4 := by decide
theorem n34 : (3 : Int32) ≠ 4 := by decide
theorem RR.th (h : RR n σ) : RR (n + 1) (sI σ 8 0 0 0) := by
  obtain ⟨⟨p, P, hq⟩, hT⟩ := h
  refine ⟨⟨p, P, (hq.fr ((Hd.refl σ).s8 (by decide) 0)).mono (Nat.le_succ n)⟩, ?_⟩
  unfold TR at hT ⊢
  simpa [gI_sI] using hT
theorem k_fault (h : RR n σ) : S_X7_fault σ (fun r σ1 => S_X8_fault σ1 (fun r' σ2 => r = r' ∧ RR (n + 1) σ2)) := by
  rintro _ rfl
  refine ⟨?_, h.th⟩
  simpa [gI_sI] using h.2.2.1
theorem k_trouble (h : RR n σ) : S_X7_trouble σ (fun r σ1 => S_X8_trouble σ1 (fun r' σ2 => r = r' ∧ RR (n + 1) σ2)) := by
  rintro _ rfl
  refine ⟨?_, h.th⟩
  simpa [gI_sI] using h.2.1
theorem k_where (h : RR n σ) : S_X7_where σ (fun r σ1 => S_X8_where σ1 (fun r' σ2 => r = r' ∧ RR (n + 1) σ2)) := by
  have e1 : gI (sI σ 8 0 0 0) 8 0 1 = gI σ 7 0 7 := by rw [h.2.1]; simp [gI_sI]
  have e3 : gI (sI σ 8 0 0 0) 8 0 3 = gI σ 8 0 3 := by simp [gI_sI]
  refine ⟨fun q => ?_, fun q => ?_⟩ <;> rintro _ rfl
  · rw [e1]
    exact ⟨fun _ => ⟨rfl, h.th⟩, fun q2 => absurd q2 q⟩
  · rw [e1, e3]
    exact ⟨fun q2 => absurd q q2, fun _ => ⟨h.2.2.2 q, h.th⟩⟩
theorem k_at {x : Int32} (h : RR n σ) : S_X7_at x σ (fun r σ1 => S_X8_at x σ1 (fun r' σ2 => r = r' ∧ RR (n + 1) σ2)) := by
  obtain ⟨⟨p, P, hq⟩, hT⟩ := h
  have h6 := hq.nE6
  unfold S_X7_at
  rw [hq.g0]
  refine ⟨hq.P2, c_hasEnd hq (fun e he hx => b1 ?_) (fun hx => b0 ?_)⟩
  · rw [hq.g0]
    subst hx
    refine ⟨hq.P2, vp_in_nI (by omega) (by decide), ?_⟩
    rintro _ rfl
    unfold S_X8_at
    refine fresh_pre (m_isEnd (hq.pr 0) (fun e' he' hx' => b1' ⟨vp_in_nI (by omega) (by decide), ?_, hq.ans hT⟩) (fun hx' => absurd ⟨e, he, rfl⟩ hx'))
    rw [ix_nI (by omega), pr55, hq.X.2.2.2.2.2.2.2.1 e he, hq.M.2.1 e he]
  · rintro _ rfl
    unfold S_X8_at
    exact fresh_pre (m_isEnd (hq.pr 1) (fun e' he' hx' => absurd ⟨e', he', hx'⟩ hx) (fun _ => b0' (kR hq hT n14)))
theorem k_waits {x y : Int32} (h : RR n σ) : S_X7_waits x y σ (fun r σ1 => S_X8_waits x y σ1 (fun r' σ2 => r = r' ∧ RR (n + 1) σ2)) := by
  obtain ⟨⟨p, P, hq⟩, hT⟩ := h
  have h8 := hq.nL8
  unfold S_X7_waits
  rw [hq.g0]
  refine ⟨hq.P2, c_hasLink hq (fun l hl e => b1 ?_) (fun q => b0 ?_)⟩
  · subst e
    have hL : 0 < nL p := by omega
    have fin : ∀ (f j : Nat), plk p f l = true → vlen f = 8 → mi f l = 1 + 5 * l + j → j < 5 → y = nI j → vp_in (nI l) 8 ∧ S_X7_answer (gI σ f 0 (ix (nI l))) σ (fun r σ1 => S_X8_waits (nI l) y σ1 (fun r' σ2 => r = r' ∧ RR (n + 1) σ2)) := by
      rintro f j hf hv hm hj rfl
      refine ⟨vp_in_nI (by omega) (by decide), ?_⟩
      rintro _ rfl
      unfold S_X8_waits
      refine fresh_pre (m_isLink (hq.pr 0) (fun l' hl' e' => b1' ?_) (fun q => absurd ⟨l, hl, rfl⟩ q))
      refine rng2 (n := 5) (by decide) rfl (fun _ => b1' ?_) (fun q => absurd ⟨j, hj, rfl⟩ q)
      unfold S_X8_linkAt
      rw [show (1 : Int32) = nI 1 from rfl, show (5 : Int32) = nI 5 from rfl, mul_nI, add_nI, add_nI]
      refine ⟨vp_in_nI (by omega) (by decide), ?_, hq.ans hT⟩
      rw [ix_nI (by omega), ix_nI (by omega), pr61]
      exact hq.row hL hf (by omega) hm.symm
    refine ⟨fun e => fin 40 0 rfl rfl rfl (by decide) e, fun e => fin 41 1 rfl rfl rfl (by decide) e, fun e => fin 42 2 rfl rfl rfl (by decide) e, fun e => fin 43 3 rfl rfl rfl (by decide) e, fun e => fin 44 4 (lv44 hl) rfl rfl (by decide) e, fun a0 a1 a2 a3 a4 => ?_⟩
    rintro _ rfl
    unfold S_X8_waits
    refine fresh_pre (m_isLink (hq.pr 1) (fun l' hl' e' => b1' ?_) (fun _ => b0' (kR hq hT n14)))
    refine rng2 (n := 5) (by decide) rfl (fun q => ?_) (fun _ => b0' (kR hq hT n14))
    obtain ⟨j, hj, e⟩ := q
    have : j = 0 ∨ j = 1 ∨ j = 2 ∨ j = 3 ∨ j = 4 := by omega
    rcases this with rfl | rfl | rfl | rfl | rfl
    · exact absurd e a0
    · exact absurd e a1
    · exact absurd e a2
    · exact absurd e a3
    · exact absurd e a4
  · rintro _ rfl
    unfold S_X8_waits
    exact fresh_pre (m_isLink (hq.pr 1) (fun l' hl' e' => absurd ⟨l', hl', e'⟩ q) (fun _ => b0' (kR hq hT n14)))
theorem k_link {x y : Int32} (h : RR n σ) : S_X7_link x y σ (fun r σ1 => S_X8_link x y σ1 (fun r' σ2 => r = r' ∧ RR (n + 1) σ2)) := by
  obtain ⟨⟨p, P, hq⟩, hT⟩ := h
  have h8 := hq.nL8
  unfold S_X7_link
  rw [hq.g0]
  refine ⟨hq.P2, c_hasLink hq (fun l hl e => b1 ?_) (fun q => b0 ?_)⟩
  · subst e
    rw [hq.g0]
    have hX := hq.X.2.2.2.2.2.2.2.2.1 l hl
    have fin : ∀ (f j : Nat), gI σ f P l = nI (p 2 (7 * l + j)) → j < 4 → y = nI j → P < 2 ∧ vp_in (nI l) 8 ∧ S_X7_answer (gI σ f P (ix (nI l))) σ (fun r σ1 => S_X8_link (nI l) y σ1 (fun r' σ2 => r = r' ∧ RR (n + 1) σ2)) := by
      rintro f j hf hj rfl
      refine ⟨hq.P2, vp_in_nI (by omega) (by decide), ?_⟩
      rintro _ rfl
      unfold S_X8_link
      refine fresh_pre (m_isLink (hq.pr 0) (fun l' hl' e' => b1' ?_) (fun q => absurd ⟨l, hl, rfl⟩ q))
      refine rng2 (n := 4) (by decide) rfl (fun _ => b1' ?_) (fun q => absurd ⟨j, hj, rfl⟩ q)
      refine m_lnk (hq.pr 0) hl hj ⟨?_, hq.ans hT⟩
      rw [ix_nI (by omega), hf]
    refine ⟨fun e => fin 25 0 hX.1 (by decide) e, fun e => fin 26 1 hX.2.1 (by decide) e, fun e => fin 27 2 hX.2.2.1 (by decide) e, fun e => fin 28 3 hX.2.2.2 (by decide) e, fun a0 a1 a2 a3 => ?_⟩
    rintro _ rfl
    unfold S_X8_link
    refine fresh_pre (m_isLink (hq.pr 1) (fun l' hl' e' => b1' ?_) (fun _ => b0' (kR hq hT n14)))
    refine rng2 (n := 4) (by decide) rfl (fun q => ?_) (fun _ => b0' (kR hq hT n14))
    obtain ⟨j, hj, e⟩ := q
    have : j = 0 ∨ j = 1 ∨ j = 2 ∨ j = 3 := by omega
    rcases this with rfl | rfl | rfl | rfl
    · exact absurd e a0
    · exact absurd e a1
    · exact absurd e a2
    · exact absurd e a3
  · rintro _ rfl
    unfold S_X8_link
    exact fresh_pre (m_isLink (hq.pr 1) (fun l' hl' e' => absurd ⟨l', hl', e'⟩ q) (fun _ => b0' (kR hq hT n14)))
theorem k_receiver {x y : Int32} (h : RR n σ) : S_X7_receiver x y σ (fun r σ1 => S_X8_receiver x y σ1 (fun r' σ2 => r = r' ∧ RR (n + 1) σ2)) := by
  obtain ⟨⟨p, P, hq⟩, hT⟩ := h
  have h8 := hq.nL8
  unfold S_X7_receiver
  rw [hq.g0]
  refine ⟨hq.P2, c_hasRec hq (fun l i hl hi e1 e2 => b1 ?_) (fun q => b0 ?_)⟩
  · subst e1
    subst e2
    have hr := (hq.V.2.2.2.2.2.2.2.2 l hl).2.2.2.2.2.2.1
    rw [hq.g0]
    refine ⟨hq.P2, ?_⟩
    unfold S_X7_earOf
    rw [show (3 : Int32) = nI 3 from rfl, mul_nI, add_nI, Nat.mul_comm l 3]
    refine ⟨vp_in_nI (by omega) (by decide), ?_⟩
    rintro _ rfl
    unfold S_X8_receiver
    refine fresh_pre (m_isRec (hq.pr 0) (by decide) (fun l' i' hl' hi' e1 e2 => b1' ?_) (fun q => absurd ⟨l, i, hl, hi, rfl, rfl⟩ q))
    refine m_rcv (hq.pr 0) hl hi ⟨?_, hq.ans hT⟩
    rw [ix_nI (by omega), hq.X.2.2.2.2.2.2.2.2.2 l i hl hi]
  · rintro _ rfl
    unfold S_X8_receiver
    exact fresh_pre (m_isRec (hq.pr 1) (by decide) (fun l' i' hl' hi' e1 e2 => absurd ⟨l', i', hl', hi', e1, e2⟩ q) (fun _ => b0' (kR hq hT n14)))
end Cases
