section EnvC
variable {n : Nat} {σ : Hp} {p : PD} {P : Nat}
theorem n54 : (5 : Int32) ≠ 4 := by decide
theorem kRL (h : RQ n σ p P) (hT : TR σ) {c : Int32} (hc : c ≠ 4) : S_X8_no c (prH c σ) (fun r σ2 => (-1 : Int32).toInt64 = r.toInt64 ∧ RR (n + 1) σ2) := by
  rintro _ rfl
  exact ⟨rfl, h.ref hT c hc⟩
theorem RQ.E (h : RQ n σ p P) (hL : 0 < nL p) : EVn σ p := (h.W hL).2.2.1.2.2
theorem ev_ok (hE : EVn σ p) (q : gI σ 1 0 0 = 0) : ∀ pt, pt < 16 → ldN p pt ≤ 256 := by
  rcases hE.2.2.2 with a | a
  · exact a.2
  · rw [a.1] at q
    exact absurd q (by decide)
theorem ev_no (hE : EVn σ p) (q : ¬ gI σ 1 0 0 = 0) : ∃ pt, pt < 16 ∧ 256 < ldN p pt := by
  rcases hE.2.2.2 with a | a
  · exact absurd a.1 q
  · exact a.2
theorem no_both (h1 : ∀ pt, pt < 16 → ldN p pt ≤ 256) (h2 : ∃ pt, pt < 16 ∧ 256 < ldN p pt) : False := by
  obtain ⟨pt, a, b⟩ := h2
  have := h1 pt a
  omega
theorem k_through {x : Int32} (h : RR n σ) : S_X7_through x σ (fun r σ1 => S_X8_through x σ1 (fun r' σ2 => r = r' ∧ RR (n + 1) σ2)) := by
  obtain ⟨⟨p, P, hq⟩, hT⟩ := h
  unfold S_X7_through
  rw [hq.g0]
  refine ⟨hq.P2, c_hasPort hq (fun k hk e ok => b1 ?_) (fun q => b0 ?_)⟩
  · subst e
    have hL := pt_nL hq ok
    rw [hq.g0, ix_nI (by omega), (hq.W hL).2.2.1.2.1 k hk]
    refine ⟨hq.P2, vp_in_nI hk (by decide), ?_⟩
    rintro _ rfl
    unfold S_X8_through
    refine fresh_pre (m_isPort (hq.pr 0) (fun k' a b d => b1 ?_) (fun q => absurd ⟨k, hk, rfl, ok⟩ q))
    exact m_throughL (hq.pr 0) hk ⟨rfl, hq.ans hT⟩
  · rintro _ rfl
    unfold S_X8_through
    exact fresh_pre (m_isPort (hq.pr 1) (fun k' a b d => absurd ⟨k', a, b, d⟩ q) (fun _ => b0 (kR hq hT n14)))
theorem k_load {x y : Int32} (h : RR n σ) : S_X7_load x y σ (fun r σ1 => S_X8_load x y σ1 (fun r' σ2 => r = r' ∧ RR (n + 1) σ2)) := by
  obtain ⟨⟨p, P, hq⟩, hT⟩ := h
  unfold S_X7_load
  rw [hq.g0]
  refine ⟨hq.P2, c_hasPort hq (fun k hk e ok => b1 ?_) (fun q => b0 ?_)⟩
  · subst e
    have hL := pt_nL hq ok
    have hE := hq.E hL
    have hl := ldN_le hq.V k
    unfold S_X1_loadOf
    rw [ix_nI (by omega), hE.1 k hk, nI_l (by omega), show (65536 : Int64) = lN 65536 from rfl, lN_mul, Nat.mul_comm]
    refine ⟨vp_in_nI hk (by decide), c_part (by omega) ?_⟩
    unfold S_X8_load
    refine fresh_pre (m_isPort (hq.pr 0) (fun k' a b d => b1' ?_) (fun q => absurd ⟨k, hk, rfl, ok⟩ q))
    exact mm_loadOf ((hq.pr 0).rm hL) hk (m_part (by omega) ⟨rfl, hq.ans hT⟩)
  · rintro _ rfl
    unfold S_X8_load
    exact fresh_pre (m_isPort (hq.pr 1) (fun k' a b d => absurd ⟨k', a, b, d⟩ q) (fun _ => b0' (kRL hq hT n14)))
theorem k_delay {x y : Int32} (h : RR n σ) : S_X7_delay x y σ (fun r σ1 => S_X8_delay x y σ1 (fun r' σ2 => r = r' ∧ RR (n + 1) σ2)) := by
  obtain ⟨⟨p, P, hq⟩, hT⟩ := h
  unfold S_X7_delay
  rw [hq.g0]
  refine ⟨hq.P2, c_hasPort hq (fun k hk e ok => b1 ?_) (fun q => b0 ?_)⟩
  · subst e
    have hL := pt_nL hq ok
    have hE := hq.E hL
    have hl := deN_le hq.V k
    refine ⟨fun q0 => ⟨vp_in_nI hk (by decide), ?_⟩, fun q0 => ?_⟩
    · rw [ix_nI (by omega), hE.2.1 k hk]
      refine c_part (by omega) ?_
      unfold S_X8_delay
      refine fresh_pre (m_isPort (hq.pr 0) (fun k' a b d => b1 ?_) (fun q => absurd ⟨k, hk, rfl, ok⟩ q))
      refine mm_isBorne ((hq.pr 0).rm hL) (fun _ => b1' ?_) (fun q => (no_both (ev_ok hE q0) q).elim)
      exact mm_delay8 ((hq.pr 0).rm hL) hk (m_part (by omega) ⟨rfl, hq.ans hT⟩)
    · rintro _ rfl
      unfold S_X8_delay
      refine fresh_pre (m_isPort (hq.pr 5) (fun k' a b d => b1 ?_) (fun q => absurd ⟨k, hk, rfl, ok⟩ q))
      exact mm_isBorne ((hq.pr 5).rm hL) (fun q => (no_both q (ev_no hE q0)).elim) (fun _ => b0' (kRL hq hT n54))
  · rintro _ rfl
    unfold S_X8_delay
    exact fresh_pre (m_isPort (hq.pr 1) (fun k' a b d => absurd ⟨k', a, b, d⟩ q) (fun _ => b0 (kRL hq hT n14)))
theorem c_boundOf {l i : Nat} {Q : Int64 → Hp → Prop} (hq : RQ n σ p P) (hl : l < nL p) (hi : i < rc p l) (k : Q (lN (boN p l i)) σ) : S_X1_boundOf P (nI (3 * l + i)) σ Q := by
  have w4 := wl_le4 hq hl hi
  have h24 := ear_lt hq hl hi
  have hL : 0 < nL p := by omega
  have hW := hq.W hL
  have hE := hq.E hL
  have go : ∀ j m, m + j = wl p l i → L_X1_boundOf_5 Q (fun w5 σ4 => Q w5 σ4) P (nI (3 * l + i)) (j + 1) (lN (smN (fun k => deN p (wp p l i k)) m)) (nI m) σ := by
    intro j
    induction j with
    | zero =>
      intro m hm
      unfold L_X1_boundOf_5
      rw [ix_nI (by omega), hW.1 l i hl hi, le_nI (by omega) (by omega), show m = wl p l i by omega]
      exact ⟨vp_in_nI h24 (by decide), fun _ => k, fun q => absurd (Nat.le_refl _) q⟩
    | succ j ih =>
      intro m hm
      have this := ih (m + 1) (by omega)
      rw [smN_succ] at this
      have hm' : m < wl p l i := by omega
      have hp16 := (on_pt hq.V hl (wp_on hi hm')).1
      unfold L_X1_boundOf_5
      rw [ix_nI (by omega), hW.1 l i hl hi, le_nI (by omega) (by omega)]
      refine ⟨vp_in_nI h24 (by decide), fun q => by omega, fun _ => ?_⟩
      unfold S_X6_portAt
      dsimp only
      rw [show (4 : Int32) = nI 4 from rfl, mul_nI, add_nI, Nat.mul_comm _ 4, ix_nI (by omega), hW.2.1 l i m hl hi hm', ix_nI (by omega), hE.2.1 _ hp16, show nI m + 1 = nI (m + 1) from add_nI m 1, lN_add]
      exact ⟨vp_in_nI (by omega) (by decide), vp_in_nI hp16 (by decide), this⟩
  exact ⟨wl p l i + 1, go (wl p l i) 0 (by omega)⟩
theorem bo_lt {l i : Nat} (hq : RQ n σ p P) (hl : l < nL p) (hi : i < rc p l) : boN p l i < 2 ^ 60 := by
  have := boN_le hq.V (wl_le4 hq hl hi)
  omega
theorem k_bound {x y z : Int32} (h : RR n σ) : S_X7_bound x y z σ (fun r σ1 => S_X8_bound x y z σ1 (fun r' σ2 => r = r' ∧ RR (n + 1) σ2)) := by
  obtain ⟨⟨p, P, hq⟩, hT⟩ := h
  unfold S_X7_bound
  rw [hq.g0]
  refine ⟨hq.P2, c_hasRec hq (fun l i hl hi e1 e2 => b1 ?_) (fun q => b0 ?_)⟩
  · subst e1
    subst e2
    have hL : 0 < nL p := by omega
    have hE := hq.E hL
    have hb := bo_lt hq hl hi
    refine ⟨fun q0 => ?_, fun q0 => ?_⟩
    · rw [hq.g0]
      unfold S_X7_earOf
      dsimp only
      rw [show (3 : Int32) = nI 3 from rfl, mul_nI, add_nI, Nat.mul_comm l 3]
      refine ⟨hq.P2, c_boundOf hq hl hi (c_part (by omega) ?_)⟩
      unfold S_X8_bound
      refine fresh_pre (m_isRec (hq.pr 0) (by decide) (fun l' i' hl' hi' e1 e2 => b1 ?_) (fun q => absurd ⟨l, i, hl, hi, rfl, rfl⟩ q))
      refine mm_isBorne ((hq.pr 0).rm hL) (fun _ => b1' ?_) (fun q => (no_both (ev_ok hE q0) q).elim)
      exact mm_boundOf ((hq.pr 0).rm hL) hl hi (m_part (by omega) ⟨rfl, hq.ans hT⟩)
    · rintro _ rfl
      unfold S_X8_bound
      refine fresh_pre (m_isRec (hq.pr 5) (by decide) (fun l' i' hl' hi' e1 e2 => b1 ?_) (fun q => absurd ⟨l, i, hl, hi, rfl, rfl⟩ q))
      exact mm_isBorne ((hq.pr 5).rm hL) (fun q => (no_both q (ev_no hE q0)).elim) (fun _ => b0' (kRL hq hT n54))
  · rintro _ rfl
    unfold S_X8_bound
    exact fresh_pre (m_isRec (hq.pr 1) (by decide) (fun l' i' hl' hi' e1 e2 => absurd ⟨l', i', hl', hi', e1, e2⟩ q) (fun _ => b0 (kRL hq hT n14)))
theorem k_keeps {x y : Int32} (h : RR n σ) : S_X7_keeps x y σ (fun r σ1 => S_X8_keeps x y σ1 (fun r' σ2 => r = r' ∧ RR (n + 1) σ2)) := by
  obtain ⟨⟨p, P, hq⟩, hT⟩ := h
  unfold S_X7_keeps
  rw [hq.g0]
  refine ⟨hq.P2, c_hasRec hq (fun l i hl hi e1 e2 => b1 ?_) (fun q => b0 ?_)⟩
  · subst e1
    subst e2
    have hL : 0 < nL p := by omega
    have hE := hq.E hL
    have h24 := ear_lt hq hl hi
    have hr : gI σ 15 0 (3 * l + i) = gI σ 61 0 (1329 + 20 * (3 * l + i) + 6) := hq.row hL (f := 15) (lv3 (by have := (hq.V.2.2.2.2.2.2.2.2 l hl).2.2.2.2.2.2.1; omega)).2.2.2.1 h24 rfl
    refine ⟨fun q0 => ?_, fun q0 => ?_⟩
    · unfold S_X7_earOf
      dsimp only
      rw [show (3 : Int32) = nI 3 from rfl, mul_nI, add_nI, Nat.mul_comm l 3, hq.g0, ix_nI (by omega), hr]
      refine ⟨vp_in_nI h24 (by decide), hq.P2, c_boundOf hq hl hi ?_⟩
      have fin : ∀ v : Int32, ((0 : Int32) < (lg_cmp (((gI σ 61 0 (1329 + 20 * (3 * l + i) + 6)).toInt64) * 16777216) (lN (boN p l i))) → v = 0) → (¬ (0 : Int32) < (lg_cmp (((gI σ 61 0 (1329 + 20 * (3 * l + i) + 6)).toInt64) * 16777216) (lN (boN p l i))) → v = 1) → J_X7_keeps_83 (fun r σ1 => S_X8_keeps (nI l) (nI i) σ1 (fun r' σ2 => r = r' ∧ RR (n + 1) σ2)) v σ := by
        intro v hv0 hv1
        rintro _ rfl
        unfold S_X8_keeps
        refine fresh_pre (m_isRec (hq.pr 0) (by decide) (fun l' i' hl' hi' e1 e2 => b1 ?_) (fun q => absurd ⟨l, i, hl, hi, rfl, rfl⟩ q))
        refine mm_isBorne ((hq.pr 0).rm hL) (fun _ => b1 ?_) (fun q => (no_both (ev_ok hE q0) q).elim)
        unfold S_X8_hearAt
        dsimp only
        rw [show (3 : Int32) = nI 3 from rfl, show (20 : Int32) = nI 20 from rfl, show (1329 : Int32) = nI 1329 from rfl, mul_nI, add_nI, mul_nI, add_nI]
        have v6 := i_at (a := 1329 + 20 * (3 * l + i)) (d := 6) rfl (by omega) (e := 6) rfl
        rw [v6.2, pr61]
        exact ⟨v6.1, mm_boundOf ((hq.pr 0).rm hL) hl hi ⟨fun q => ⟨hv0 q, hq.ans hT⟩, fun q => ⟨hv1 q, hq.ans hT⟩⟩⟩
      exact ⟨fun q => fin 0 (fun _ => rfl) (fun q2 => absurd q q2), fun q => fin 1 (fun q2 => absurd q2 q) (fun _ => rfl)⟩
    · rintro _ rfl
      unfold S_X8_keeps
      refine fresh_pre (m_isRec (hq.pr 5) (by decide) (fun l' i' hl' hi' e1 e2 => b1 ?_) (fun q => absurd ⟨l, i, hl, hi, rfl, rfl⟩ q))
      exact mm_isBorne ((hq.pr 5).rm hL) (fun q => (no_both q (ev_no hE q0)).elim) (fun _ => b0 (kR hq hT n54))
  · rintro _ rfl
    unfold S_X8_keeps
    exact fresh_pre (m_isRec (hq.pr 1) (by decide) (fun l' i' hl' hi' e1 e2 => absurd ⟨l', i', hl', hi', e1, e2⟩ q) (fun _ => b0 (kR hq hT n14)))
theorem c_onWay {x y z : Int32} {Q : Int32 → Hp → Prop} (hq : RQ n σ p P) (h1 : ∀ l i j, l < nL p → i < rc p l → j < wl p l i → x = nI l → y = nI i → z = nI j → Q 1 σ) (h0 : (∀ l i j, l < nL p → i < rc p l → j < wl p l i → x = nI l → y = nI i → z = nI j → False) → Q 0 σ) : S_X7_hasPortOnWay x y z σ Q := by
  unfold S_X7_hasPortOnWay
  rw [hq.g0]
  refine ⟨hq.P2, c_hasRec hq (fun l i hl hi e1 e2 => b1' ?_) (fun q => b0' (h0 (fun l i j hl hi hj e1 e2 e3 => q ⟨l, i, hl, hi, e1, e2⟩)))⟩
  subst e1
  subst e2
  have h24 := ear_lt hq hl hi
  have hL : 0 < nL p := by omega
  have h4 := wl_le4 hq hl hi
  have hW := hq.W hL
  have l8 := hq.nL8
  have hr := (hq.V.2.2.2.2.2.2.2.2 l hl).2.2.2.2.2.2.1
  rw [hq.g0]
  unfold S_X7_earOf
  dsimp only
  rw [show (3 : Int32) = nI 3 from rfl, mul_nI, add_nI, Nat.mul_comm l 3, ix_nI (by omega), hW.1 l i hl hi]
  have badz : ¬ isN z (wl p l i) → Q 0 σ := by
    intro q
    refine h0 (fun l' i' j' hl' hi' hj' e1 e2 e3 => ?_)
    have a1 := nI_inj31 (by omega) (by omega) e1
    subst a1
    have a2 := nI_inj31 (by omega) (by omega) e2
    subst a2
    exact q ⟨j', hj', e3⟩
  refine ⟨fun q => badz (fun i => (isN_lt (by omega) i).1 q), fun q => ⟨hq.P2, vp_in_nI h24 (by decide), fun q2 => badz (fun i => not_le_lt.mpr (isN_lt (by omega) i).2 q2), fun q2 => ?_⟩⟩
  obtain ⟨j, hj, rfl⟩ := isN_of (by omega) q (not_le_lt.mp q2)
  exact h1 l i j hl hi hj rfl rfl rfl
theorem k_burst {x y z v : Int32} (h : RR n σ) : S_X7_burst x y z v σ (fun r σ1 => S_X8_burst x y z v σ1 (fun r' σ2 => r = r' ∧ RR (n + 1) σ2)) := by
  obtain ⟨⟨p, P, hq⟩, hT⟩ := h
  have bad : (∀ l i j, l < nL p → i < rc p l → 1 ≤ j → j < wl p l i → x = nI l → y = nI i → z = nI j → False) → J_X7_burst_15 (fun r σ1 => S_X8_burst x y z v σ1 (fun r' σ2 => r = r' ∧ RR (n + 1) σ2)) σ := by
    intro hb
    rintro _ rfl
    unfold S_X8_burst
    refine fresh_pre (m_isRec (hq.pr 1) (by decide) (fun l i hl hi e1 e2 => b1' ?_) (fun _ => b0' (kRL hq hT n14)))
    subst e1
    subst e2
    have w4 := wl_le4 hq hl hi
    have w2 := wl_cases p l i
    refine m_wayLong (hq.pr 1) hl hi ?_
    rw [show nI (wl p l i) - 1 = nI (wl p l i - 1) from sub_nI (a := wl p l i) (b := 1) (by omega)]
    refine rng3 (a := 1) (b := wl p l i - 1) (by omega) (by omega) (fun q => ?_) (fun _ => b0 (kRL hq hT n14))
    obtain ⟨j, j1, j2, j3⟩ := q
    exact (hb l i j hl hi j1 (by omega) rfl rfl j3).elim
  unfold S_X7_burst
  refine ⟨fun q => bad (fun l i j hl hi j1 hj e1 e2 e3 => ?_), fun q => c_onWay hq (fun l i j hl hi hj e1 e2 e3 => b1 ?_) (fun q2 => b0 (bad (fun l i j hl hi j1 hj e1 e2 e3 => q2 l i j hl hi hj e1 e2 e3)))⟩
  · have w4 := wl_le4 hq hl hi
    rw [e3, show (1 : Int32) = nI 1 from rfl, lt_nI (by omega) (by decide)] at q
    omega
  · subst e1
    subst e2
    subst e3
    have w4 := wl_le4 hq hl hi
    have w2 := wl_cases p l i
    have h24 := ear_lt hq hl hi
    rw [show (1 : Int32) = nI 1 from rfl, lt_nI (by omega) (by decide)] at q
    have hL : 0 < nL p := by omega
    have hE := hq.E hL
    have hW := hq.W hL
    have l8 := hq.nL8
    have ho := wp_on (l := l) hi hj
    have hp := wp_prev hq.V hl hi (by omega) hj
    have hb := buN_le hq.V (wp p l i j) hl
    have ref : ∀ (c : Int32) (K : Int64 → Hp → Prop), ((∀ pt, pt < 16 → ldN p pt ≤ 256) → K (partN (buN p l (wp p l i j)) v) (prH c σ)) → ((∃ pt, pt < 16 ∧ 256 < ldN p pt) → S_X8_no 5 (prH c σ) (fun r13 σ12 => K r13.toInt64 σ12)) → S_X8_burst (nI l) (nI i) (nI j) v (sI σ 7 0 7 c) K := by
      intro c K k1 k0
      unfold S_X8_burst
      refine fresh_pre (m_isRec (hq.pr c) (by decide) (fun l' i' hl' hi' e1 e2 => b1' ?_) (fun q => absurd ⟨l, i, hl, hi, rfl, rfl⟩ q))
      refine m_wayLong (hq.pr c) hl hi ?_
      rw [show nI (wl p l i) - 1 = nI (wl p l i - 1) from sub_nI (a := wl p l i) (b := 1) (by omega)]
      refine rng3 (a := 1) (b := wl p l i - 1) (by omega) (by omega) (fun _ => b1 ?_) (fun q => absurd ⟨j, by omega, by omega, rfl⟩ q)
      refine mm_isBorne ((hq.pr c).rm hL) (fun a => b1' ?_) (fun a => b0' (k0 a))
      exact m_wayOf (hq.pr c) hl hi hj (mm_burst8 ((hq.pr c).rm hL) hl ho hp.2.1 (m_part (by omega) (k1 a)))
    refine ⟨fun q0 => ?_, fun q0 => ?_⟩
    · rw [hq.g0]
      unfold S_X7_earOf S_X6_portAt
      dsimp only
      rw [show (3 : Int32) = nI 3 from rfl, show (4 : Int32) = nI 4 from rfl, show (16 : Int32) = nI 16 from rfl, mul_nI, add_nI, Nat.mul_comm l 3, mul_nI, add_nI, Nat.mul_comm _ 4, ix_nI (by omega), hW.2.1 l i j hl hi hj, mul_nI, add_nI, Nat.mul_comm l 16, ix_nI (by omega), hE.2.2.1 l _ hl ho hp.2.1]
      refine ⟨hq.P2, vp_in_nI (by omega) (by decide), vp_in_nI (by omega) (by decide), c_part (by omega) ?_⟩
      exact ref 0 _ (fun _ => ⟨rfl, hq.ans hT⟩) (fun a => (no_both (ev_ok hE q0) a).elim)
    · rintro _ rfl
      exact ref 5 _ (fun a => (no_both a (ev_no hE q0)).elim) (fun _ => kRL hq hT n54)
/-- the fullest of the first ports -/
noncomputable def fuN (p : PD) : Nat → Nat
  | 0 => 0
  | m + 1 => cif (ldN p (fuN p m) < ldN p m) m (fuN p m)
theorem fuN_succ (p : PD) (m : Nat) : fuN p (m + 1) = cif (ldN p (fuN p m) < ldN p m) m (fuN p m) := rfl
theorem fuN_lt (p : PD) : ∀ m, 0 < m → fuN p m < m
  | 0, h => by omega
  | 1, _ => by
    rw [fuN_succ]
    by_cases q : ldN p (fuN p 0) < ldN p 0
    · rw [cif_pos q]; decide
    · rw [cif_neg q]; show 0 < 1; decide
  | m + 2, _ => by
    have := fuN_lt p (m + 1) (by omega)
    rw [fuN_succ]
    by_cases q : ldN p (fuN p (m + 1)) < ldN p (m + 1)
    · rw [cif_pos q]; omega
    · rw [cif_neg q]; omega
theorem k_fullest (h : RR n σ) : S_X7_fullest σ (fun r σ1 => S_X8_fullest σ1 (fun r' σ2 => r = r' ∧ RR (n + 1) σ2)) := by
  obtain ⟨⟨p, P, hq⟩, hT⟩ := h
  unfold S_X7_fullest
  refine c_noBus hq (fun hL => b0' ?_) (fun q => b1' ?_)
  · have hE := hq.E hL
    have hm := (hq.pr 0).rm hL
    have cls : ∀ K : Int32 → Hp → Prop, K (nI (fuN p 16)) σ → S_X1_fullestPort σ K := by
      intro K hK
      have go : ∀ j m, 1 ≤ m → m + j = 16 → L_X1_fullestPort_4 K (fun w3 σ2 => K w3 σ2) (j + 1) (nI (fuN p m)) (nI m) σ := by
        intro j
        induction j with
        | zero =>
          intro m h1 hm
          have : m = 16 := by omega
          subst this
          exact ⟨fun _ => hK, fun q => absurd (nI_le (Nat.le_refl 16) (by decide)) q⟩
        | succ j ih =>
          intro m h1 hm
          have this := ih (m + 1) (by omega) (by omega)
          have f1 := fuN_lt p m h1
          have a1 := ldN_le hq.V m
          have a2 := ldN_le hq.V (fuN p m)
          rw [fuN_succ p m] at this
          unfold L_X1_fullestPort_4
          rw [show (16 : Int32) = nI 16 from rfl, le_nI (by omega) (by omega), ix_nI (by omega), ix_nI (by omega), hE.1 m (by omega), hE.1 _ (show fuN p m < 16 by omega), le_nI (by omega) (by omega)]
          unfold J_X1_fullestPort_27
          rw [show nI m + 1 = nI (m + 1) from add_nI m 1]
          refine ⟨fun q => by omega, fun _ => ⟨vp_in_nI (by omega) (by decide), vp_in_nI (by omega) (by decide), fun q => ?_, fun q => ?_⟩⟩
          · rw [cif_neg (by omega)] at this
            exact this
          · rw [cif_pos (by omega)] at this
            exact this
      have f0 : fuN p 1 = 0 := by have := fuN_lt p 1 (by decide); omega
      have := go 15 1 (by decide) (by omega)
      rw [f0] at this
      exact ⟨16, this⟩
    refine cls _ ?_
    rintro _ rfl
    unfold S_X8_fullest
    refine fresh_pre ?_
    rw [hm.told1 hL]
    refine b1 ?_
    have e0 : ptOk p 0 := Or.inl ⟨by decide, by have := (hq.V.2.2.2.2.2.2.2.2 0 hL).1; show 0 < nE p; omega⟩
    have go : ∀ j m, 1 ≤ m → m + j = 16 → L_X8_fullest_21 (fun r' σ2 => nI (fuN p 16) = r' ∧ RR (n + 1) σ2) (fun w10 σ9 => nI (fuN p 16) = w10 ∧ RR (n + 1) σ9) (j + 1) (nI (fuN p m)) (nI m) (prH 0 σ) := by
      intro j
      induction j with
      | zero =>
        intro m h1 hm
        have : m = 16 := by omega
        subst this
        exact ⟨fun _ => ⟨rfl, hq.ans hT⟩, fun q => absurd (nI_le (Nat.le_refl 16) (by decide)) q⟩
      | succ j ih =>
        intro m h1 hmj
        have this := ih (m + 1) (by omega) (by omega)
        have f1 := fuN_lt p m h1
        have a1 := ldN_le hq.V m
        have a2 := ldN_le hq.V (fuN p m)
        rw [fuN_succ p m] at this
        unfold L_X8_fullest_21
        rw [show (16 : Int32) = nI 16 from rfl, le_nI (by omega) (by omega)]
        refine ⟨fun q => by omega, fun _ => mm_isPort hm (fun k hk e ok => b1' ?_) (fun q => b0' ?_)⟩
        · refine ⟨fun q => absurd q (ne_m1 (by omega)), fun _ => mm_loadOf hm (by omega) (mm_loadOf hm (by omega) ?_)⟩
          rw [lg_cmp_le, pk_lLE (by omega) (by omega)]
          unfold J_X8_fullest_54 J_X8_fullest_56
          rw [show nI m + 1 = nI (m + 1) from add_nI m 1]
          refine ⟨fun q => ?_, fun q => ?_⟩
          · rw [cif_neg (by omega)] at this
            exact this
          · rw [cif_pos (by omega)] at this
            exact this
        · have z := ld_off hq.V (fun ok => q ⟨m, by omega, rfl, ok⟩)
          rw [cif_neg (by omega)] at this
          unfold J_X8_fullest_56
          rw [show nI m + 1 = nI (m + 1) from add_nI m 1]
          exact this
    have f0 : fuN p 1 = 0 := by have := fuN_lt p 1 (by decide); omega
    have g1 := go 15 1 (by decide) (by omega)
    rw [f0] at g1
    refine ⟨17, ?_⟩
    unfold L_X8_fullest_21
    refine ⟨fun q => absurd q (by decide), fun _ => mm_isPort (x := 0) hm (fun k hk e ok => b1' ?_) (fun q => absurd ⟨0, by decide, rfl, e0⟩ q)⟩
    exact ⟨fun _ => g1, fun q => absurd rfl q⟩
  · rintro _ rfl
    unfold S_X8_fullest
    refine fresh_pre ?_
    rw [(hq.pr 1).told0 q]
    exact b0 (kR hq hT n14)
end EnvC
