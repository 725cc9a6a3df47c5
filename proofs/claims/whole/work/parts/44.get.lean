section Cases3
variable {n : Nat} {σ : Hp} {p : PD} {P : Nat} {Q : Int32 → Hp → Prop}
def ptOk (p : PD) (k : Nat) : Prop := (k < 12 ∧ k % 6 < nE p) ∨ (12 ≤ k ∧ (k - 12) % 2 + 1 < pSw p)
def isPt (p : PD) (x : Int32) : Prop := ∃ k, k < 16 ∧ x = nI k ∧ ptOk p k
theorem c_hasPort {x : Int32} (h : RQ n σ p P) (h1 : ∀ k, k < 16 → x = nI k → ptOk p k → Q 1 σ) (h0 : ¬ isPt p x → Q 0 σ) : S_X2_hasPort P x σ Q := by
  have h6 := h.nE6
  have h3 := h.V.1
  have hw : gI σ 2 P 0 = nI (pSw p) := h.X.1
  by_cases hx : isN x 16
  · obtain ⟨k, hk, rfl⟩ := hx
    have no : ¬ ptOk p k → Q 0 σ := fun q => h0 (fun ⟨k', a, b, c⟩ => q (by rw [nI_inj31 (by omega) (by omega) b]; exact c))
    have yes : ptOk p k → Q 1 σ := h1 k hk rfl
    unfold S_X2_hasPort
    rw [hw, show (6 : Int32) = nI 6 from rfl, show (12 : Int32) = nI 12 from rfl, show (14 : Int32) = nI 14 from rfl, show (16 : Int32) = nI 16 from rfl, le_nI (by decide) (by omega), le_nI (by decide) (by omega), le_nI (by decide) (by omega), le_nI (by decide) (by omega)]
    refine ⟨fun q6 => ⟨fun q12 => ⟨fun q14 => ⟨fun q16 => by omega, fun _ => ?_⟩, fun q14 => ?_⟩, fun q12 => ?_⟩, fun q6 => ?_⟩
    · rw [sub_nI q14, show (1 : Int32) = nI 1 from rfl, add_nI, le_nI (by omega) (by omega)]
      exact ⟨fun q => no (fun c => by unfold ptOk at c; omega), fun q => yes (Or.inr ⟨q12, by omega⟩)⟩
    · rw [sub_nI q12, show (1 : Int32) = nI 1 from rfl, add_nI, le_nI (by omega) (by omega)]
      exact ⟨fun q => no (fun c => by unfold ptOk at c; omega), fun q => yes (Or.inr ⟨q12, by omega⟩)⟩
    · rw [sub_nI q6]
      refine c_hasEnd h (fun e he e2 => ⟨zb1, ?_⟩) (fun q => ⟨zb0, no (fun c => q ⟨k - 6, by unfold ptOk at c; omega, rfl⟩)⟩)
      have := nI_inj31 (by omega) (by omega) e2
      exact yes (Or.inl ⟨by omega, by omega⟩)
    · refine c_hasEnd h (fun e he e2 => ⟨zb1, ?_⟩) (fun q => ⟨zb0, no (fun c => q ⟨k, by unfold ptOk at c; omega, rfl⟩)⟩)
      have := nI_inj31 (by omega) (by omega) e2
      exact yes (Or.inl ⟨by omega, by omega⟩)
  · have no : Q 0 σ := h0 (fun ⟨k, a, b, c⟩ => hx ⟨k, a, b⟩)
    unfold S_X2_hasPort
    by_cases hn : x < 0
    · have : ¬ (6 : Int32) ≤ x := by
        rw [Int32.le_iff_toInt_le]
        rw [Int32.lt_iff_toInt_lt] at hn
        have e6 : (6 : Int32).toInt = 6 := rfl
        have e0 : (0 : Int32).toInt = 0 := rfl
        omega
      exact ⟨fun q => absurd q this, fun _ => ⟨fun _ => ⟨zb0, no⟩, fun q => absurd hn q⟩⟩
    · have hb : ¬ x < nI 16 := fun q => hx (isN_of (by decide) hn q)
      rw [Int32.lt_iff_toInt_lt, nI_toInt (by decide)] at hb
      have e6 : (6 : Int32).toInt = 6 := rfl
      have e12 : (12 : Int32).toInt = 12 := rfl
      have e14 : (14 : Int32).toInt = 14 := rfl
      have e16 : (16 : Int32).toInt = 16 := rfl
      rw [Int32.le_iff_toInt_le, Int32.le_iff_toInt_le (x := 12), Int32.le_iff_toInt_le (x := 14), Int32.le_iff_toInt_le (x := 16)]
      exact ⟨fun _ => ⟨fun _ => ⟨fun _ => ⟨fun _ => no, fun q => absurd (by omega) q⟩, fun q => absurd (by omega) q⟩, fun q => absurd (by omega) q⟩, fun q => absurd (by omega) q⟩
theorem m_isPort {x : Int32} (h : RQ n σ p P) (h1 : ∀ k, k < 16 → x = nI k → ptOk p k → Q 1 σ) (h0 : ¬ isPt p x → Q 0 σ) : S_X8_isPort x σ Q := by
  have h6 := h.nE6
  have h3 := h.V.1
  unfold S_X8_isPort
  refine rng2 (n := 16) (by decide) rfl (fun hx => b1 ?_) (fun q => b0 (h0 (fun ⟨k, a, b, c⟩ => q ⟨k, a, b⟩)))
  obtain ⟨k, hk, rfl⟩ := hx
  have no : ¬ ptOk p k → Q 0 σ := fun q => h0 (fun ⟨k', a, b, c⟩ => q (by rw [nI_inj31 (by omega) (by omega) b]; exact c))
  have yes : ptOk p k → Q 1 σ := h1 k hk rfl
  rw [show (12 : Int32) = nI 12 from rfl, le_nI (by decide) (by omega)]
  refine ⟨fun q12 => ?_, fun q12 => ?_⟩
  · rcases Nat.eq_zero_or_pos (nL p) with e | e
    · rw [h.told0 e]
      exact b0' (no (fun c => by have := h.none e; unfold ptOk at c; omega))
    · rw [h.told1 e]
      refine b1' ⟨vp_in_nI (n := 0) (by decide) (by decide), ?_⟩
      rw [show ix 0 = 0 from rfl, h.M.1 0 (by decide), sub_nI q12, show (2 : Int32) = nI 2 from rfl, rem_nI (by omega) (by decide) (by decide), show (1 : Int32) = nI 1 from rfl, add_nI, le_nI (show p 0 0 < 2 ^ 31 by have : p 0 0 ≤ 3 := h3; omega) (by omega)]
      exact ⟨fun q => no (fun c => by unfold ptOk at c; unfold pSw at c; omega), fun q => yes (Or.inr ⟨q12, by unfold pSw; omega⟩)⟩
  · rw [show (6 : Int32) = nI 6 from rfl, rem_nI (by omega) (by decide) (by decide)]
    refine m_isEnd h (fun e he e2 => ⟨zb1, ?_⟩) (fun q => ⟨zb0, no (fun c => q ⟨k % 6, by unfold ptOk at c; omega, rfl⟩)⟩)
    have := nI_inj31 (by omega) (by omega) e2
    exact yes (Or.inl ⟨by omega, by omega⟩)
/-- a port's frames: the class's ring and the reference's row -/
theorem RQ.slots (h : RQ n σ p P) (hL : 0 < nL p) {q : Nat} (hq : q < 32) : ∃ a c, a < 12 ∧ c ≤ 12 ∧ gI σ 31 0 q = nI a ∧ gI σ 30 0 q = nI c ∧ gI σ 61 0 (81 + 39 * q) = nI c ∧ (gI σ 32 0 q = -2 ∨ 0 < c) ∧
    ∀ i, i < c → gI σ 34 0 (12 * q + (a + i) % 12) = gI σ 61 0 (81 + 39 * q + 3 + 3 * i) ∧ gI σ 35 0 (12 * q + (a + i) % 12) = gI σ 61 0 (81 + 39 * q + 3 + 3 * i + 1) ∧ gI σ 36 0 (12 * q + (a + i) % 12) = gI σ 61 0 (81 + 39 * q + 3 + 3 * i + 2) := by
  obtain ⟨s, t, b, _, _, hI, hE, hR, _⟩ := h.2.2.1.1 hL
  have h12 := h.V.2.1
  obtain ⟨c, c1, c2, c3, c4⟩ := hI.2.1 q hq
  obtain ⟨a, a1, a2, a3⟩ := hE.2.2.1 q hq
  have d1 : 12 * q / 12 = q := by omega
  refine ⟨a, c, a1, by omega, a2, (hE.1 30 q rfl hq).trans c2, (hR 30 q hq).trans c2, ?_, fun i hi => ?_⟩
  · rcases c4 with c4 | c4
    · exact Or.inl ((hE.1 32 q rfl hq).trans c4)
    · exact Or.inr c4.1
  · obtain ⟨e1, e2, e3⟩ := a3 c c2 (by omega) i hi
    have k1 : (12 * q + i) / 12 = q := by omega
    have k2 : (12 * q + i) % 12 = i := by omega
    have kk : 12 * q + i < 384 := by omega
    refine ⟨e1.trans ?_, e2.trans ?_, e3.trans ?_⟩
    · rw [← hR 34 (12 * q + i) kk]
      show gI σ 61 0 (81 + 39 * ((12 * q + i) / 12) + 3 + 3 * ((12 * q + i) % 12)) = _
      rw [k1, k2]
    · rw [← hR 35 (12 * q + i) kk]
      show gI σ 61 0 (81 + 39 * ((12 * q + i) / 12) + 3 + 3 * ((12 * q + i) % 12) + 1) = _
      rw [k1, k2]
    · rw [← hR 36 (12 * q + i) kk]
      show gI σ 61 0 (81 + 39 * ((12 * q + i) / 12) + 3 + 3 * ((12 * q + i) % 12) + 2) = _
      rw [k1, k2]
theorem pt_nL (h : RQ n σ p P) {k : Nat} (hk : ptOk p k) : 0 < nL p := by
  rcases Nat.eq_zero_or_pos (nL p) with e | e
  · have := h.none e
    unfold ptOk at hk
    omega
  · exact e
theorem k_port {x y z : Int32} (h : RR n σ) : S_X7_port x y z σ (fun r σ1 => S_X8_port x y z σ1 (fun r' σ2 => r = r' ∧ RR (n + 1) σ2)) := by
  obtain ⟨⟨p, P, hq⟩, hT⟩ := h
  have no : (¬ isN x 2 ∨ ¬ isPt p y) → J_X7_port_18 (fun r σ1 => S_X8_port x y z σ1 (fun r' σ2 => r = r' ∧ RR (n + 1) σ2)) σ := by
    intro q
    rintro _ rfl
    unfold S_X8_port
    refine fresh_pre (m_isPort (hq.pr 1) (fun k a b c => b1' ?_) (fun _ => b0' (kR hq hT n14)))
    refine rng2 (n := 2) (by decide) rfl (fun d => ?_) (fun _ => b0 (kR hq hT n14))
    rcases q with q | q
    · exact absurd d q
    · exact absurd ⟨k, a, b, c⟩ q
  unfold S_X7_port
  refine c_hasNet (fun m hm e => b1' ?_) (fun q => b0' (no (Or.inl q)))
  rw [hq.g0]
  refine ⟨hq.P2, c_hasPort hq (fun k hk e2 ok => b1 ?_) (fun q => b0 (no (Or.inr q)))⟩
  have hL := pt_nL hq ok
  subst e
  subst e2
  have mdl : ∀ (c : Int32) (K : Int32 → Hp → Prop), (((z = 0 → K (gI σ 61 0 (81 + 39 * (16 * m + k))) (prH c σ)) ∧ (z = 1 → ((¬ gI σ 61 0 (81 + 39 * (16 * m + k) + 1) = (-2) → K (gI σ 61 0 (81 + 39 * (16 * m + k) + 3)) (prH c σ)) ∧ (gI σ 61 0 (81 + 39 * (16 * m + k) + 1) = (-2) → K (-2) (prH c σ)))) ∧ (z = 2 → K (gI σ 61 0 (81 + 39 * (16 * m + k) + 1)) (prH c σ)) ∧ (z = 3 → K (gI σ 61 0 (81 + 39 * (16 * m + k) + 2)) (prH c σ)) ∧ (¬ z = 0 → ¬ z = 1 → ¬ z = 2 → ¬ z = 3 → S_X8_no 1 (prH c σ) (fun r11 σ10 => K r11 σ10)))) → S_X8_port (nI m) (nI k) z (sI σ 7 0 7 c) K := by
    intro c K hK
    unfold S_X8_port
    refine fresh_pre (m_isPort (hq.pr c) (fun k' a b d => b1' ?_) (fun q => absurd ⟨k, hk, rfl, ok⟩ q))
    refine rng2 (n := 2) (by decide) rfl (fun d => b1 ?_) (fun q => absurd ⟨m, hm, rfl⟩ q)
    unfold S_X8_portAt
    rw [show (16 : Int32) = nI 16 from rfl, show (39 : Int32) = nI 39 from rfl, show (81 : Int32) = nI 81 from rfl, mul_nI, add_nI, mul_nI, add_nI]
    have v : ∀ d, d < 4 → vp_in (nI (81 + 39 * (16 * m + k)) + nI d) 1809 ∧ ix (nI (81 + 39 * (16 * m + k)) + nI d) = 81 + 39 * (16 * m + k) + d := fun d hd => i_at rfl (by omega) rfl
    refine ⟨fun e => ⟨(v 0 (by decide)).1, ?_⟩, fun e => ⟨(v 1 (by decide)).1, fun q => ⟨(v 3 (by decide)).1, ?_⟩, fun q => ?_⟩, fun e => ⟨(v 1 (by decide)).1, ?_⟩, fun e => ⟨(v 2 (by decide)).1, ?_⟩, hK.2.2.2.2⟩
    · have := hK.1 e
      rw [show (0 : Int32) = nI 0 from rfl, (v 0 (by decide)).2, pr61]
      exact this
    · rw [show (1 : Int32) = nI 1 from rfl, (v 1 (by decide)).2, pr61] at q
      rw [show (3 : Int32) = nI 3 from rfl, (v 3 (by decide)).2, pr61]
      exact (hK.2.1 e).1 q
    · rw [show (1 : Int32) = nI 1 from rfl, (v 1 (by decide)).2, pr61] at q
      exact (hK.2.1 e).2 q
    · rw [show (1 : Int32) = nI 1 from rfl, (v 1 (by decide)).2, pr61]
      exact hK.2.2.1 e
    · rw [show (2 : Int32) = nI 2 from rfl, (v 2 (by decide)).2, pr61]
      exact hK.2.2.2.1 e
  have n01 : ¬ (0 : Int32) = 1 := by decide
  have n02 : ¬ (0 : Int32) = 2 := by decide
  have n03 : ¬ (0 : Int32) = 3 := by decide
  have n12 : ¬ (1 : Int32) = 2 := by decide
  have n13 : ¬ (1 : Int32) = 3 := by decide
  have n23 : ¬ (2 : Int32) = 3 := by decide
  have hq32 : 16 * m + k < 32 := by omega
  obtain ⟨a, c, s1, s2, s3, s4, s5, s6, s7⟩ := hq.slots hL hq32
  have r1 : gI σ 32 0 (16 * m + k) = gI σ 61 0 (81 + 39 * (16 * m + k) + 1) := hq.row hL (f := 32) rfl hq32 rfl
  have r2 : gI σ 33 0 (16 * m + k) = gI σ 61 0 (81 + 39 * (16 * m + k) + 2) := hq.row hL (f := 33) rfl hq32 rfl
  rw [show (16 : Int32) = nI 16 from rfl, mul_nI, add_nI, Nat.mul_comm m 16]
  refine ⟨fun e => ⟨vp_in_nI hq32 (by decide), ?_⟩, fun e => ⟨vp_in_nI hq32 (by decide), ?_⟩, fun e => ⟨vp_in_nI hq32 (by decide), ?_⟩, fun e => ⟨vp_in_nI hq32 (by decide), ?_⟩, fun a0 a1 a2 a3 => ?_⟩
  · subst e
    rintro _ rfl
    refine mdl _ _ ⟨fun _ => ⟨?_, hq.ans hT⟩, fun q => absurd q n01, fun q => absurd q n02, fun q => absurd q n03, fun q => absurd rfl q⟩
    rw [ix_nI (by omega), s4, s5]
  · subst e
    rw [ix_nI (by omega)]
    refine ⟨fun q => b0' ?_, fun q => b1' ⟨vp_in_nI hq32 (by decide), ?_⟩⟩
    · rintro _ rfl
      refine mdl _ _ ⟨fun q => absurd q.symm n01, fun _ => ⟨fun q2 => absurd (r1.symm.trans q) q2, fun _ => ⟨rfl, hq.ans hT⟩⟩, fun q => absurd q n12, fun q => absurd q n13, fun _ q => absurd rfl q⟩
    · rw [ix_nI (by omega), s3, show (12 : Int32) = nI 12 from rfl, show (0 : Int32) = nI 0 from rfl, add_nI, rem_nI (by omega) (by decide) (by decide), mul_nI, add_nI, Nat.mul_comm _ 12]
      refine ⟨vp_in_nI (by omega) (by decide), ?_⟩
      rintro _ rfl
      have c0 : 0 < c := s6.resolve_left q
      refine mdl _ _ ⟨fun q => absurd q.symm n01, fun _ => ⟨fun _ => ⟨?_, hq.ans hT⟩, fun q2 => absurd (r1.trans q2) q⟩, fun q => absurd q n12, fun q => absurd q n13, fun _ q => absurd rfl q⟩
      rw [ix_nI (by omega)]
      exact (s7 0 c0).1
  · subst e
    rintro _ rfl
    refine mdl _ _ ⟨fun q => absurd q.symm n02, fun q => absurd q.symm n12, fun _ => ⟨?_, hq.ans hT⟩, fun q => absurd q n23, fun _ _ q => absurd rfl q⟩
    rw [ix_nI (by omega), r1]
  · subst e
    rintro _ rfl
    refine mdl _ _ ⟨fun q => absurd q.symm n03, fun q => absurd q.symm n13, fun q => absurd q.symm n23, fun _ => ⟨?_, hq.ans hT⟩, fun _ _ _ q => absurd rfl q⟩
    rw [ix_nI (by omega), r2]
  · rintro _ rfl
    exact mdl _ _ ⟨fun q => absurd q a0, fun q => absurd q a1, fun q => absurd q a2, fun q => absurd q a3, fun _ _ _ _ => kR hq hT n14⟩
end Cases3
