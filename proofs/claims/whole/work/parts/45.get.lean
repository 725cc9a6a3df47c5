section Cases4
variable {n : Nat} {σ : Hp} {p : PD} {P : Nat} {Q : Int32 → Hp → Prop}
theorem k_frame {x y z w : Int32} (h : RR n σ) : S_X7_frame x y z w σ (fun r σ1 => S_X8_frame x y z w σ1 (fun r' σ2 => r = r' ∧ RR (n + 1) σ2)) := by
  obtain ⟨⟨p, P, hq⟩, hT⟩ := h
  have mdl : ∀ (v : Int32) (K : Int32 → Hp → Prop), ((∀ m k c i j, m < 2 → k < 16 → c ≤ 12 → i < c → j < 3 → x = nI m → y = nI k → z = nI i → w = nI j → ptOk p k → gI σ 30 0 (16 * m + k) = nI c → False) → S_X8_no 1 (prH v σ) (fun r5 σ4 => K r5 σ4)) → (∀ m k c i j, m < 2 → k < 16 → c ≤ 12 → i < c → j < 3 → x = nI m → y = nI k → z = nI i → w = nI j → ptOk p k → gI σ 30 0 (16 * m + k) = nI c → K (gI σ 61 0 (81 + 39 * (16 * m + k) + 3 + 3 * i + j)) (prH v σ)) → S_X8_frame x y z w (sI σ 7 0 7 v) K := by
    intro v K hno hyes
    unfold S_X8_frame
    refine fresh_pre (m_isPort (hq.pr v) (fun k hk e2 ok => b1' ?_) (fun q => b0' (hno (fun m k c i j a1 a2 a3 a4 a5 a6 a7 a8 a9 a10 a11 => q ⟨k, a2, a7, a10⟩))))
    refine rng2 (n := 2) (by decide) rfl (fun ⟨m, hm, e1⟩ => b1' ?_) (fun q => b0' (hno (fun m k c i j a1 a2 a3 a4 a5 a6 a7 a8 a9 a10 a11 => q ⟨m, a1, a6⟩)))
    refine rng2 (n := 3) (by decide) rfl (fun ⟨j, hj, e4⟩ => b1' ?_) (fun q => b0' (hno (fun m k c i j a1 a2 a3 a4 a5 a6 a7 a8 a9 a10 a11 => q ⟨j, a5, a9⟩)))
    subst e1
    subst e2
    subst e4
    obtain ⟨a, c, s1, s2, s3, s4, s5, s6, s7⟩ := hq.slots (pt_nL hq ok) (q := 16 * m + k) (by omega)
    unfold S_X8_portAt
    rw [show (16 : Int32) = nI 16 from rfl, show (39 : Int32) = nI 39 from rfl, show (81 : Int32) = nI 81 from rfl, mul_nI, add_nI, mul_nI, add_nI]
    have v0 := i_at (a := 81 + 39 * (16 * m + k)) (d := 0) (e := 0) rfl (by omega) rfl
    refine ⟨v0.1, ?_⟩
    rw [v0.2, Nat.add_zero, pr61, s5]
    refine rng2 (n := c) (by omega) (dec_nI (by omega)) (fun ⟨i, hi, e3⟩ => b1 ?_) (fun q => b0 (hno (fun m' k' c' i j a1 a2 a3 a4 a5 a6 a7 a8 a9 a10 a11 => q ⟨i, ?_, a8⟩)))
    rotate_left
    · have e1 := nI_inj31 (by omega) (by omega) a6
      have e2 := nI_inj31 (by omega) (by omega) a7
      subst e1
      subst e2
      rw [s4] at a11
      have := nI_inj31 (by omega) (by omega) a11
      omega
    subst e3
    rw [show (3 : Int32) = nI 3 from rfl, add_nI, mul_nI, add_nI, add_nI]
    refine ⟨vp_in_nI (by omega) (by decide), ?_⟩
    rw [ix_nI (by omega), pr61]
    exact hyes m k c i j hm hk s2 hi hj rfl rfl rfl rfl ok s4
  have bad : (∀ m k c i j, m < 2 → k < 16 → c ≤ 12 → i < c → j < 3 → x = nI m → y = nI k → z = nI i → w = nI j → ptOk p k → gI σ 30 0 (16 * m + k) = nI c → False) → S_X7_refuse 1 σ (fun r σ1 => S_X8_frame x y z w σ1 (fun r' σ2 => r = r' ∧ RR (n + 1) σ2)) := by
    intro hb
    rintro _ rfl
    exact mdl 1 _ (fun _ => kR hq hT n14) (fun m k c i j a1 a2 a3 a4 a5 a6 a7 a8 a9 a10 a11 => (hb m k c i j a1 a2 a3 a4 a5 a6 a7 a8 a9 a10 a11).elim)
  unfold S_X7_frame
  refine c_hasNet (fun m hm e => b1' ?_) (fun q => b0' (bad (fun m k c i j a1 a2 a3 a4 a5 a6 a7 a8 a9 a10 a11 => q ⟨m, a1, a6⟩)))
  rw [hq.g0]
  refine ⟨hq.P2, c_hasPort hq (fun k hk e2 ok => b1 ?_) (fun q => b0 (bad (fun m k c i j a1 a2 a3 a4 a5 a6 a7 a8 a9 a10 a11 => q ⟨k, a2, a7, a10⟩)))⟩
  have hL := pt_nL hq ok
  subst e
  subst e2
  have hq32 : 16 * m + k < 32 := by omega
  obtain ⟨a, c, s1, s2, s3, s4, s5, s6, s7⟩ := hq.slots hL hq32
  rw [show (16 : Int32) = nI 16 from rfl, mul_nI, add_nI, Nat.mul_comm m 16, ix_nI (by omega), s4]
  have badz : ¬ isN z c → S_X7_refuse 1 σ (fun r σ1 => S_X8_frame (nI m) (nI k) z w σ1 (fun r' σ2 => r = r' ∧ RR (n + 1) σ2)) := by
    intro q
    refine bad (fun m' k' c' i j a1 a2 a3 a4 a5 a6 a7 a8 a9 a10 a11 => q ⟨i, ?_, a8⟩)
    have e1 := nI_inj31 (by omega) (by omega) a6
    have e2 := nI_inj31 (by omega) (by omega) a7
    subst e1
    subst e2
    rw [s4] at a11
    have := nI_inj31 (by omega) (by omega) a11
    omega
  have key : (isN z c → S_X3_slot 0 (nI (16 * m + k)) z σ (fun r11 σ10 => ((w = 0 → vp_in r11 384 ∧ S_X7_answer (gI σ10 34 0 (ix r11)) σ10 (fun r σ1 => S_X8_frame (nI m) (nI k) z w σ1 (fun r' σ2 => r = r' ∧ RR (n + 1) σ2))) ∧ (w = 1 → vp_in r11 384 ∧ S_X7_answer (gI σ10 35 0 (ix r11)) σ10 (fun r σ1 => S_X8_frame (nI m) (nI k) z w σ1 (fun r' σ2 => r = r' ∧ RR (n + 1) σ2))) ∧ (w = 2 → vp_in r11 384 ∧ S_X7_answer (gI σ10 36 0 (ix r11)) σ10 (fun r σ1 => S_X8_frame (nI m) (nI k) z w σ1 (fun r' σ2 => r = r' ∧ RR (n + 1) σ2))) ∧ (¬ w = 0 → ¬ w = 1 → ¬ w = 2 → S_X7_refuse 1 σ10 (fun r σ1 => S_X8_frame (nI m) (nI k) z w σ1 (fun r' σ2 => r = r' ∧ RR (n + 1) σ2)))))) := by
    rintro ⟨i, hi, rfl⟩
    unfold S_X3_slot
    rw [ix_nI (by omega), s3, add_nI, show (12 : Int32) = nI 12 from rfl, rem_nI (by omega) (by decide) (by decide), mul_nI, add_nI, Nat.mul_comm _ 12]
    refine ⟨vp_in_nI hq32 (by decide), ?_⟩
    obtain ⟨t1, t2, t3⟩ := s7 i hi
    have lk : ∀ (f jj : Nat), gI σ f 0 (12 * (16 * m + k) + (a + i) % 12) = gI σ 61 0 (81 + 39 * (16 * m + k) + 3 + 3 * i + jj) → jj < 3 → w = nI jj → vp_in (nI (12 * (16 * m + k) + (a + i) % 12)) 384 ∧ S_X7_answer (gI σ f 0 (ix (nI (12 * (16 * m + k) + (a + i) % 12)))) σ (fun r σ1 => S_X8_frame (nI m) (nI k) (nI i) w σ1 (fun r' σ2 => r = r' ∧ RR (n + 1) σ2)) := by
      rintro f jj hf hj hw
      refine ⟨vp_in_nI (by omega) (by decide), ?_⟩
      rintro _ rfl
      refine mdl 0 _ (fun q => (q m k c i jj hm hk s2 hi hj rfl rfl rfl hw ok s4).elim) (fun m' k' c' i' j' a1 a2 a3 a4 a5 a6 a7 a8 a9 a10 a11 => ⟨?_, hq.ans hT⟩)
      · have e1 := nI_inj31 (by omega) (by omega) a6
        have e2 := nI_inj31 (by omega) (by omega) a7
        have e3 := nI_inj31 (by omega) (by omega) a8
        have e4 := nI_inj31 (by omega) (by omega) (hw.symm.trans a9)
        subst e1
        subst e2
        subst e3
        subst e4
        rw [ix_nI (by omega), hf]
    refine ⟨fun e => lk 34 0 t1 (by decide) e, fun e => lk 35 1 t2 (by decide) e, fun e => lk 36 2 t3 (by decide) e, fun a0 a1 a2 => bad (fun m' k' c' i' j b1 b2 b3 b4 b5 b6 b7 b8 b9 b10 b11 => ?_)⟩
    have : j = 0 ∨ j = 1 ∨ j = 2 := by omega
    rcases this with rfl | rfl | rfl
    · exact a0 b9
    · exact a1 b9
    · exact a2 b9
  refine ⟨fun q => badz (fun i => (isN_lt (by omega) i).1 q), fun q => ⟨vp_in_nI hq32 (by decide), fun q2 => key (isN_of (by omega) q q2), fun q2 => badz (fun i => q2 (isN_lt (by omega) i).2)⟩⟩
end Cases4
