/-! ===== the case bus ===== -/
section BusK
variable {n : Nat} {σ : Hp}
theorem k_bus {x : Int32} (h : RR n σ) : S_X7_bus x σ (fun r σ1 => S_X8_bus x σ1 (fun r' σ2 => r = r' ∧ RR (n + 1) σ2)) := by
  obtain ⟨⟨p, P, hq⟩, hT⟩ := h
  obtain ⟨M, hM, hM1, hM5, htape⟩ := hq.2.1
  have hP2 := hq.P2
  have hg1 : gR σ 1 = 1 - P := hq.1.2.2.1
  unfold S_X7_bus
  rw [hM1]
  refine rng4 (a := 0) (b := M) (by omega) (Nat.zero_le _) (fun hb => ?_) (fun hb => ?_)
  · obtain ⟨N, _, hN, rfl⟩ := hb
    obtain ⟨T, hCT, hMT⟩ := RT.tx htape hN
    refine c_read (OK := fun o => o = linsO T N (N + 1) p0N nm0 0 0) (P := 1 - P) hM hN hM1 hCT hg1 (by omega) rfl (fun f pl o f1 f6 σ' r' w' hF r1 r10 r11 => ?_) (fun p' nm' o hl σ' r' w' hF r1 r10 hI hD => ?_)
    · -- a fault
      rintro _ rfl _ rfl
      rw [gG, r10, sGn (by decide), gG, r11, sGn (by decide), gGn (by decide), gI_sI, if_neg (by omega), gI_sI, if_pos ⟨rfl, rfl, rfl⟩]
      refine ⟨fun q => absurd q (nz_f f1 f6), fun _ => ?_⟩
      unfold S_X7_refuse
      rintro _ rfl
      rw [sGn (by decide)]
      obtain ⟨σe, hσe⟩ : ∃ σe, stG 4 7 (sI (sI (sI σ' 7 0 8 (nI f)) 7 0 9 (nI pl)) 7 0 7 4) r' w' = σe := ⟨_, rfl⟩
      have eI : ∀ a b c, a ≠ 4 → ¬ (a = 7 ∧ 7 ≤ c) → ¬ (b = 1 - P ∧ (a = 2 ∨ (22 ≤ a ∧ a ≤ 29))) → gI σe a b c = gI σ a b c := by
        intro a b c q1 q2 q3
        rw [← hσe, gGn q1, gI_sI, if_neg (by omega), gI_sI, if_neg (by omega), gI_sI, if_neg (by omega)]
        exact hF.1 a b c q3
      have eL : ∀ a b c, a ≠ 4 → ¬ (b = 1 - P ∧ (a = 23 ∨ a = 24)) → gL σe a b c = gL σ a b c := by
        intro a b c q1 q2
        rw [← hσe, gGLn q1]
        exact hF.2.1 a b c q2
      have eR : ∀ a, gR σe a = gR σ a := by
        intro a
        rw [← hσe]
        exact hF.2.2 a
      have e77 : gI σe 7 0 7 = 4 := by rw [← hσe, gGn (by decide), gI_sI, if_pos ⟨rfl, rfl, rfl⟩]
      have e78 : gI σe 7 0 8 = nI f := by rw [← hσe, gGn (by decide), gI_sI, if_neg (by omega), gI_sI, if_neg (by omega), gI_sI, if_pos ⟨rfl, rfl, rfl⟩]
      have e79 : gI σe 7 0 9 = nI pl := by rw [← hσe, gGn (by decide), gI_sI, if_neg (by omega), gI_sI, if_pos ⟨rfl, rfl, rfl⟩]
      have e41 : gI σe 4 0 1 = 0 := by rw [← hσe, gG]; exact r1
      rw [hσe]
      have hMT' : MT σe T N := by
        intro k hk
        rw [eI 52 0 k (by decide) (by omega) (by omega)]
        exact hMT k hk
      refine m_busE hM hN ((eI 8 0 5 (by decide) (by decide) (by omega)).trans hM5) hMT' o f1 (fun σ2 fI fL fR g1 g2 g3 g5 => ⟨rfl, ⟨p, 1 - (1 - P), ?_⟩, ?_, ?_, fun _ => ?_⟩)
      · rw [show 1 - (1 - P) = P by omega]
        refine (hq.drf (σ' := σ2) ⟨fun a b c q1 q2 q3 q4 q5 q6 q7 => ?_, fun a b c q1 q2 q3 q4 => ?_, fun a => (fR a).trans (eR a)⟩ ⟨0, by decide, ?_, g5, fun k hk => by omega⟩).mono (Nat.le_succ n)
        · rw [fI a b c (by omega) q4 q5 q6]
          exact eI a b c q1 q2 q7
        · rw [fL a b c q2 q3]
          exact eL a b c q1 q4
        · rw [fI 4 0 1 (by omega) (by decide) (by decide) (by decide)]
          exact e41
      · rw [fI 7 0 7 (by omega) (by decide) (by decide) (by decide), e77, g1]
      · rw [fI 7 0 8 (by omega) (by decide) (by decide) (by decide), e78, g2]
      · rw [fI 7 0 9 (by omega) (by decide) (by decide) (by decide), e79, g3]
    · -- a bus
      have hV := hI.1
      have D2 : 1 - P < 2 := by omega
      rintro _ rfl _ rfl
      rw [gG, r10, sGn (by decide), gG, sGn (by decide), gGn (by decide), gI_sI, if_neg (by omega), gI_sI, if_pos ⟨rfl, rfl, rfl⟩]
      refine ⟨fun _ => ?_, fun q => absurd rfl q⟩
      rw [gGR, gR_sI, gR_sI, hF.2.2, hq.g0]
      refine ⟨hP2, ?_⟩
      unfold S_X4_handOver
      rw [gGR, gR_sI, gR_sI, hF.2.2, hg1]
      refine ⟨D2, ?_⟩
      rintro _ rfl
      refine ⟨D2, ?_⟩
      rintro _ rfl
      obtain ⟨σe, hσe⟩ : ∃ σe, sR (sR (stG 4 7 (sI (sI σ' 7 0 8 0) 7 0 9 (r' 11)) r' w') 1 P) 0 (1 - P) = σe := ⟨_, rfl⟩
      have eI : ∀ a b c, a ≠ 4 → ¬ (a = 7 ∧ 7 ≤ c) → gI σe a b c = gI σ' a b c := by
        intro a b c q1 q2
        rw [← hσe, gI_sR, gI_sR, gGn q1, gI_sI, if_neg (by omega), gI_sI, if_neg (by omega)]
      have eL : ∀ a b c, a ≠ 4 → gL σe a b c = gL σ' a b c := by
        intro a b c q1
        rw [← hσe, gL_sR, gL_sR, gGLn q1]
        rfl
      have eR0 : gR σe 0 = 1 - P := by rw [← hσe, gR_sR, if_pos rfl]
      have eR1 : gR σe 1 = P := by rw [← hσe, gR_sR, if_neg (by decide), gR_sR, if_pos rfl]
      have e78 : gI σe 7 0 8 = 0 := by rw [← hσe, gI_sR, gI_sR, gGn (by decide), gI_sI, if_neg (by omega), gI_sI, if_pos ⟨rfl, rfl, rfl⟩]
      have e41 : gI σe 4 0 1 = 0 := by rw [← hσe, gI_sR, gI_sR, gG]; exact r1
      rw [hσe, eR0]
      have hX' : PX σe (1 - P) p' := by
        have hx := hD.px
        have g : ∀ a c, a ≠ 4 → a ≠ 7 → gI σe a (1 - P) c = gI σ' a (1 - P) c := fun a c q1 q2 => eI a (1 - P) c q1 (fun z => q2 z.1)
        unfold PX at hx ⊢
        simp only [g 2 _ (by decide) (by decide), g 22 _ (by decide) (by decide), g 25 _ (by decide) (by decide), g 26 _ (by decide) (by decide), g 27 _ (by decide) (by decide), g 28 _ (by decide) (by decide), g 29 _ (by decide) (by decide)]
        exact hx
      refine ⟨D2, c_lay hV hX' (fun σ2 F2 hW => ?_)⟩
      rw [F2.2.2, eR0]
      have X2 := hX'.fw F2
      refine ⟨D2, c_measure hV X2 hW.2.2.1 hW.2.2.2.2.2 (fun σ3 F3 hE => ?_)⟩
      rw [F3.2.2, F2.2.2, eR0]
      have X3 := X2.fe F3
      refine ⟨D2, c_begin hV X3 (fun σ4 F4 hEX _ => ?_)⟩
      have X4 := X3.fb F4
      rintro _ rfl
      rw [gR_sI, F4.2.2, F3.2.2, F2.2.2, eR0, gI_sI, if_neg (by omega), X4.2.2.2.2.2.2.1]
      refine ⟨D2, ?_⟩
      unfold S_X7_answer
      rintro _ rfl
      -- the class is done
      obtain ⟨σc, hσc⟩ : ∃ σc, sI (sI σ4 7 0 6 0) 7 0 7 0 = σc := ⟨_, rfl⟩
      have sf : ∀ {a : Nat}, stN a = false → ∀ b c, gI σ4 a b c = gI σ3 a b c := fun q b c => F4.1 _ b c (fun z => by rw [q] at z; exact absurd z.2 (by decide))
      have cI : ∀ a b c, a ≠ 7 → gI σc a b c = gI σ4 a b c := by
        intro a b c q
        rw [← hσc, gI_sI, if_neg (fun z => q z.1), gI_sI, if_neg (fun z => q z.1)]
      have cL : ∀ a b c, gL σc a b c = gL σ4 a b c := by
        intro a b c
        rw [← hσc]
        rfl
      have c76 : gI σc 7 0 6 = 0 := by rw [← hσc, gI_sI, if_neg (by omega), gI_sI, if_pos ⟨rfl, rfl, rfl⟩]
      have c77 : gI σc 7 0 7 = 0 := by rw [← hσc, gI_sI, if_pos ⟨rfl, rfl, rfl⟩]
      have c78 : gI σc 7 0 8 = 0 := by
        rw [← hσc, gI_sI, if_neg (by omega), gI_sI, if_neg (by omega), sf (a := 7) rfl, F3.1 7 0 8 (by decide) (by decide), F2.1 7 0 8 (by omega)]
        exact e78
      have c41 : gI σc 4 0 1 = 0 := by
        rw [cI 4 0 1 (by decide), sf (a := 4) rfl, F3.1 4 0 1 (by decide) (by decide), F2.1 4 0 1 (by omega)]
        exact e41
      have cR0 : gR σc 0 = 1 - P := by
        rw [← hσc]
        show gR σ4 0 = 1 - P
        rw [F4.2.2, F3.2.2, F2.2.2, eR0]
      have cR1 : gR σc 1 = P := by
        rw [← hσc]
        show gR σ4 1 = P
        rw [F4.2.2, F3.2.2, F2.2.2, eR1]
      have low : ∀ a c, (a = 8 ∨ 52 ≤ a) → gI σc a 0 c = gI σ a 0 c := by
        intro a c q
        have st : stN a = false := by
          cases hst : stN a with
          | false => rfl
          | true =>
            unfold stN at hst
            simp only [Bool.or_eq_true, Bool.and_eq_true, beq_iff_eq, decide_eq_true_eq] at hst
            omega
        rw [cI a 0 c (by omega), sf st, F3.1 a 0 c (by omega) (by omega), F2.1 a 0 c (by omega), eI a 0 c (by omega) (by omega)]
        exact hF.1 a 0 c (by omega)
      have hMT' : MT σc T N := by
        intro k hk
        rw [low 52 k (by omega)]
        exact hMT k hk
      rw [hσc]
      refine m_busK hM hN ((low 8 5 (by omega)).trans hM5) hMT' o (fun σ9 fI fL fR g1 g2 g5 g14 g27 hPM nE1 nL1 hER => ⟨rfl, ⟨p', 1 - P, ?_⟩, ?_, ?_, fun q => ?_⟩)
      · have fx : ∀ a b c, a ≠ 8 → a < 53 → a ≠ 7 → gI σ9 a b c = gI σ4 a b c := fun a b c q1 q2 q3 => (fI a b c q1 q2).trans (cI a b c q3)
        have X9 : PX σ9 (1 - P) p' := by
          have g : ∀ a c, a ≠ 8 → a < 53 → a ≠ 7 → gI σ9 a (1 - P) c = gI σ4 a (1 - P) c := fun a c => fx a (1 - P) c
          unfold PX at X4 ⊢
          simp only [g 2 _ (by decide) (by decide) (by decide), g 22 _ (by decide) (by decide) (by decide), g 25 _ (by decide) (by decide) (by decide), g 26 _ (by decide) (by decide) (by decide), g 27 _ (by decide) (by decide) (by decide), g 28 _ (by decide) (by decide) (by decide), g 29 _ (by decide) (by decide) (by decide)]
          exact X4
        have w4 : ∀ a c, 47 ≤ a → a ≤ 51 → gI σ4 a (1 - P) c = gI σ2 a (1 - P) c := by
          intro a c q1 q2
          have st : stN a = false := by
            cases hst : stN a with
            | false => rfl
            | true =>
              unfold stN at hst
              simp only [Bool.or_eq_true, Bool.and_eq_true, beq_iff_eq, decide_eq_true_eq] at hst
              omega
          rw [sf st, F3.1 a _ c (by omega) (by omega)]
        have W9 : WL σ9 (1 - P) p' := hW.ext (fun a c q1 q2 => (fx a _ c (by omega) (by omega) (by omega)).trans (w4 a c q1 q2))
        have l9 : ∀ a b c, a ≠ 8 → a < 59 → gL σ9 a b c = gL σ3 a b c := fun a b c q1 q2 => (fL a b c q1 q2).trans ((cL a b c).trans (F4.2.1 a b c))
        have E9 : EVn σ9 p' := hE.ext ((fx 1 0 0 (by decide) (by decide) (by decide)).trans (sf (a := 1) rfl 0 0)) (fun c => (fx 19 0 c (by decide) (by decide) (by decide)).trans (sf (a := 19) rfl 0 c)) (fun c => l9 20 0 c (by decide) (by decide)) (fun c => l9 21 0 c (by decide) (by decide))
        have nmc : ∀ a c, a = 23 ∨ a = 24 → gL σ9 a (1 - P) c = gL σ' a (1 - P) c := by
          intro a c q
          rw [l9 a _ c (by omega) (by omega), F3.2.1 a _ c (by omega) (by omega), F2.2.1, eL a _ c (by omega)]
        refine ⟨⟨D2, (fR 0).trans cR0, (fR 1).trans (cR1.trans (by omega)), hV, X9, hPM, ⟨fun e he => ?_, fun l hl' => ?_⟩, ?_, fun q => by omega, fun _ => W9.wy E9⟩, ⟨0, by decide, ?_, g5, fun k hk => by omega⟩, ⟨fun _ => ⟨s0N p', 0, 0, Nat.zero_le _, Nat.zero_le _, s0_inv hV, ?_, hER, fun l q1 q2 => sQ_z (by decide)⟩, fun q => by omega⟩, ?_, fun q => ?_⟩
        · rw [nmc 23 e (by omega), nE1 e he]
          exact (hD.2.2.2.1 e he).2
        · rw [nmc 24 l (by omega), nL1 l hl']
          exact (hD.2.2.2.2.1 l hl').2.2.2.2
        · rw [g14, if_neg (by omega)]
        · rw [fI 4 0 1 (by decide) (by decide)]
          exact c41
        · refine hEX.ext (fun f c hf => ?_)
          have f78 := stN_78 hf
          have f53 : f < 53 := by
            unfold stN at hf
            simp only [Bool.or_eq_true, Bool.and_eq_true, beq_iff_eq, decide_eq_true_eq] at hf
            omega
          exact fx f 0 c f78.2 f53 f78.1
        · rw [fI 7 0 6 (by decide) (by decide), c76, g27]
        · rw [fI 7 0 6 (by decide) (by decide), c76] at q
          exact absurd rfl q
      · rw [fI 7 0 7 (by decide) (by decide), c77, g1]
      · rw [fI 7 0 8 (by decide) (by decide), c78, g2]
      · rw [fI 7 0 7 (by decide) (by decide), c77] at q
        exact absurd q (by decide)
  · unfold J_X7_bus_15 S_X7_refuse
    rintro _ rfl
    unfold S_X8_bus
    refine fresh_pre ?_
    have e5 : gI (prH 2 σ) 8 0 5 = nI M := ((Hd.prH 2 σ).1 8 0 5 (Or.inl (by decide)) (Or.inr (by decide))).trans hM5
    rw [e5]
    exact rng3 (a := 0) (b := M) (by omega) (Nat.zero_le _) (fun q => absurd q hb) (fun _ => b0 (kR hq hT n24))
end BusK
