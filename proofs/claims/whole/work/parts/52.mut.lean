/-! ===== babble, anew ===== -/
theorem sub_sub' (a b : Int32) : a - (a - b) = b := by
  apply Int32.toInt_inj.mp
  simp only [Int32.toInt_sub]
  have ha := Int32.toInt_lt b
  have hb := Int32.le_toInt b
  rw [Int.sub_bmod_bmod]
  rw [show a.toInt - (a.toInt - b.toInt) = b.toInt by omega]
  exact Int32.toInt_bmod b
noncomputable def sB (p : PD) (l : Nat) (s : SD) (k : Nat) : SD := itr (fun _ s => tBear p l s) k s
noncomputable def lostN (p : PD) (l : Nat) (s : SD) : Nat → Int32
  | 0 => 0
  | k + 1 => lostN p l s k + lostB p l (sB p l s k)
theorem sB_succ (p : PD) (l : Nat) (s : SD) (k : Nat) : sB p l s (k + 1) = tBear p l (sB p l s k) := rfl
theorem w40_bear {p : PD} {l k : Nat} {s : SD} : tBear p l s 40 k = s 40 k := by
  unfold tBear tBear1
  rw [u_nf _ _ (by decide), u_nf _ _ (by decide), come_nf ⟨by decide, by decide, by decide, by decide, by decide⟩, come_nf ⟨by decide, by decide, by decide, by decide, by decide⟩]
theorem w40_sB {p : PD} {l k : Nat} {s : SD} : ∀ m, sB p l s m 40 k = s 40 k
  | 0 => rfl
  | m + 1 => by rw [sB_succ, w40_bear, w40_sB m]
theorem inv_sB {p : PD} {t : Nat} {lo : Nat → Nat} {b : Nat} {s : SD} {l : Nat} (hV : PV p) (h : Inv p t lo b s) (hl : l < nL p) : ∀ m, Inv p t lo b (sB p l s m)
  | 0 => h
  | m + 1 => by rw [sB_succ]; exact inv_bear hV (inv_sB hV h hl m) hl
section Mut3
variable {n : Nat} {σ : Hp} {p : PD} {P : Nat} {Q : Int32 → Hp → Prop}
theorem k_babble {x y : Int32} (h : RR n σ) : S_X7_babble x y σ (fun r σ1 => S_X8_babble x y σ1 (fun r' σ2 => r = r' ∧ RR (n + 1) σ2)) := by
  obtain ⟨⟨p, P, hq⟩, hT⟩ := h
  have h8 := hq.nL8
  unfold S_X7_babble
  rw [hq.g0]
  refine ⟨hq.P2, c_hasLink hq (fun l hl e => b1 ?_) (fun q => b0 ?_)⟩
  · subst e
    have hL : 0 < nL p := by omega
    refine rng4 (a := 1) (b := 20) (by decide) (by decide) (fun ⟨k, k1, k2, e⟩ => ?_) (fun q => ?_)
    · subst e
      obtain ⟨s, t, b, ht1, hb1, hI, hE, hR, hz⟩ := hq.2.2.1.1 hL
      have go : ∀ (K : Int32 → Hp → Prop) (R : Int32 → Hp → Prop), (∀ x', EX p x' (sB p l s k) → K (lostN p l s k) (stX σ 0 x')) → ∀ j i x', i + j = k → EX p x' (sB p l s i) → L_X7_babble_39 R K (nI l) (nI k) (j + 1) (lostN p l s i) (nI i) (stX σ 0 x') := by
        intro K R hK j
        induction j with
        | zero =>
          intro i x' hi hE'
          have : i = k := by omega
          subst this
          exact ⟨fun _ => hK x' hE', fun q => absurd (nI_le (Nat.le_refl i) (by omega)) q⟩
        | succ j ih =>
          intro i x' hi hE'
          unfold L_X7_babble_39
          rw [le_nI (by omega) (by omega), show (1 : Int32) = nI 1 from rfl, add_nI, gRX, hq.g0]
          refine ⟨fun q => by omega, fun _ => ⟨hq.P2, ?_⟩⟩
          exact c_bear hq.V hq.X (inv_sB hq.V hI hl i) hE' hl (fun x'' hE'' => ih (i + 1) x'' (by omega) hE'')
      refine ⟨k + 1, ?_⟩
      have key := go (fun w11 σ10 => S_X7_answer w11 σ10 (fun r σ1 => S_X8_babble (nI l) (nI k) σ1 (fun r' σ2 => r = r' ∧ RR (n + 1) σ2))) (fun r σ1 => S_X8_babble (nI l) (nI k) σ1 (fun r' σ2 => r = r' ∧ RR (n + 1) σ2)) (fun x' hE' => ?_) k 0 (xs σ 0) (by omega) hE
      · rw [stX_self] at key
        exact key
      · rintro _ rfl
        unfold S_X8_babble
        refine fresh_pre (lnkX hq 0 _ hl (b1 ?_))
        refine rng3 (a := 1) (b := 20) (by decide) (by decide) (fun _ => b1 ?_) (fun q => absurd ⟨k, k1, k2, rfl⟩ q)
        have goM : ∀ j i r' tk', i + j = k → EM r' tk' (s 0 0 - gI (prH 0 (stX σ 0 x')) 8 0 28) (sB p l s i) → L_X8_babble_39 (fun r' σ2 => lostN p l s k = r' ∧ RR (n + 1) σ2) (fun r' σ2 => lostN p l s k = r' ∧ RR (n + 1) σ2) (nI l) (nI k) (j + 1) (lostN p l s i) (nI i) (stM (prH 0 (stX σ 0 x')) r' tk') := by
          intro j
          induction j with
          | zero =>
            intro i r' tk' hi hM
            have : i = k := by omega
            subst this
            exact ⟨fun _ => ⟨rfl, hq.done hT hL ⟨sB p l s i, t, b, by omega, by omega, inv_sB hq.V hI hl i, hE', hM.1, fun l' a1 a2 => (w40_sB i).trans (hz l' a1 a2)⟩⟩, fun q => absurd (nI_le (Nat.le_refl i) (by omega)) q⟩
          | succ j ih =>
            intro i r' tk' hi hM
            unfold L_X8_babble_39
            rw [le_nI (by omega) (by omega), show (1 : Int32) = nI 1 from rfl, add_nI]
            refine ⟨fun q => by omega, fun _ => ?_⟩
            exact m_bear hq.V (hq.MX 0 x') (inv_sB hq.V hI hl i) hM hl rfl (fun r'' hM' => ih (i + 1) r'' tk' (by omega) hM')
        have key2 := goM k 0 (fun c => gI (prH 0 (stX σ 0 x')) 61 0 c) (gI (prH 0 (stX σ 0 x')) 8 0 28) (by omega) ⟨fun f c hc => (gPX 0 _ (by decide) (by decide) rfl 0 _).trans (hR f c hc), (sub_sub' _ _).symm⟩
        rw [stM_self] at key2
        exact ⟨k + 1, key2⟩
    · rintro _ rfl
      unfold S_X8_babble
      refine fresh_pre (m_isLink (hq.pr 2) (fun _ _ _ => b1 ?_) (fun q => absurd ⟨l, hl, rfl⟩ q))
      exact rng3 (a := 1) (b := 20) (by decide) (by decide) (fun q2 => absurd q2 q) (fun _ => b0 (kR hq hT n24))
  · rintro _ rfl
    unfold S_X8_babble
    exact fresh_pre (m_isLink (hq.pr 1) (fun l' hl' e' => absurd ⟨l', hl', e'⟩ q) (fun _ => b0 (kR hq hT n14)))
end Mut3
