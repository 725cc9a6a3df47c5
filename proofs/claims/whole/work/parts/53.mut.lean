/-! ===== anew ===== -/
def aw1 (p : PD) (e l : Nat) (s : SD) : SD := if fr p l = e then u (u s 40 l 0) 42 l 0 else s
def sA (p : PD) (e : Nat) (s : SD) (m : Nat) : SD := itr (aw1 p e) m s
def anewN (p : PD) (e : Nat) (s : SD) : Nat → Int32
  | 0 => 0
  | m + 1 => if fr p m = e then anewN p e s m + s 40 m else anewN p e s m
theorem anewN_succ (p : PD) (e : Nat) (s : SD) (m : Nat) : anewN p e s (m + 1) = if fr p m = e then anewN p e s m + s 40 m else anewN p e s m := rfl
theorem sA_succ (p : PD) (e : Nat) (s : SD) (m : Nat) : sA p e s (m + 1) = aw1 p e m (sA p e s m) := rfl
theorem aw1_40 {p : PD} {e l k : Nat} {s : SD} (h : l ≠ k) : aw1 p e l s 40 k = s 40 k := by
  unfold aw1
  split
  · rw [u_nf _ _ (by decide), u_nk _ _ (fun q => h q.symm)]
  · rfl
theorem sA_40 {p : PD} {e k : Nat} {s : SD} : ∀ m, m ≤ k → sA p e s m 40 k = s 40 k
  | 0, _ => rfl
  | m + 1, h => by rw [sA_succ, aw1_40 (by omega), sA_40 m (by omega)]
theorem inv_aw {p : PD} {t : Nat} {lo : Nat → Nat} {b : Nat} {s : SD} {e l : Nat} (hV : PV p) (h : Inv p t lo b s) (hl : l < nL p) : Inv p t lo b (aw1 p e l s) := by
  unfold aw1
  split
  · obtain ⟨_, h2, _, h4⟩ := h.2.2.1 l hl
    refine h.link (l := l) hV (fun f f1 f2 f3 f4 c => ?_) (fun l' hl' => ⟨?_, ?_, ?_⟩) ⟨⟨0, by omega, ?_⟩, ?_, ⟨0, by omega, u_self _ _ _ _⟩, fun net hnet => ?_⟩
    · rw [u_nf _ _ f3, u_nf _ _ f1]
    · rw [u_nf _ _ (by decide), u_nk _ _ hl']
    · rw [u_nf _ _ (by decide), u_nf _ _ (by decide)]
    · rw [u_nk _ _ hl', u_nf _ _ (by decide)]
    · rw [u_nf _ _ (by decide)]
      exact u_self _ _ _ _
    · rw [u_nf _ _ (by decide), u_nf _ _ (by decide)]
      exact h2
    · rw [u_nf _ _ (by decide), u_nf _ _ (by decide)]
      exact h4 net hnet
  · exact h
theorem inv_sA {p : PD} {t : Nat} {lo : Nat → Nat} {b : Nat} {s : SD} {e : Nat} (hV : PV p) (h : Inv p t lo b s) : ∀ m, m ≤ nL p → Inv p t lo b (sA p e s m)
  | 0, _ => h
  | m + 1, hm => by rw [sA_succ]; exact inv_aw hV (inv_sA hV h m (by omega)) (by omega)
section Mut4
variable {n : Nat} {σ : Hp} {p : PD} {P : Nat} {Q : Int32 → Hp → Prop}
theorem k_anew {x : Int32} (h : RR n σ) : S_X7_anew x σ (fun r σ1 => S_X8_anew x σ1 (fun r' σ2 => r = r' ∧ RR (n + 1) σ2)) := by
  obtain ⟨⟨p, P, hq⟩, hT⟩ := h
  have h8 := hq.nL8
  have h6 := hq.nE6
  unfold S_X7_anew
  rw [hq.g0]
  refine ⟨hq.P2, c_hasEnd hq (fun e he hx => b1 ?_) (fun q => b0 ?_)⟩
  · subst hx
    rw [hq.g0]
    refine ⟨hq.P2, ?_⟩
    have hL : 0 < nL p := by
      rcases Nat.eq_zero_or_pos (nL p) with z | z
      · have := (hq.none z).1
        omega
      · exact z
    obtain ⟨s, t, b, ht1, hb1, hI, hE, hR, hz⟩ := hq.2.2.1.1 hL
    have frl : ∀ l, l < nL p → fr p l < nE p := fun l hl => (hq.V.2.2.2.2.2.2.2.2 l hl).1
    have go : ∀ (K : Int32 → Hp → Prop) (R : Int32 → Hp → Prop), (∀ x', EX p x' (sA p e s (nL p)) → K (anewN p e s (nL p)) (stX σ 0 x')) → ∀ j i x', i + j = nL p → EX p x' (sA p e s i) → L_X5_beginAnew_5 R K 0 P (nI e) (j + 1) (anewN p e s i) (nI i) (stX σ 0 x') := by
      intro K R hK j
      induction j with
      | zero =>
        intro i x' hi hE'
        have : i = nL p := by omega
        subst this
        unfold L_X5_beginAnew_5
        rw [gX2, hq.X.2.2.2.2.2.2.1]
        exact ⟨fun _ => hK x' hE', fun q => absurd (nI_le (Nat.le_refl (nL p)) (by omega)) q⟩
      | succ j ih =>
        intro i x' hi hE'
        have hi' : i < nL p := by omega
        have v8 : vp_in (nI i) 8 := vp_in_nI (by omega) (by decide)
        have hf := frl i hi'
        unfold L_X5_beginAnew_5
        rw [gX2, hq.X.2.2.2.2.2.2.1, le_nI (by omega) (by omega), ix_nI (by omega), gX25, (hq.X.2.2.2.2.2.2.2.2.1 i hi').1, eq_nI (by omega) (by omega)]
        refine ⟨fun q => by omega, fun _ => ⟨v8, fun q => ?_, fun q => ⟨v8, v8, ?_⟩⟩⟩
        · have := ih (i + 1) x' (by omega) (by rw [sA_succ]; unfold aw1; rw [if_neg q]; exact hE')
          rw [anewN_succ, if_neg q] at this
          unfold J_X5_beginAnew_51
          rw [show (1 : Int32) = nI 1 from rfl, add_nI]
          exact this
        · rintro _ rfl
          refine ⟨v8, ?_⟩
          rintro _ rfl
          rw [sX40, sX42]
          have := ih (i + 1) (u (u x' 40 i 0) 42 i 0) (by omega) (by
            rw [sA_succ]; unfold aw1; rw [if_pos q]
            exact (hE'.set rfl (by decide) (by decide) i _).set rfl (by decide) (by decide) i _)
          rw [anewN_succ, if_pos q] at this
          unfold J_X5_beginAnew_51
          rw [show (1 : Int32) = nI 1 from rfl, add_nI i 1, gX40, (hE'.1 40 i rfl (show i < 8 by omega)), sA_40 i (Nat.le_refl i)]
          exact this
    refine ⟨nL p + 1, ?_⟩
    have key := go (fun w5 σ4 => S_X7_answer w5 σ4 (fun r σ1 => S_X8_anew (nI e) σ1 (fun r' σ2 => r = r' ∧ RR (n + 1) σ2))) (fun w5 σ4 => S_X7_answer w5 σ4 (fun r σ1 => S_X8_anew (nI e) σ1 (fun r' σ2 => r = r' ∧ RR (n + 1) σ2))) (fun x' hE' => ?_) (nL p) 0 (xs σ 0) (by omega) hE
    · rw [stX_self] at key
      exact key
    · rintro _ rfl
      unfold S_X8_anew
      refine fresh_pre (endX hq hL 0 _ he (b1 ?_))
      have goM : ∀ j i r' tk', i + j = nL p → ER r' (sA p e s i) → L_X8_anew_22 (fun r' σ2 => anewN p e s (nL p) = r' ∧ RR (n + 1) σ2) (fun r' σ2 => anewN p e s (nL p) = r' ∧ RR (n + 1) σ2) (nI e) (j + 1) (anewN p e s i) (nI i) (stM (prH 0 (stX σ 0 x')) r' tk') := by
        intro j
        induction j with
        | zero =>
          intro i r' tk' hi hM
          have : i = nL p := by omega
          subst this
          unfold L_X8_anew_22
          rw [show ix 6 = 6 from rfl, gM53, show gI (prH 0 (stX σ 0 x')) 53 0 6 = nI (nL p) from (hq.MX 0 x').1 6 (by decide)]
          exact ⟨vp_in_nI (n := 6) (by decide) (by decide), fun _ => ⟨rfl, hq.done hT hL ⟨sA p e s (nL p), t, b, by omega, by omega, inv_sA hq.V hI (nL p) (Nat.le_refl _), hE', hM, fun l' a1 a2 => (sA_40 (nL p) a1).trans (hz l' a1 a2)⟩⟩, fun q => absurd (nI_le (Nat.le_refl (nL p)) (by omega)) q⟩
        | succ j ih =>
          intro i r' tk' hi hM
          have hi' : i < nL p := by omega
          have hf := frl i hi'
          have ml : (7 * nI i + 0 : Int32) = nI (7 * i) := by
            rw [show (7 : Int32) = nI 7 from rfl, show (0 : Int32) = nI 0 from rfl, mul_nI, add_nI, Nat.add_zero]
          have la0 : (1 + 5 * nI i + 0 : Int32) = nI (1 + 5 * i) := by
            rw [show (1 : Int32) = nI 1 from rfl, show (5 : Int32) = nI 5 from rfl, show (0 : Int32) = nI 0 from rfl, mul_nI, add_nI, add_nI, Nat.add_zero]
          have la2 : (1 + 5 * nI i + 2 : Int32) = nI (1 + 5 * i + 2) := by
            rw [show (1 : Int32) = nI 1 from rfl, show (5 : Int32) = nI 5 from rfl, show (2 : Int32) = nI 2 from rfl, mul_nI, add_nI, add_nI]
          unfold L_X8_anew_22 S_X8_linkOf S_X8_linkAt
          dsimp only
          rw [show ix 6 = 6 from rfl, gM53, show gI (prH 0 (stX σ 0 x')) 53 0 6 = nI (nL p) from (hq.MX 0 x').1 6 (by decide), le_nI (by omega) (by omega), ml, ix_nI (by omega), gM57, show gI (prH 0 (stX σ 0 x')) 57 0 (7 * i) = nI (fr p i) from (hq.MX 0 x').2.2.1 i hi' 0 (by decide), eq_nI (by omega) (by omega), la0, la2, ix_nI (by omega), ix_nI (by omega)]
          refine ⟨vp_in_nI (n := 6) (by decide) (by decide), fun q => by omega, fun _ => ⟨vp_in_nI (by omega) (by decide), fun q => ?_, fun q => ⟨vp_in_nI (by omega) (by decide), vp_in_nI (by omega) (by decide), ?_⟩⟩⟩
          · have := ih (i + 1) r' tk' (by omega) (by rw [sA_succ]; unfold aw1; rw [if_neg q]; exact hM)
            rw [anewN_succ, if_neg q] at this
            unfold J_X8_anew_78
            rw [show (1 : Int32) = nI 1 from rfl, add_nI]
            exact this
          · rintro _ rfl
            refine ⟨vp_in_nI (by omega) (by decide), ?_⟩
            rintro _ rfl
            rw [sM61, sM61]
            have := ih (i + 1) (upd (upd r' (1 + 5 * i) 0) (1 + 5 * i + 2) 0) tk' (by omega) (by
              rw [sA_succ]; unfold aw1; rw [if_pos q]
              exact (hM.set (f := 40) (k := i) (show i < 8 by omega) rfl _).set (f := 42) (k := i) (show i < 8 by omega) rfl _)
            rw [anewN_succ, if_pos q] at this
            unfold J_X8_anew_78
            rw [show (1 : Int32) = nI 1 from rfl, add_nI i 1, gM61, show r' (1 + 5 * i) = s 40 i from (hM 40 i (show i < 8 by omega)).trans (sA_40 i (Nat.le_refl i))]
            exact this
      have key2 := goM (nL p) 0 (fun c => gI (prH 0 (stX σ 0 x')) 61 0 c) (gI (prH 0 (stX σ 0 x')) 8 0 28) (by omega) (fun f c hc => (gPX 0 _ (by decide) (by decide) rfl 0 _).trans (hR f c hc))
      rw [stM_self] at key2
      exact ⟨nL p + 1, key2⟩
  · rintro _ rfl
    unfold S_X8_anew
    exact fresh_pre (m_isEnd (hq.pr 1) (fun l' hl' e' => absurd ⟨l', hl', e'⟩ q) (fun _ => b0 (kR hq hT n14)))
end Mut4
