/-! ===== leastGap: a plan with one gap changed ===== -/
def gsP (p : PD) (l g : Nat) : PD := fun a b => if a = 2 ∧ b = 7 * l + 1 then g else p a b
theorem gs_ne {p : PD} {l g a b : Nat} (h : ¬ (a = 2 ∧ b = 7 * l + 1)) : gsP p l g a b = p a b := if_neg h
section Gs
variable {p : PD} {l g : Nat}
theorem gs_nL : nL (gsP p l g) = nL p := gs_ne (by omega)
theorem gs_nE : nE (gsP p l g) = nE p := gs_ne (by omega)
theorem gs_Sw : pSw (gsP p l g) = pSw p := gs_ne (by omega)
theorem gs_eS (e : Nat) : eS (gsP p l g) e = eS p e := gs_ne (by omega)
theorem gs_fr (m : Nat) : fr (gsP p l g) m = fr p m := gs_ne (by omega)
theorem gs_ln (m : Nat) : ln (gsP p l g) m = ln p m := gs_ne (by omega)
theorem gs_rc (m : Nat) : rc (gsP p l g) m = rc p m := gs_ne (by omega)
theorem gs_re (m : Nat) {i : Nat} (hi : i < 3) : re (gsP p l g) m i = re p m i := gs_ne (by omega)
theorem gs_gp (m : Nat) : gp (gsP p l g) m = if m = l then g else gp p m := by
  by_cases h : m = l
  · subst h
    rw [if_pos rfl]
    exact if_pos ⟨rfl, rfl⟩
  · rw [if_neg h]
    exact gs_ne (by omega)
theorem gs_wl (m : Nat) {i : Nat} (hi : i < 3) : wl (gsP p l g) m i = wl p m i := by
  unfold wl
  rw [gs_re m hi, gs_fr, gs_eS, gs_eS]
theorem gs_wp (m : Nat) {i : Nat} (k : Nat) (hi : i < 3) : wp (gsP p l g) m i k = wp p m i k := by
  unfold wp
  rw [gs_wl m hi, gs_re m hi, gs_fr, gs_eS, gs_eS]
theorem gs_on (hV : PV p) {m pt : Nat} (hm : m < nL p) : on (gsP p l g) m pt ↔ on p m pt := by
  have hr := (hV.2.2.2.2.2.2.2.2 m hm).2.2.2.2.2.2.1
  unfold on
  rw [gs_rc]
  refine ⟨fun ⟨i, k, a, b, c⟩ => ⟨i, k, a, ?_, ?_⟩, fun ⟨i, k, a, b, c⟩ => ⟨i, k, a, ?_, ?_⟩⟩
  · rw [gs_wl m (by omega)] at b; exact b
  · rw [gs_wp m k (by omega)] at c; exact c
  · rw [gs_wl m (by omega)]; exact b
  · rw [gs_wp m k (by omega)]; exact c
theorem cif_iff {α : Type} {c d : Prop} (h : c ↔ d) (a b : α) : cif c a b = cif d a b := by
  by_cases q : c
  · rw [cif_pos q, cif_pos (h.mp q)]
  · rw [cif_neg q, cif_neg (fun r => q (h.mpr r))]
theorem gs_ld (hV : PV p) (pt : Nat) : ldN (gsP p l g) pt = smN (fun m => cif (on p m pt) (ln p m * (256 / (if m = l then g else gp p m))) 0) (nL p) := by
  unfold ldN
  rw [gs_nL]
  refine smN_congr (nL p) (fun m hm => ?_)
  rw [gs_ln, gs_gp, cif_iff (gs_on hV hm)]
theorem gs_PV (hV : PV p) (hl : l < nL p) (hg : isGap g) (hn : ln p l ≤ g) : PV (gsP p l g) := by
  obtain ⟨h1, h2, h3, h4, h5, h6, h7, h8, h9⟩ := hV
  refine ⟨?_, ?_, ?_, ?_, ?_, ?_, ?_, fun e he => ?_, fun m hm => ?_⟩
  · rw [gs_Sw]; exact h1
  · show gsP p l g 0 1 ≤ 12; rw [gs_ne (by omega)]; exact h2
  · show gsP p l g 0 2 ≤ 400; rw [gs_ne (by omega)]; exact h3
  · show gsP p l g 0 3 ≤ 100; rw [gs_ne (by omega)]; exact h4
  · show gsP p l g 0 4 ≤ 999; rw [gs_ne (by omega)]; exact h5
  · rw [gs_nE]; exact h6
  · rw [gs_nL]; exact h7
  · rw [gs_nE] at he
    rw [gs_eS, gs_Sw]
    exact h8 e he
  · rw [gs_nL] at hm
    obtain ⟨a1, a2, a3, a4, a5, a6, a7, a8, a9⟩ := h9 m hm
    refine ⟨?_, ?_, ?_, ?_, ?_, ?_, ?_, fun i hi => ?_, fun i j hi hj e => ?_⟩
    · rw [gs_fr, gs_nE]; exact a1
    · rw [gs_gp]
      split
      · exact hg
      · exact a2
    · rw [gs_ln]; exact a3
    · rw [gs_ln]; exact a4
    · rw [gs_ln, gs_gp]
      split
      · next e => rw [e]; exact hn
      · exact a5
    · rw [gs_rc]; exact a6
    · rw [gs_rc]; exact a7
    · rw [gs_rc] at hi
      rw [gs_re m (by omega), gs_nE, gs_fr]
      exact a8 i hi
    · rw [gs_rc] at hi hj
      rw [gs_re m (by omega), gs_re m (by omega)] at e
      exact a9 i j hi hj e
theorem gs_RM {σ : Hp} (h : RM σ p) (hl : l < nL p) (hg : isGap g) (hn : ln p l ≤ g) : RM (sI σ 57 0 (7 * l + 1) (nI g)) (gsP p l g) := by
  obtain ⟨m1, m2, m3, m4⟩ := h.M
  refine ⟨gs_PV h.V hl hg hn, ⟨fun k hk => ?_, fun e he => ?_, fun m hm j hj => ?_, fun m hm i hi => ?_⟩, ?_, ?_⟩
  · rw [gI_sI, if_neg (by omega), gs_ne (by omega)]
    exact m1 k hk
  · rw [gs_nE] at he
    rw [gI_sI, if_neg (by omega), gs_eS]
    exact m2 e he
  · rw [gs_nL] at hm
    rw [gI_sI]
    by_cases q : 7 * m + j = 7 * l + 1
    · rw [if_pos ⟨rfl, rfl, q⟩, q]
      show nI g = nI (if _ then _ else _)
      rw [if_pos ⟨rfl, rfl⟩]
    · rw [if_neg (by omega), gs_ne (by omega)]
      exact m3 m hm j hj
  · rw [gs_nL] at hm
    rw [gs_rc] at hi
    have hr := (h.V.2.2.2.2.2.2.2.2 m hm).2.2.2.2.2.2.1
    rw [gI_sI, if_neg (by omega), gs_re m (by omega)]
    exact m4 m hm i hi
  · rw [gs_nL]; exact h.2.2.1
  · rw [gI_sI, if_neg (by omega)]; exact h.2.2.2
end Gs
theorem sI_sI (σ : Hp) (n i k : Nat) (v w : Int32) : sI (sI σ n i k v) n i k w = sI σ n i k w := by
  refine Prod.ext ?_ rfl
  funext a b c
  show (if a = n ∧ b = i ∧ c = k then w else if a = n ∧ b = i ∧ c = k then v else σ.1 a b c) = if a = n ∧ b = i ∧ c = k then w else σ.1 a b c
  by_cases h : a = n ∧ b = i ∧ c = k
  · rw [if_pos h, if_pos h]
  · rw [if_neg h, if_neg h, if_neg h]
theorem sI_id (σ : Hp) (n i k : Nat) : sI σ n i k (gI σ n i k) = σ := by
  refine Prod.ext ?_ rfl
  funext a b c
  show (if a = n ∧ b = i ∧ c = k then σ.1 n i k else σ.1 a b c) = σ.1 a b c
  by_cases h : a = n ∧ b = i ∧ c = k
  · rw [if_pos h, h.1, h.2.1, h.2.2]
  · rw [if_neg h]
def UB (σ : Hp) (P : Nat) (p : PD) : Prop := ∀ l pt, l < nL p → pt < 16 → (bitI (gI σ 49 P pt) l ↔ on p l pt)
section LoadC
variable {σ : Hp} {p : PD} {P : Nat} {Q : Int32 → Hp → Prop}
theorem c_uses {l pt : Nat} (hU : UB σ P p) (hl : l < nL p) (hpt : pt < 16) (h1 : on p l pt → Q 1 σ) (h0 : ¬ on p l pt → Q 0 σ) : S_X6_uses P (nI l) (nI pt) σ Q := by
  unfold S_X6_uses
  rw [ix_nI (by omega)]
  exact ⟨vp_in_nI hpt (by decide), fun q => h0 (fun o => q ((hU l pt hl hpt).mpr o)), fun q => h1 ((hU l pt hl hpt).mp q)⟩
theorem c_loadWith {pt : Nat} {x2 x3 : Int32} (gf : Nat → Nat) (hV : PV p) (hX : PX σ P p) (hU : UB σ P p) (hpt : pt < 16) (hg : ∀ m, m < nL p → 8 ≤ gf m ∧ gf m ≤ 256) (hc : ∀ m, m < nL p → nI m = x2 → x3 = nI (gf m)) (hn : ∀ m, m < nL p → ¬ nI m = x2 → gf m = gp p m) (k : Q (nI (smN (fun m => cif (on p m pt) (ln p m * (256 / gf m)) 0) (nL p))) σ) : S_X1_loadWith P (nI pt) x2 x3 σ Q := by
  have h8 := hV.2.2.2.2.2.2.1
  have go : ∀ j m, m + j = nL p → L_X1_loadWith_6 Q (fun w5 σ4 => Q w5 σ4) P (nI pt) x2 x3 (j + 1) (nI (smN (fun m => cif (on p m pt) (ln p m * (256 / gf m)) 0) m)) (nI m) σ := by
    intro j
    induction j with
    | zero =>
      intro m hm
      have : m = nL p := by omega
      subst this
      unfold L_X1_loadWith_6
      rw [hX.2.2.2.2.2.2.1]
      exact ⟨fun _ => k, fun q => absurd (nI_le (Nat.le_refl (nL p)) (by omega)) q⟩
    | succ j ih =>
      intro m hm
      have hm' : m < nL p := by omega
      have this := ih (m + 1) (by omega)
      rw [smN_succ] at this
      have hx := hX.2.2.2.2.2.2.2.2.1 m hm'
      have hLV := hV.2.2.2.2.2.2.2.2 m hm'
      obtain ⟨g8, g256⟩ := hg m hm'
      have st : ∀ z : Int32, z = nI (gf m) → J_X1_loadWith_32 Q (L_X1_loadWith_6 Q (fun w5 σ4 => Q w5 σ4) P (nI pt) x2 x3 (j + 1)) (fun w5 σ4 => Q w5 σ4) P (nI pt) x2 x3 (nI (smN (fun m => cif (on p m pt) (ln p m * (256 / gf m)) 0) m)) (nI m) z σ := by
        intro z hz
        subst hz
        unfold J_X1_loadWith_32
        refine c_uses hU hm' hpt (fun o => b1' ?_) (fun o => b0' ?_)
        · rw [cif_pos o] at this
          unfold J_X1_loadWith_71
          rw [show (0 : Int32) = nI 0 from rfl, le_nI (by omega) (by decide), eq_nI (by omega) (by decide), ix_nI (by omega), hx.2.2.1, show (256 : Int32) = nI 256 from rfl, div_nI (by decide) (by omega) (by omega), mul_nI, add_nI, show nI m + 1 = nI (m + 1) from add_nI m 1]
          exact ⟨fun q => by omega, fun _ => ⟨vp_in_nI (by omega) (by decide), by omega, this⟩⟩
        · rw [cif_neg o, Nat.add_zero] at this
          unfold J_X1_loadWith_71
          rw [show nI m + 1 = nI (m + 1) from add_nI m 1]
          exact this
      unfold L_X1_loadWith_6
      rw [hX.2.2.2.2.2.2.1, le_nI (by omega) (by omega), ix_nI (by omega), hx.2.1]
      refine ⟨fun q => by omega, fun _ => ⟨fun q => ⟨vp_in_nI (by omega) (by decide), st _ (by rw [hn m hm' q])⟩, fun q => st _ (hc m hm' q)⟩⟩
  exact ⟨nL p + 1, go (nL p) 0 (by omega)⟩
theorem gs_ld_le (hV : PV p) {l g : Nat} (hg : 8 ≤ g) (pt : Nat) : ldN (gsP p l g) pt ≤ 10240 := by
  have hn8 := hV.2.2.2.2.2.2.1
  rw [gs_ld hV]
  have h2 := smN_le (f := fun m => cif (on p m pt) (ln p m * (256 / (if m = l then g else gp p m))) 0) (B := 1280) (nL p) (fun m hm => cif_le (fun _ => by
    have hLV := hV.2.2.2.2.2.2.2.2 m hm
    have h8 : 8 ≤ (if m = l then g else gp p m) := by
      split
      · exact hg
      · exact (gap_256 hLV.2.1).2.1
    have h1 := Nat.mul_le_mul hLV.2.2.2.1 (Nat.div_le_div_left (a := 256) h8 (by decide))
    omega))
  exact Nat.le_trans h2 (Nat.le_trans (Nat.mul_le_mul_right _ hn8) (Nat.le_of_ble_eq_true rfl))
theorem c_bears {l g : Nat} (hV : PV p) (hX : PX σ P p) (hU : UB σ P p) (hl : l < nL p) (hg : 8 ≤ g ∧ g ≤ 256) (h1 : (∀ pt, pt < 16 → ldN (gsP p l g) pt ≤ 256) → Q 1 σ) (h0 : (∃ pt, pt < 16 ∧ 256 < ldN (gsP p l g) pt) → Q 0 σ) : S_X1_bears P (nI l) (nI g) σ Q := by
  have h8 := hV.2.2.2.2.2.2.1
  have go : ∀ j m, m + j = 16 → (∀ pt, pt < m → ldN (gsP p l g) pt ≤ 256) → L_X1_bears_2 Q (fun σ4 => Q 1 σ4) (fun σ5 => Q 0 σ5) P (nI l) (nI g) (j + 1) (nI m) σ := by
    intro j
    induction j with
    | zero =>
      intro m hm hb
      have : m = 16 := by omega
      subst this
      exact ⟨fun _ => h1 hb, fun q => absurd (nI_le (Nat.le_refl 16) (by decide)) q⟩
    | succ j ih =>
      intro m hm hb
      unfold L_X1_bears_2
      rw [show (16 : Int32) = nI 16 from rfl, le_nI (by omega) (by omega)]
      refine ⟨fun q => by omega, fun _ => c_loadWith (fun m => if m = l then g else gp p m) hV hX hU (by omega) (fun k hk => ?_) (fun k hk e => ?_) (fun k hk e => ?_) ?_⟩
      · split
        · exact hg
        · exact (gap_256 (hV.2.2.2.2.2.2.2.2 k hk).2.1).2
      · rw [if_pos (nI_inj31 (by omega) (by omega) e)]
      · rw [if_neg (fun q => e (by rw [q]))]
      · have hle := gs_ld_le hV hg.1 (l := l) m
        rw [← gs_ld hV, show (256 : Int32) = nI 256 from rfl, le_nI (by omega) (by decide), show nI m + 1 = nI (m + 1) from add_nI m 1]
        refine ⟨fun q => ih (m + 1) (by omega) (fun pt hpt => ?_), fun q => h0 ⟨m, by omega, by omega⟩⟩
        rcases Nat.lt_or_ge pt m with a | a
        · exact hb pt a
        · rw [show pt = m by omega]
          exact q
  exact ⟨17, go 16 0 (by omega) (fun pt hpt => by omega)⟩
end LoadC
def lgOk (p : PD) (l g : Nat) : Prop := ln p l ≤ g ∧ ∀ pt, pt < 16 → ldN (gsP p l g) pt ≤ 256
noncomputable def lgF (p : PD) (l : Nat) : Nat → Int32
  | 0 => -2
  | m + 1 => cif (lgOk p l (256 / 2 ^ m)) (nI (256 / 2 ^ m)) (lgF p l m)
theorem lgF_succ (p : PD) (l m : Nat) : lgF p l (m + 1) = cif (lgOk p l (256 / 2 ^ m)) (nI (256 / 2 ^ m)) (lgF p l m) := rfl
theorem gq_a : ∀ m, m < 6 → nI (256 / 2 ^ m) / 2 = nI (256 / 2 ^ (m + 1)) ∧ ¬ nI (256 / 2 ^ m) < 8 ∧ ¬ (256 : Int32) < nI (256 / 2 ^ m) ∧ nI (256 / 2 ^ m) * 2 = nI (512 / 2 ^ m) ∧ 512 / 2 ^ (m + 1) = 256 / 2 ^ m := by decide +kernel
theorem gq_g {m : Nat} (h : m < 6) : isGap (256 / 2 ^ m) := by
  have : m = 0 ∨ m = 1 ∨ m = 2 ∨ m = 3 ∨ m = 4 ∨ m = 5 := by omega
  rcases this with h | h | h | h | h | h <;> subst h
  · exact Or.inr (Or.inr (Or.inr (Or.inr (Or.inr rfl))))
  · exact Or.inr (Or.inr (Or.inr (Or.inr (Or.inl rfl))))
  · exact Or.inr (Or.inr (Or.inr (Or.inl rfl)))
  · exact Or.inr (Or.inr (Or.inl rfl))
  · exact Or.inr (Or.inl rfl)
  · exact Or.inl rfl
section LeastGap
variable {n : Nat} {σ : Hp} {p : PD} {P : Nat} {Q : Int32 → Hp → Prop}
theorem c_leastGap {l : Nat} (hq : RQ n σ p P) (hl : l < nL p) (k : Q (lgF p l 6) σ) : S_X1_leastGapFor P (nI l) σ Q := by
  have hL : 0 < nL p := by omega
  have hU : UB σ P p := (hq.W hL).2.2.1.1
  have hx := hq.X.2.2.2.2.2.2.2.2.1 l hl
  have h8 := hq.nL8
  have h40 := (hq.V.2.2.2.2.2.2.2.2 l hl).2.2.2.1
  have go : ∀ m, m ≤ 6 → Q (lgF p l m) σ → L_X1_leastGapFor_3 Q (fun σ4 => Q (-2) σ4) (fun w6 σ5 => Q w6 σ5) P (nI l) (m + 1) (nI (512 / 2 ^ m)) σ := by
    intro m
    induction m with
    | zero =>
      intro _ hQ
      exact ⟨fun _ => hQ, fun q => absurd (by decide +kernel) q⟩
    | succ m ih =>
      intro hm hQ
      obtain ⟨a1, a2, a3, a4, a5⟩ := gq_a m (by omega)
      have hg := gap_256 (gq_g (show m < 6 by omega))
      rw [lgF_succ] at hQ
      rw [a5]
      unfold L_X1_leastGapFor_3 J_X1_leastGapFor_31
      rw [ix_nI (by omega), hx.2.2.1, lt_nI (a := 256 / 2 ^ m) (b := ln p l) (by omega) (by omega), a4]
      refine ⟨fun q => absurd q a3, fun _ => ⟨vp_in_nI (by omega) (by decide), fun q => ?_, fun q => ?_⟩⟩
      · rw [cif_neg (fun o => by have := o.1; omega)] at hQ
        exact ih (by omega) hQ
      · refine c_bears hq.V hq.X hU hl hg.2 (fun o => b1' ?_) (fun o => b0' ?_)
        · rw [cif_pos ⟨by omega, o⟩] at hQ
          exact hQ
        · rw [cif_neg (fun c => by obtain ⟨pt, o1, o2⟩ := o; have := c.2 pt o1; omega)] at hQ
          exact ih (by omega) hQ
  exact ⟨7, go 6 (Nat.le_refl 6) k⟩
theorem m_leastGap {l : Nat} {K : Int32 → Hp → Prop} (hq : RM σ p) (hl : l < nL p) (k : ∀ σc, (∀ v, sI σc 57 0 (7 * l + 1) v = sI σ 57 0 (7 * l + 1) v) → K (lgF p l 6) σc) : ∃ m, L_X8_leastGap_33 Q K (nI l) (nI (gp p l)) m (-2) 256 σ := by
  have h8 := hq.nL8
  have h40 := (hq.V.2.2.2.2.2.2.2.2 l hl).2.2.2.1
  have go : ∀ j m σc, m + j = 6 → (∀ v, sI σc 57 0 (7 * l + 1) v = sI σ 57 0 (7 * l + 1) v) → L_X8_leastGap_33 Q K (nI l) (nI (gp p l)) (j + 1) (lgF p l m) (nI (256 / 2 ^ m)) σc := by
    intro j
    induction j with
    | zero =>
      intro m σc hm hc
      have : m = 6 := by omega
      subst this
      exact ⟨fun _ => k σc hc, fun q => absurd (by decide +kernel) q⟩
    | succ j ih =>
      intro m σc hm hc
      obtain ⟨a1, a2, a3, a4, a5⟩ := gq_a m (by omega)
      have hg := gap_256 (gq_g (show m < 6 by omega))
      have nx : ∀ z, z = lgF p l (m + 1) → J_X8_leastGap_77 Q (L_X8_leastGap_33 Q K (nI l) (nI (gp p l)) (j + 1)) K (nI l) (nI (gp p l)) (nI (256 / 2 ^ m)) z (sI σ 57 0 (7 * l + 1) (nI (256 / 2 ^ m))) := by
        intro z hz
        subst hz
        unfold J_X8_leastGap_77
        rw [a1]
        exact ih (m + 1) _ (by omega) (fun v => sI_sI _ _ _ _ _ _)
      unfold L_X8_leastGap_33 J_X8_leastGap_76
      rw [show (7 : Int32) = nI 7 from rfl, show (1 : Int32) = nI 1 from rfl, mul_nI, add_nI, ix_nI (by omega)]
      refine ⟨fun q => absurd q a2, fun _ => ⟨vp_in_nI (by omega) (by decide), ?_⟩⟩
      rintro _ rfl
      rw [hc]
      have e2 : ∀ R : Int32 → Hp → Prop, R (nI (ln p l)) (sI σ 57 0 (7 * l + 1) (nI (256 / 2 ^ m))) → S_X8_linkOf (nI l) 2 (sI σ 57 0 (7 * l + 1) (nI (256 / 2 ^ m))) R := by
        intro R hR
        unfold S_X8_linkOf
        rw [show (7 : Int32) = nI 7 from rfl, show (2 : Int32) = nI 2 from rfl, mul_nI, add_nI, ix_nI (by omega), gI_sI, if_neg (by omega), hq.M.2.2.1 l hl 2 (by decide)]
        exact ⟨vp_in_nI (by omega) (by decide), hR⟩
      refine e2 _ ?_
      rw [lt_nI (a := 256 / 2 ^ m) (b := ln p l) (by omega) (by omega)]
      refine ⟨fun q => nx _ ?_, fun q => ?_⟩
      · rw [lgF_succ, cif_neg (fun o => by have := o.1; omega)]
      · refine mm_isBorne (gs_RM hq hl (gq_g (by omega)) (by omega)) (fun o => b1' (nx _ ?_)) (fun o => b0' (nx _ ?_))
        · rw [lgF_succ, cif_pos ⟨by omega, o⟩]
        · rw [lgF_succ, cif_neg (fun c => by obtain ⟨pt, o1, o2⟩ := o; have := c.2 pt o1; omega)]
  exact ⟨7, go 6 0 σ (by omega) (fun _ => rfl)⟩
theorem k_leastGap {x : Int32} (h : RR n σ) : S_X7_leastGap x σ (fun r σ1 => S_X8_leastGap x σ1 (fun r' σ2 => r = r' ∧ RR (n + 1) σ2)) := by
  obtain ⟨⟨p, P, hq⟩, hT⟩ := h
  have h8 := hq.nL8
  unfold S_X7_leastGap
  rw [hq.g0]
  refine ⟨hq.P2, c_hasLink hq (fun l hl e => b1 ?_) (fun q => b0 ?_)⟩
  · subst e
    rw [hq.g0]
    refine ⟨hq.P2, c_leastGap hq hl ?_⟩
    rintro _ rfl
    unfold S_X8_leastGap
    have hL : 0 < nL p := by omega
    have hm := (hq.pr 0).rm hL
    refine fresh_pre (m_isLink (hq.pr 0) (fun l' a b => b1 ?_) (fun q => absurd ⟨l, hl, rfl⟩ q))
    refine m_lnk (j := 1) (hq.pr 0) hl (by decide) ?_
    refine m_leastGap hm hl (fun σc hc => ⟨?_, ?_⟩)
    · rw [show (7 : Int32) = nI 7 from rfl, show (1 : Int32) = nI 1 from rfl, mul_nI, add_nI]
      exact vp_in_nI (by omega) (by decide)
    · rintro _ rfl
      rw [show (7 : Int32) = nI 7 from rfl, show (1 : Int32) = nI 1 from rfl, mul_nI, add_nI, ix_nI (by omega), hc, ← hm.M.2.2.1 l hl 1 (by decide), sI_id]
      exact ⟨rfl, hq.ans hT⟩
  · rintro _ rfl
    unfold S_X8_leastGap
    exact fresh_pre (m_isLink (hq.pr 1) (fun l' a b => absurd ⟨l', a, b⟩ q) (fun _ => b0 (kR hq hT n14)))
end LeastGap
