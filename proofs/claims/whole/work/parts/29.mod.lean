section ModOps4
variable {σ : Hp} {p : PD} {r : Nat → Int32} {tk c0 : Int32} {s : SD}
/-- the shift of a port's frames, as far as place k of its 3 * 12 numbers -/
def popP (q k : Nat) (s : SD) : SD := fun f x => if (f = 34 ∨ f = 35 ∨ f = 36) ∧ x / 12 = q ∧ 3 * (x % 12) + (f - 34) < k then s f (x + 1) else s f x
theorem popP_at (q k : Nat) (s : SD) (f x : Nat) : popP q k s f x = if (f = 34 ∨ f = 35 ∨ f = 36) ∧ x / 12 = q ∧ 3 * (x % 12) + (f - 34) < k then s f (x + 1) else s f x := rfl
theorem popP_0 (q : Nat) (s : SD) : popP q 0 s = s := by
  funext f x
  rw [popP_at, if_neg (by omega)]
theorem popP_step {q i d : Nat} (hd : d < 3) (hi : i < 12) (s : SD) : u (popP q (3 * i + d) s) (34 + d) (12 * q + i) (s (34 + d) (12 * q + i + 1)) = popP q (3 * i + d + 1) s := by
  funext f x
  rw [u_at, popP_at, popP_at]
  by_cases h1 : f = 34 + d ∧ x = 12 * q + i
  · obtain ⟨rfl, rfl⟩ := h1
    rw [if_pos ⟨rfl, rfl⟩, if_pos ⟨by omega, by omega, by omega⟩]
  · rw [if_neg h1]
    by_cases h2 : (f = 34 ∨ f = 35 ∨ f = 36) ∧ x / 12 = q ∧ 3 * (x % 12) + (f - 34) < 3 * i + d
    · rw [if_pos h2, if_pos ⟨h2.1, h2.2.1, by omega⟩]
    · rw [if_neg h2, if_neg (by omega)]
theorem pop_eq {q c : Nat} (hc : s 30 q = nI c) (hc0 : 0 < c) (hc2 : c < 2 ^ 31) : popP q (3 * (c - 1)) (u (u s 30 q (nI (c - 1))) 32 q (-2)) = tPop q s := by
  funext f x
  rw [popP_at]
  unfold tPop
  rw [hc, ix_nI hc2, show nI c - 1 = nI (c - 1) from sub_nI hc0]
  by_cases h1 : f = 30 ∧ x = q
  · obtain ⟨rfl, rfl⟩ := h1
    rw [if_neg (by omega), if_pos ⟨rfl, rfl⟩, u_nf _ _ (by decide), u_self]
  · by_cases h2 : f = 32 ∧ x = q
    · obtain ⟨rfl, rfl⟩ := h2
      rw [if_neg (by omega), if_neg (by omega), if_pos ⟨rfl, rfl⟩, u_self]
    · by_cases h3 : (f = 34 ∨ f = 35 ∨ f = 36) ∧ x / 12 = q ∧ x % 12 + 1 < c
      · rw [if_pos ⟨h3.1, h3.2.1, by omega⟩, if_neg h1, if_neg h2, if_pos h3, u_nf _ _ (by omega), u_nf _ _ (by omega)]
      · rw [if_neg (by omega), if_neg h1, if_neg h2, if_neg h3]
        rw [u_at, if_neg h2, u_at, if_neg h1]
theorem m_popL {q c : Nat} {a b d e f : Int32} {Q K : Hp → Prop} (hq : q < 32) (hE : EM r tk c0 s) (hc : s 30 q = nI c) (hc2 : c < 12) (hK : ∀ r', EM r' tk c0 (popP q (3 * c) s) → K (stM σ r' tk)) : ∃ m, L_X8_leaves_65 Q K a b (nI (81 + 39 * q)) d e f m (nI 0) (stM σ r tk) := by
  have cnt : ∀ r' k, EM r' tk c0 (popP q k s) → r' (81 + 39 * q) = nI c := by
    intro r' k h
    refine (h.1 30 q hq).trans ?_
    rw [popP_at, if_neg (by omega)]
    exact hc
  have i0 := i_at (a := 81 + 39 * q) (d := 0) (x := 81 + 39 * q) rfl (by omega) (e := 0) rfl
  refine pk_loop (fun m j σ' => L_X8_leaves_65 Q K a b (nI (81 + 39 * q)) d e f m (nI j) σ') (fun j σ' => ∃ r', σ' = stM σ r' tk ∧ EM r' tk c0 (popP q j s)) (3 * c) 0 _ (Nat.zero_le _) ⟨r, rfl, by rw [popP_0]; exact hE⟩ ?_ ?_
  · rintro m σ' ⟨r', rfl, hE'⟩
    unfold L_X8_leaves_65
    rw [i0.2, gM61, cnt r' _ hE', show (3 : Int32) = nI 3 from rfl, mul_nI]
    exact ⟨i0.1, fun _ => hK r' hE', fun q => absurd (nI_le (Nat.le_refl _) (by omega)) q⟩
  · rintro m j σ' hj ⟨r', rfl, hE'⟩ ih
    unfold L_X8_leaves_65
    rw [i0.2, gM61, cnt r' _ hE', show (3 : Int32) = nI 3 from rfl, mul_nI]
    have e1 : (nI (81 + 39 * q) + nI 3) + nI j = nI (84 + 39 * q + j) := by
      rw [add_nI, add_nI]; exact congrArg nI (by omega)
    have e2 : nI (84 + 39 * q + j) + nI 3 = nI (87 + 39 * q + j) := by
      rw [add_nI]; exact congrArg nI (by omega)
    rw [e1, e2]
    refine ⟨i0.1, fun q => absurd q (nI_ge hj (by omega)), fun _ => ⟨vp_in_nI (by omega) (by decide), vp_in_nI (by omega) (by decide), fun σ5 h5 => ?_⟩⟩
    subst h5
    rw [ix_nI (by omega), ix_nI (by omega), gM61, sM61, nI_1]
    obtain ⟨i, dd, hi, hd, rfl⟩ : ∃ i dd, i < 11 ∧ dd < 3 ∧ j = 3 * i + dd := ⟨j / 3, j % 3, by omega, by omega, by omega⟩
    refine ih _ ⟨_, rfl, ?_⟩
    rw [← popP_step hd (by omega)]
    have hv : r' (87 + 39 * q + (3 * i + dd)) = s (34 + dd) (12 * q + i + 1) := by
      have g : ∀ ff, ff = 34 + dd → r' (mi ff (12 * q + i + 1)) = s ff (12 * q + i + 1) := by
        intro ff hff
        refine (hE'.1 ff (12 * q + i + 1) ?_).trans ?_
        · have : vlen ff = 384 := by
            rcases (by omega : dd = 0 ∨ dd = 1 ∨ dd = 2) with z | z | z <;> (subst z; subst hff; rfl)
          omega
        · rw [popP_at, if_neg (by omega)]
      rcases (by omega : dd = 0 ∨ dd = 1 ∨ dd = 2) with z | z | z
      · subst z
        rw [← g 34 rfl]
        refine congrArg r' ?_
        show _ = 81 + 39 * ((12 * q + i + 1) / 12) + 3 + 3 * ((12 * q + i + 1) % 12)
        omega
      · subst z
        rw [← g 35 rfl]
        refine congrArg r' ?_
        show _ = 81 + 39 * ((12 * q + i + 1) / 12) + 3 + 3 * ((12 * q + i + 1) % 12) + 1
        omega
      · subst z
        rw [← g 36 rfl]
        refine congrArg r' ?_
        show _ = 81 + 39 * ((12 * q + i + 1) / 12) + 3 + 3 * ((12 * q + i + 1) % 12) + 2
        omega
    rw [hv]
    rcases (by omega : dd = 0 ∨ dd = 1 ∨ dd = 2) with z | z | z
    · subst z
      refine hE'.set (f := 34) (k := 12 * q + i) (by show _ < 384; omega) ?_ _
      show _ = 81 + 39 * ((12 * q + i) / 12) + 3 + 3 * ((12 * q + i) % 12)
      omega
    · subst z
      refine hE'.set (f := 35) (k := 12 * q + i) (by show _ < 384; omega) ?_ _
      show _ = 81 + 39 * ((12 * q + i) / 12) + 3 + 3 * ((12 * q + i) % 12) + 1
      omega
    · subst z
      refine hE'.set (f := 36) (k := 12 * q + i) (by show _ < 384; omega) ?_ _
      show _ = 81 + 39 * ((12 * q + i) / 12) + 3 + 3 * ((12 * q + i) % 12) + 2
      omega
theorem m_leave {t : Nat} {lo : Nat → Nat} {b : Nat} {net pt c : Nat} {Q : Hp → Prop} (hV : PV p) (hP : PM σ p) (ht : t < 2 ^ 30) (hI : Inv p t lo b s) (hE : EM r tk c0 s) (hnet : net < 2) (hpt : pt < 16) (hc : s 30 (16 * net + pt) = nI c) (hc0 : 0 < c) (hcr : c ≤ pRoom p)
    (k : ∀ r' tk', EM r' tk' c0 (tLeave p (16 * net + pt) s) → Q (stM σ r' tk')) : S_X8_leaves (nI net) (nI pt) (stM σ r tk) Q := by
  have hr := hV.2.1
  have hL := hV.2.2.2.2.2.2.1
  have hE6 := hV.2.2.2.2.2.1
  obtain ⟨q, hq⟩ : ∃ q, q = 16 * net + pt := ⟨_, rfl⟩
  have hq32 : q < 32 := by omega
  have d1 : q / 16 = net := by omega
  have d2 : q % 16 = pt := by omega
  rw [← hq] at hc k
  obtain ⟨c', h1, h2, h3, h4⟩ := hI.2.1 q hq32
  have hcc : c' = c := by
    rw [hc, eq_nI (by omega) (by omega)] at h2
    exact h2.symm
  subst hcc
  obtain ⟨l, n, bo, g1, g2, g3, g4, g5, g6, g7⟩ := h3 0 hc0
  rw [Nat.add_zero] at g4 g5 g6
  rw [d2] at g7
  have hPop : Inv p t lo b (tPop q s) := inv_pop hV hI hq32 hc hc0 (by omega) (fun _ _ => rfl)
  unfold tLeave at k
  rw [g4, g5, g6, ix_nI (by omega), d1, d2] at k
  have v34 : r (81 + 39 * q + 3) = nI l := by
    rw [← g4, ← hE.1 34 (12 * q) (by show _ < 384; omega)]
    refine congrArg r ?_
    show _ = 81 + 39 * (12 * q / 12) + 3 + 3 * (12 * q % 12)
    omega
  have v35 : r (81 + 39 * q + 3 + 1) = nI n := by
    rw [← g5, ← hE.1 35 (12 * q) (by show _ < 384; omega)]
    refine congrArg r ?_
    show _ = 81 + 39 * (12 * q / 12) + 3 + 3 * (12 * q % 12) + 1
    omega
  have v36 : r (81 + 39 * q + 3 + 2) = nI bo := by
    rw [← g6, ← hE.1 36 (12 * q) (by show _ < 384; omega)]
    refine congrArg r ?_
    show _ = 81 + 39 * (12 * q / 12) + 3 + 3 * (12 * q % 12) + 2
    omega
  have v30 : r (81 + 39 * q) = nI c' := (hE.1 30 q hq32).trans hc
  have i0 := i_at (a := 81 + 39 * q) (d := 0) (x := 81 + 39 * q) rfl (by omega) (e := 0) rfl
  have i1 := i_at (a := 81 + 39 * q) (d := 1) (x := 81 + 39 * q + 1) rfl (by omega) (e := 1) rfl
  have i3 := i_at (a := 81 + 39 * q) (d := 3) (x := 81 + 39 * q + 3) rfl (by omega) (e := 3) rfl
  have j1 : vp_in ((nI (81 + 39 * q) + 3) + 1) 1809 ∧ ix ((nI (81 + 39 * q) + 3) + 1) = 81 + 39 * q + 3 + 1 := by
    rw [show nI (81 + 39 * q) + 3 = nI (81 + 39 * q + 3) from add_nI _ 3]
    exact i_at (d := 1) rfl (by omega) rfl
  have j2 : vp_in ((nI (81 + 39 * q) + 3) + 2) 1809 ∧ ix ((nI (81 + 39 * q) + 3) + 2) = 81 + 39 * q + 3 + 2 := by
    rw [show nI (81 + 39 * q) + 3 = nI (81 + 39 * q + 3) from add_nI _ 3]
    exact i_at (d := 2) rfl (by omega) rfl
  have ea : (81 + (39 * ((16 * nI net) + nI pt)) : Int32) = nI (81 + 39 * q) := by
    simp only [litI, mul_nI, add_nI, ← hq]
  unfold S_X8_leaves S_X8_portAt
  rw [ea]
  refine ⟨i3.1, j1.1, j2.1, i0.1, i0.1, fun σ3 e3 => ⟨i1.1, fun σ4 e4 => ?_⟩⟩
  rw [i0.2, gM61, v30, sM61, show nI c' - 1 = nI (c' - 1) from sub_nI hc0] at e3
  subst e3
  rw [i1.2, sM61] at e4
  subst e4
  rw [i3.2, j1.2, j2.2, gM61, gM61, gM61, v34, v35, v36]
  have hE2 := (hE.set (f := 30) (k := q) hq32 (x := 81 + 39 * q) rfl (nI (c' - 1))).set (f := 32) (k := q) hq32 (x := 81 + 39 * q + 1) rfl (-2)
  refine m_popL hq32 hE2 (c := c' - 1) (by rw [u_nf _ _ (by decide), u_self]) (by omega) (fun r' hE' => ?_)
  rw [pop_eq hc hc0 (by omega)] at hE'
  refine s_in ?_
  by_cases hx : 6 ≤ pt ∧ pt < 12
  · rw [if_pos hx] at k
    rw [if_neg (by simp (disch := omega) only [litI, lt_nI]; omega), if_neg (by simp (disch := omega) only [litI, lt_nI]; omega)]
    refine ⟨fun z => absurd z (by decide), fun _ => ?_⟩
    have he : on p l (6 + (pt - 6)) := by
      rw [show 6 + (pt - 6) = pt by omega]; exact g7
    obtain ⟨i, hi, hre⟩ := on_end (hV.2.2.2.2.2.2.2.2 l g1) (by omega) hE6 hV.2.2.2.2.2.2.2.1 hV.1 he
    rw [rIx_of (hV.2.2.2.2.2.2.2.2 l g1) hi hre] at k
    rw [show nI pt - 6 = nI (pt - 6) from sub_nI hx.1, ← hre]
    exact m_hear (t := t) (b := b) (lo := lo) (n := n) hV hP hE' g1 hi hnet k
  · rw [if_neg hx] at k
    have : (if nI pt < 6 then (0 : Int32) else if (11 : Int32) < nI pt then 0 else 1) = 0 := by
      by_cases z : pt < 6
      · rw [if_pos (by simp (disch := omega) only [litI, lt_nI]; omega)]
      · rw [if_neg (by simp (disch := omega) only [litI, lt_nI]; omega), if_pos (by simp (disch := omega) only [litI, lt_nI]; omega)]
    rw [this]
    refine ⟨fun _ => ?_, fun z => absurd rfl z⟩
    refine m_switch hV hP hPop hE' hnet (by omega) g1 g2 g3 g7 (fun r2 h2 => k r2 tk ?_)
    rw [← hq] at h2
    exact h2
theorem m_send {t b : Nat} {net pt : Nat} {Q : Hp → Prop} (hV : PV p) (hP : PM σ p) (ht : t < 2 ^ 30) (hI : Inv p t (fun _ => t + 1) b s) (hE : EM r tk c0 s) (hnet : net < 2) (hpt : pt < 16)
    (k : ∀ r', EM r' tk c0 (tSend p (16 * net + pt) s) → Q (stM σ r' tk)) : S_X8_sends (nI net) (nI pt) (stM σ r tk) Q := by
  have hr := hV.2.1
  have hL := hV.2.2.2.2.2.2.1
  obtain ⟨q, hq⟩ : ∃ q, q = 16 * net + pt := ⟨_, rfl⟩
  have hq32 : q < 32 := by omega
  have d2 : q % 16 = pt := by omega
  rw [← hq] at k
  obtain ⟨c, h1, h2, h3, h4⟩ := hI.2.1 q hq32
  have v30 : r (81 + 39 * q) = nI c := (hE.1 30 q hq32).trans h2
  have v32 : r (81 + 39 * q + 1) = s 32 q := hE.1 32 q hq32
  have v5 : r 0 = s 5 0 := hE.1 5 0 (by decide)
  have z0 : ix 0 = 0 := rfl
  have i0 := i_at (a := 81 + 39 * q) (d := 0) (x := 81 + 39 * q) rfl (by omega) (e := 0) rfl
  have i1 := i_at (a := 81 + 39 * q) (d := 1) (x := 81 + 39 * q + 1) rfl (by omega) (e := 1) rfl
  have i3 := i_at (a := 81 + 39 * q) (d := 3) (x := 81 + 39 * q + 3) rfl (by omega) (e := 3) rfl
  have j2 : vp_in ((nI (81 + 39 * q) + 3) + 2) 1809 ∧ ix ((nI (81 + 39 * q) + 3) + 2) = 81 + 39 * q + 3 + 2 := by
    rw [show nI (81 + 39 * q) + 3 = nI (81 + 39 * q + 3) from add_nI _ 3]
    exact i_at (d := 2) rfl (by omega) rfl
  have ea : (81 + (39 * ((16 * nI net) + nI pt)) : Int32) = nI (81 + 39 * q) := by
    simp only [litI, mul_nI, add_nI, ← hq]
  unfold tSend at k
  unfold S_X8_sends S_X8_portAt
  rw [ea]
  dsimp only
  rw [i1.2, gM61, v32]
  refine ⟨i1.1, fun hx => ?_, fun hx => ⟨i0.1, ?_⟩⟩
  · rw [if_neg hx] at k
    exact k r hE
  · rw [if_pos hx] at k
    rw [i0.2, gM61, v30]
    rw [h2] at k
    refine ⟨fun hy => ?_, fun hy => ?_⟩
    · rw [if_neg hy] at k
      have hc0 : 0 < c := by
        rcases Nat.eq_zero_or_pos c with z | z
        · exfalso; apply hy; rw [z]; rfl
        · exact z
      obtain ⟨l, n, bo, g1, g2, g3, g4, g5, g6, g7⟩ := h3 0 hc0
      rw [Nat.add_zero] at g4 g5 g6
      have v34 : r (81 + 39 * q + 3) = nI l := by
        rw [← g4, ← hE.1 34 (12 * q) (by show _ < 384; omega)]
        refine congrArg r ?_
        show _ = 81 + 39 * (12 * q / 12) + 3 + 3 * (12 * q % 12)
        omega
      rw [g4, ix_nI (by omega)] at k
      rw [i3.2, gM61, v34, z0, gM61, v5]
      refine ⟨i3.1, vp0, m_linkOf hV hP g1 rfl (j := 2) rfl (by decide) ⟨i1.1, fun σ5 e5 => ?_⟩⟩
      rw [sM61] at e5
      subst e5
      have hE1 : EM (upd r (81 + 39 * q + 1) (s 5 0 + nI (ln p l))) tk c0 (u s 32 q (s 5 0 + nI (ln p l))) := hE.set (f := 32) (k := q) hq32 (x := 81 + 39 * q + 1) rfl _
      have w5 : upd r (81 + 39 * q + 1) (s 5 0 + nI (ln p l)) 0 = s 5 0 := (hE1.1 5 0 (by decide)).trans (u_nf _ _ (by decide))
      have w36 : upd r (81 + 39 * q + 1) (s 5 0 + nI (ln p l)) (81 + 39 * q + 3 + 2) = s 36 (12 * q) := by
        refine Eq.trans ?_ ((hE1.1 36 (12 * q) (by show _ < 384; omega)).trans (u_nf _ _ (by decide)))
        refine congrArg (upd r (81 + 39 * q + 1) (s 5 0 + nI (ln p l))) ?_
        show _ = 81 + 39 * (12 * q / 12) + 3 + 3 * (12 * q % 12) + 2
        omega
      have w44 : upd r (81 + 39 * q + 1) (s 5 0 + nI (ln p l)) (1 + 5 * l + 4) = s 44 l := (hE1.1 44 l (by show l < 8; omega)).trans (u_nf _ _ (by decide))
      have e2 : nI (p 2 (7 * l + 2)) = nI (ln p l) := rfl
      rw [e2]
      rw [j2.2, gM61, gM61, w5, w36]
      refine ⟨vp0, j2.1, fun hz => ?_, fun hz => ?_⟩
      · simp (disch := omega) only [litI, le_nI] at hz
        unfold tWait at k
        rw [if_neg (by omega)] at k
        exact k _ hE1
      · simp (disch := omega) only [litI, le_nI] at hz
        unfold tWait at k
        rw [if_pos (by omega), u_nf (f := 32) _ _ (by decide), u_nf (f := 32) _ _ (by decide), u_nf (f := 32) _ _ (by decide)] at k
        unfold S_X8_linkAt
        have e4 : (1 + (5 * nI l)) + 4 = nI (1 + 5 * l + 4) := by simp only [litI, mul_nI, add_nI]
        rw [e4]
        dsimp only
        rw [ix_nI (by omega), gM61, w44]
        refine ⟨vp_in_nI (by omega) (by decide), fun hw => ?_, fun hw => ?_⟩
        · rw [if_pos hw] at k
          exact k _ hE1
        · rw [if_neg hw] at k
          refine ⟨vp_in_nI (by omega) (by decide), fun σ10 e10 => ?_⟩
          rw [sM61] at e10
          subst e10
          exact k _ (hE1.set (f := 44) (k := l) (by show l < 8; omega) rfl _)
    · rw [if_pos hy] at k
      exact k r hE
end ModOps4
