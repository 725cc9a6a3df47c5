/-! ===== a bus begins ===== -/
/-- so many links' waits and credits, ears and ports are made new -/
def sQN (p : PD) (lw le j : Nat) : SD := fun f k => if f = 32 then (if k < j then -2 else 0) else if f = 44 then (if k < lw then -2 else 0) else if f = 45 then (if k % 8 < lw then nI (cred p (k % 8)) else 0) else if 12 ≤ f ∧ f ≤ 16 then (if k < le then -2 else 0) else if f = 17 then (if k < 2 * le then -2 else 0) else 0
def s0N (p : PD) : SD := sQN p (nL p) (3 * nL p) 32
theorem sQ_z {p : PD} {lw le j f k : Nat} (h : f ≠ 32 ∧ f ≠ 44 ∧ f ≠ 45 ∧ (f < 12 ∨ 17 < f)) : sQN p lw le j f k = 0 := by
  unfold sQN
  rw [if_neg h.1, if_neg h.2.1, if_neg h.2.2.1, if_neg (by omega), if_neg (by omega)]
theorem sQ_32 {p : PD} {lw le j k : Nat} : sQN p lw le j 32 k = if k < j then -2 else 0 := rfl
theorem sQ_44 {p : PD} {lw le j k : Nat} : sQN p lw le j 44 k = if k < lw then -2 else 0 := rfl
theorem sQ_45 {p : PD} {lw le j k : Nat} : sQN p lw le j 45 k = if k % 8 < lw then nI (cred p (k % 8)) else 0 := rfl
theorem sQ_e {p : PD} {lw le j f k : Nat} (h : 12 ≤ f ∧ f ≤ 16) : sQN p lw le j f k = if k < le then -2 else 0 := by
  unfold sQN
  rw [if_neg (by omega), if_neg (by omega), if_neg (by omega), if_pos h]
theorem sQ_17 {p : PD} {lw le j k : Nat} : sQN p lw le j 17 k = if k < 2 * le then -2 else 0 := rfl
theorem s0_inv {p : PD} (hV : PV p) : Inv p 0 (fun _ => 0 + 1) 0 (s0N p) := by
  have h8 := hV.2.2.2.2.2.2.1
  refine ⟨sQ_z (by decide), fun q hq => ⟨0, Nat.zero_le _, sQ_z (by decide), fun i hi => by omega, Or.inl ?_⟩, fun l hl => ⟨⟨0, by decide, sQ_z (by decide)⟩, ⟨0, by omega, sQ_z (by decide)⟩, ⟨0, by decide, sQ_z (by decide)⟩, fun net hn => ⟨cred p l, Nat.le_refl _, ?_⟩⟩, fun l hl i hi => ?_⟩
  · show sQN p _ _ _ 32 q = -2
    rw [sQ_32, if_pos hq]
  · show sQN p _ _ _ 45 (8 * net + l) = _
    rw [sQ_45, show (8 * net + l) % 8 = l by omega, if_pos hl]
  · have hr := (hV.2.2.2.2.2.2.2.2 l hl).2.2.2.2.2.2.1
    refine ⟨⟨0, Nat.le_refl 0, sQ_z (by decide), fun _ => ⟨?_, ?_⟩, fun q => by omega⟩, fun net hn => Or.inl ?_⟩
    · show sQN p _ _ _ 15 _ = -2
      rw [sQ_e (by decide), if_pos (by omega)]
    · show sQN p _ _ _ 16 _ = -2
      rw [sQ_e (by decide), if_pos (by omega)]
    · show sQN p _ _ _ 17 _ = -2
      rw [sQ_17, if_pos (by omega)]
theorem s0_cs {p : PD} : ∀ m, cs (s0N p) m = 0
  | 0 => rfl
  | m + 1 => by
    show cs (s0N p) m + ix (s0N p 30 m) = 0
    rw [s0_cs m, show s0N p 30 m = 0 from sQ_z (by decide)]
    rfl
theorem ER.congr {r : Nat → Int32} {s s' : SD} (h : ER r s) (e : ∀ f k, k < vlen f → s f k = s' f k) : ER r s' := fun f k hk => (h f k hk).trans (e f k hk)
def hrP (e c : Nat) (s : SD) : SD := fun f k => if (12 ≤ f ∧ f ≤ 16 ∧ f < 9 + c ∧ k = e) ∨ (f = 17 ∧ 2 * e ≤ k ∧ k + 8 < 2 * e + c) then -2 else s f k
theorem hrP_u {e c f k : Nat} {s : SD} (h : (c < 8 ∧ 3 ≤ c ∧ f = 9 + c ∧ k = e) ∨ (8 ≤ c ∧ c < 10 ∧ f = 17 ∧ k = 2 * e + (c - 8))) (a b : Nat) : u (hrP e c s) f k (-2) a b = hrP e (c + 1) s a b := by
  rw [u_at]
  unfold hrP
  by_cases q : a = f ∧ b = k
  · rw [if_pos q, if_pos (by omega)]
  · rw [if_neg q]
    by_cases q2 : (12 ≤ a ∧ a ≤ 16 ∧ a < 9 + c ∧ b = e) ∨ (a = 17 ∧ 2 * e ≤ b ∧ b + 8 < 2 * e + c)
    · rw [if_pos q2, if_pos (by omega)]
    · rw [if_neg q2, if_neg (by omega)]
theorem h_set {r : Nat → Int32} {s : SD} {e c : Nat} (he : e < 24) (hc : 3 ≤ c ∧ c < 10) (h : ER r (hrP e c s)) : ER (upd r (1329 + 20 * e + c) (-2)) (hrP e (c + 1) s) := by
  have : c = 3 ∨ c = 4 ∨ c = 5 ∨ c = 6 ∨ c = 7 ∨ c = 8 ∨ c = 9 := by omega
  rcases this with q | q | q | q | q | q | q <;> subst q
  · exact (h.set (f := 12) (k := e) he rfl (-2)).congr (fun a b _ => hrP_u (by omega) a b)
  · exact (h.set (f := 13) (k := e) he rfl (-2)).congr (fun a b _ => hrP_u (by omega) a b)
  · exact (h.set (f := 14) (k := e) he rfl (-2)).congr (fun a b _ => hrP_u (by omega) a b)
  · exact (h.set (f := 15) (k := e) he rfl (-2)).congr (fun a b _ => hrP_u (by omega) a b)
  · exact (h.set (f := 16) (k := e) he rfl (-2)).congr (fun a b _ => hrP_u (by omega) a b)
  · exact (h.set (f := 17) (k := 2 * e + 0) (by show 2 * e + 0 < 48; omega) (by show _ = 1329 + 20 * ((2 * e + 0) / 2) + 8 + (2 * e + 0) % 2; omega) (-2)).congr (fun a b _ => hrP_u (by omega) a b)
  · exact (h.set (f := 17) (k := 2 * e + 1) (by show 2 * e + 1 < 48; omega) (by show _ = 1329 + 20 * ((2 * e + 1) / 2) + 8 + (2 * e + 1) % 2; omega) (-2)).congr (fun a b _ => hrP_u (by omega) a b)
section Begins
variable {σ : Hp} {p : PD} {tk : Int32} {Q : Hp → Prop}
theorem m_begins {r : Nat → Int32} (hV : PV p) (hP : PM σ p) (k : ∀ r', ER r' (s0N p) → Q (stM σ r' tk)) : S_X8_begins (stM σ r tk) Q := by
  have h8 := hV.2.2.2.2.2.2.1
  have e53 : ∀ (r : Nat → Int32) c, gI (stM σ r tk) 53 0 c = gI σ 53 0 c := fun r c => gM53 σ r tk 0 c
  have v6 : vp_in 6 7 := vp_in_nI (n := 6) (by decide) (by decide)
  -- ports
  have g3 : ∀ n j r, j + n = 32 → ER r (sQN p (nL p) (3 * nL p) j) → L_X8_begins_124 Q (fun σ24 => Q σ24) (n + 1) (nI j) (stM σ r tk) := by
    intro n
    induction n with
    | zero =>
      intro j r hj h
      have : j = 32 := by omega
      subst this
      exact ⟨fun _ => k r h, fun q => absurd (by decide) q⟩
    | succ n ih =>
      intro j r hj h
      unfold L_X8_begins_124
      rw [show (32 : Int32) = nI 32 from rfl, le_nI (by decide) (by omega), show (39 : Int32) = nI 39 from rfl, show (81 : Int32) = nI 81 from rfl, mul_nI, add_nI, show nI (81 + 39 * j) + 1 = nI (81 + 39 * j + 1) from add_nI _ 1, ix_nI (by omega)]
      refine ⟨fun q => by omega, fun _ => ⟨vp_in_nI (by omega) (by decide), ?_⟩⟩
      rintro _ rfl
      rw [sM61, show nI j + 1 = nI (j + 1) from add_nI j 1]
      refine ih (j + 1) _ (by omega) ((h.set (f := 32) (k := j) (show j < 32 by omega) rfl (-2)).congr (fun a b _ => ?_))
      rw [u_at]
      by_cases q : a = 32 ∧ b = j
      · rw [if_pos q, q.1, q.2, sQ_32, if_pos (by omega)]
      · rw [if_neg q]
        by_cases q2 : a = 32
        · subst q2
          rw [sQ_32, sQ_32]
          by_cases q3 : b < j
          · rw [if_pos q3, if_pos (by omega)]
          · rw [if_neg q3, if_neg (by omega)]
        · unfold sQN
          rw [if_neg q2, if_neg q2]
  -- an ear
  have g84 : ∀ (K : Hp → Prop) (l i : Nat), l < 8 → i < 3 → ∀ n c r s, c + n = 10 → 3 ≤ c → ER r (hrP (3 * l + i) c s) → (∀ r', ER r' (hrP (3 * l + i) 10 s) → K (stM σ r' tk)) → L_X8_begins_84 Q K (nI l) (nI i) (n + 1) (nI c) (stM σ r tk) := by
    intro K l i hl hi n
    induction n with
    | zero =>
      intro c r s hc h3 h hK
      have : c = 10 := by omega
      subst this
      exact ⟨fun _ => hK r h, fun q => absurd (by decide) q⟩
    | succ n ih =>
      intro c r s hc h3 h hK
      unfold L_X8_begins_84
      rw [show (10 : Int32) = nI 10 from rfl, le_nI (by decide) (by omega)]
      refine ⟨fun q => by omega, fun _ => ?_⟩
      unfold S_X8_hearAt
      dsimp only
      rw [show (3 : Int32) = nI 3 from rfl, show (20 : Int32) = nI 20 from rfl, show (1329 : Int32) = nI 1329 from rfl, mul_nI, add_nI, mul_nI, add_nI, add_nI, ix_nI (by omega)]
      refine ⟨vp_in_nI (by omega) (by decide), ?_⟩
      rintro _ rfl
      rw [sM61, show nI c + 1 = nI (c + 1) from add_nI c 1]
      exact ih (c + 1) _ s (by omega) (by omega) (h_set (by omega) (by omega) h) hK
  -- a link's ears
  have g77 : ∀ (K : Hp → Prop) (l : Nat), l < nL p → ∀ n i r, i + n = 3 → ER r (sQN p (l + 1) (3 * l + i) 0) → (∀ r', ER r' (sQN p (l + 1) (3 * (l + 1)) 0) → K (stM σ r' tk)) → L_X8_begins_77 Q K (nI l) (n + 1) (nI i) (stM σ r tk) := by
    intro K l hl n
    induction n with
    | zero =>
      intro i r hi h hK
      have : i = 3 := by omega
      subst this
      exact ⟨fun _ => hK r h, fun q => absurd (by decide) q⟩
    | succ n ih =>
      intro i r hi h hK
      unfold L_X8_begins_77
      rw [show (3 : Int32) = nI 3 from rfl, le_nI (by decide) (by omega)]
      refine ⟨fun q => by omega, fun _ => ⟨8, g84 _ l i (by omega) (by omega) 7 3 r (sQN p (l + 1) (3 * l + i) 0) (by omega) (by decide) (h.congr (fun a b _ => ?_)) (fun r' h' => ?_)⟩⟩
      · unfold hrP
        rw [if_neg (by omega)]
      · rw [show nI i + 1 = nI (i + 1) from add_nI i 1]
        refine ih (i + 1) r' (by omega) (h'.congr (fun a b _ => ?_)) hK
        unfold hrP
        by_cases q : 12 ≤ a ∧ a ≤ 16
        · rw [sQ_e q, sQ_e q]
          by_cases q2 : b = 3 * l + i
          · rw [if_pos (by omega), if_pos (by omega)]
          · rw [if_neg (by omega)]
            by_cases q3 : b < 3 * l + i
            · rw [if_pos q3, if_pos (by omega)]
            · rw [if_neg q3, if_neg (by omega)]
        · by_cases q4 : a = 17
          · subst q4
            rw [sQ_17, sQ_17]
            by_cases q2 : b < 2 * (3 * l + i)
            · rw [if_neg (by omega), if_pos q2, if_pos (by omega)]
            · by_cases q3 : b < 2 * (3 * l + i) + 2
              · rw [if_pos (by omega), if_pos (by omega)]
              · rw [if_neg (by omega), if_neg q2, if_neg (by omega)]
          · rw [if_neg (by omega)]
            unfold sQN
            rw [if_neg (c := 12 ≤ a ∧ a ≤ 16) q, if_neg (c := 12 ≤ a ∧ a ≤ 16) q, if_neg q4, if_neg q4]
  -- links
  have g2 : ∀ n l r, l + n = nL p → ER r (sQN p l (3 * l) 0) → L_X8_begins_24 Q (fun σ21 => (∃ n23, L_X8_begins_124 Q (fun σ24 => Q σ24) n23 0 σ21)) (n + 1) (nI l) (stM σ r tk) := by
    intro n
    induction n with
    | zero =>
      intro l r hl h
      have : l = nL p := by omega
      subst this
      unfold L_X8_begins_24
      rw [show ix 6 = 6 from rfl, e53, hP.1 6 (by decide), show p 0 6 = nL p from rfl, le_nI (by omega) (by omega)]
      exact ⟨v6, fun _ => ⟨33, g3 32 0 r (by omega) h⟩, fun q => absurd (Nat.le_refl _) q⟩
    | succ n ih =>
      intro l r hl h
      have hl' : l < nL p := by omega
      have cr : ∀ (r : Nat → Int32) (R : Int32 → Hp → Prop), R (nI (cred p l)) (stM σ r tk) → S_X8_mostCredit (nI l) (stM σ r tk) R := by
        intro r R hR
        unfold S_X8_mostCredit S_X8_linkOf
        dsimp only
        rw [show (7 : Int32) = nI 7 from rfl, mul_nI, show nI (7 * l) + 2 = nI (7 * l + 2) from add_nI _ 2, show nI (7 * l) + 1 = nI (7 * l + 1) from add_nI _ 1, ix_nI (by omega), ix_nI (by omega), gM57, gM57, hP.2.2.1 l hl' 2 (by decide), hP.2.2.1 l hl' 1 (by decide)]
        refine ⟨vp_in_nI (by omega) (by decide), vp_in_nI (by omega) (by decide), vp_in_nI (n := 2) (by decide) (by decide), ?_⟩
        rw [show ix 2 = 2 from rfl, e53, hP.1 2 (by decide), add_nI, mul_nI]
        exact hR
      unfold L_X8_begins_24
      rw [show ix 6 = 6 from rfl, e53, hP.1 6 (by decide), show p 0 6 = nL p from rfl, le_nI (by omega) (by omega)]
      refine ⟨v6, fun q => by omega, fun _ => ?_⟩
      unfold S_X8_linkAt
      dsimp only
      rw [show (5 : Int32) = nI 5 from rfl, mul_nI, show (1 : Int32) + nI (5 * l) = nI (1 + 5 * l) from add_nI 1 _, show nI (1 + 5 * l) + 4 = nI (1 + 5 * l + 4) from add_nI _ 4, ix_nI (by omega)]
      refine ⟨vp_in_nI (by omega) (by decide), ?_⟩
      rintro _ rfl
      rw [sM61]
      refine cr _ _ ?_
      rw [show (41 : Int32) + nI l = nI (41 + l) from add_nI 41 l, ix_nI (by omega)]
      refine ⟨vp_in_nI (by omega) (by decide), ?_⟩
      rintro _ rfl
      rw [sM61]
      refine cr _ _ ?_
      rw [show (49 : Int32) + nI l = nI (49 + l) from add_nI 49 l, ix_nI (by omega)]
      refine ⟨vp_in_nI (by omega) (by decide), ?_⟩
      rintro _ rfl
      rw [sM61]
      have h1 := ((h.set (f := 44) (k := l) (show l < 8 by omega) (x := 1 + 5 * l + 4) rfl (-2)).set (f := 45) (k := l) (show l < 16 by omega) (x := 41 + l) rfl (nI (cred p l))).set (f := 45) (k := 8 + l) (show 8 + l < 16 by omega) (x := 49 + l) (by show _ = 41 + (8 + l); omega) (nI (cred p l))
      refine ⟨4, g77 _ l hl' 3 0 _ (by omega) (h1.congr (fun a b hb => ?_)) (fun r' h' => ?_)⟩
      · rw [u_at]
        by_cases q1 : a = 45
        · subst q1
          have hb' : b < 16 := hb
          rw [sQ_45]
          by_cases q2 : b = 8 + l
          · rw [if_pos ⟨rfl, q2⟩, q2, show (8 + l) % 8 = l by omega, if_pos (by omega)]
          · rw [if_neg (fun z => q2 z.2), u_at]
            by_cases q3 : b = l
            · rw [if_pos ⟨rfl, q3⟩, q3, show l % 8 = l by omega, if_pos (by omega)]
            · rw [if_neg (fun z => q3 z.2), u_nf _ _ (by decide), sQ_45]
              by_cases q4 : b % 8 < l
              · rw [if_pos q4, if_pos (by omega)]
              · rw [if_neg q4, if_neg (by omega)]
        · rw [if_neg (fun z => q1 z.1), u_nf _ _ q1, u_at]
          by_cases q2 : a = 44
          · subst q2
            by_cases q3 : b = l
            · rw [if_pos ⟨rfl, q3⟩, sQ_44, if_pos (by omega)]
            · rw [if_neg (fun z => q3 z.2), sQ_44, sQ_44]
              by_cases q4 : b < l
              · rw [if_pos q4, if_pos (by omega)]
              · rw [if_neg q4, if_neg (by omega)]
          · rw [if_neg (fun z => q2 z.1)]
            unfold sQN
            rw [if_neg q2, if_neg q2, if_neg q1, if_neg q1]
            rfl
      · rw [show nI l + 1 = nI (l + 1) from add_nI l 1]
        exact ih (l + 1) r' (by omega) h'
  -- all to nothing
  have g1 : ∀ n m r, m + n = 1809 → (∀ x, x < m → r x = 0) → L_X8_begins_2 Q (fun σ3 => (∃ n20, L_X8_begins_24 Q (fun σ21 => (∃ n23, L_X8_begins_124 Q (fun σ24 => Q σ24) n23 0 σ21)) n20 0 σ3)) (n + 1) (nI m) (stM σ r tk) := by
    intro n
    induction n with
    | zero =>
      intro m r hm h
      have : m = 1809 := by omega
      subst this
      refine ⟨fun _ => ⟨nL p + 1, g2 (nL p) 0 r (by omega) (fun f c hc => ?_)⟩, fun q => absurd (by decide) q⟩
      rw [h _ (mi_dec hc).2]
      unfold sQN
      simp
    | succ n ih =>
      intro m r hm h
      unfold L_X8_begins_2
      rw [show (1809 : Int32) = nI 1809 from rfl, le_nI (by decide) (by omega), ix_nI (by omega)]
      refine ⟨fun q => by omega, fun _ => ⟨vp_in_nI (by omega) (by decide), ?_⟩⟩
      rintro _ rfl
      rw [sM61, show nI m + 1 = nI (m + 1) from add_nI m 1]
      refine ih (m + 1) _ (by omega) (fun x hx => ?_)
      by_cases q : x = m
      · rw [q, pk_us]
      · rw [pk_un q]
        exact h x (by omega)
  exact ⟨1810, g1 1809 0 r (by omega) (fun x hx => by omega)⟩
end Begins
