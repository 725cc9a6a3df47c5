/-! ===== reading a bus, on numbers ===== -/
abbrev OT : Type := Nat × Nat × PD × (Nat → Int64)
def erO (f pl : Nat) : OT := (f, pl, fun _ _ => 0, fun _ => 0)
def isNm (T : Tx) (N b : Nat) : Prop := kdT T N b = 1 ∧ ¬ isW T N 0 b ∧ ¬ isW T N 6 b ∧ ¬ isW T N 7 b
noncomputable def psO (T : Tx) (N lo hi b : Nat) (k : Nat → Nat → OT) : OT := cif (kdT T N b = 2) (cif (lo ≤ dvT T N b ∧ dvT T N b ≤ hi) (k (dvT T N b) (enT T N b)) (erO 4 (stT T N b))) (erO 1 (stT T N b))
noncomputable def aftO (T : Tx) (N j lo hi b : Nat) (k : Nat → Nat → OT) : OT := cif (isW T N j b) (psO T N lo hi (enT T N b) k) (erO 1 (stT T N b))
def mtN (nm : Nat → Int64) (v : Int64) (e : Nat) : Prop := lg_cmp (nm e) v = 0
def toldP (p : PD) (nm : Nat → Int64) (v : Int64) : Prop := (∃ e, e < nE p ∧ mtN nm v e) ∨ ∃ l, l < nL p ∧ mtN nm v (6 + l)
noncomputable def nmO (T : Tx) (N b : Nat) (p : PD) (nm : Nat → Int64) (k : Int64 → Nat → OT) : OT := cif (isNm T N b) (cif (toldP p nm (lN (wvT T N b))) (erO 3 (stT T N b)) (k (lN (wvT T N b)) (enT T N b))) (erO 1 (stT T N b))
noncomputable def lsM (M : Nat → Prop) : Nat → Nat → Nat
  | 0, e => e
  | m + 1, e => cif (M e) e (lsM M m (e + 1))
theorem lsM_spec (M : Nat → Prop) : ∀ (m e : Nat), e ≤ lsM M m e ∧ lsM M m e ≤ e + m ∧ (∀ k, e ≤ k → k < lsM M m e → ¬ M k) ∧ (lsM M m e < e + m → M (lsM M m e)) := by
  intro m
  induction m with
  | zero => intro e; exact ⟨Nat.le_refl _, Nat.le_refl _, fun k h1 h2 => by have h3 : k < e := h2; omega, fun h => by have h3 : e < e + 0 := h; omega⟩
  | succ m ih =>
    intro e
    obtain ⟨i1, i2, i3, i4⟩ := ih (e + 1)
    show e ≤ cif (M e) e (lsM M m (e + 1)) ∧ cif (M e) e (lsM M m (e + 1)) ≤ e + (m + 1) ∧ (∀ k, e ≤ k → k < cif (M e) e (lsM M m (e + 1)) → ¬ M k) ∧ (cif (M e) e (lsM M m (e + 1)) < e + (m + 1) → M (cif (M e) e (lsM M m (e + 1))))
    by_cases h : M e
    · rw [cif_pos h]
      exact ⟨Nat.le_refl _, by omega, fun k h1 h2 => by omega, fun _ => h⟩
    · rw [cif_neg h]
      refine ⟨by omega, by omega, fun k h1 h2 => ?_, fun q => i4 (by omega)⟩
      rcases Nat.lt_or_ge e k with q | q
      · exact i3 k (by omega) h2
      · rw [show k = e by omega]; exact h
noncomputable def fdE (p : PD) (nm : Nat → Int64) (v : Int64) : Nat := lsM (mtN nm v) (nE p) 0
theorem fdE_some {p : PD} {nm : Nat → Int64} {v : Int64} {e : Nat} (he : e < nE p) (h1 : mtN nm v e) (h2 : ∀ e', e' < e → ¬ mtN nm v e') : fdE p nm v = e := by
  obtain ⟨a1, a2, a3, a4⟩ := lsM_spec (mtN nm v) (nE p) 0
  unfold fdE
  rcases Nat.lt_trichotomy (lsM (mtN nm v) (nE p) 0) e with q | q | q
  · exact absurd (a4 (by omega)) (h2 _ q)
  · exact q
  · exact absurd h1 (a3 e (by omega) q)
theorem fdE_none {p : PD} {nm : Nat → Int64} {v : Int64} (h : ∀ e, e < nE p → ¬ mtN nm v e) : ¬ fdE p nm v < nE p := by
  obtain ⟨a1, a2, a3, a4⟩ := lsM_spec (mtN nm v) (nE p) 0
  unfold fdE
  intro q
  exact h _ q (a4 (by omega))
noncomputable def keO (T : Tx) (N b : Nat) (p : PD) (nm : Nat → Int64) (k : Nat → Nat → OT) : OT := cif (isNm T N b) (cif (fdE p nm (lN (wvT T N b)) < nE p) (k (fdE p nm (lN (wvT T N b))) (enT T N b)) (erO 2 (stT T N b))) (erO 1 (stT T N b))
noncomputable def gapO (T : Tx) (N b : Nat) (k : Nat → Nat → OT) : OT := cif (kdT T N b = 2) (cif (isGap (dvT T N b)) (k (dvT T N b) (enT T N b)) (erO 4 (stT T N b))) (erO 1 (stT T N b))
def qS (q : Nat → Nat) (i e : Nat) : Nat → Nat := fun j => if j = i then e else q j
noncomputable def rcO (T : Tx) (N : Nat) (p : PD) (nm : Nat → Int64) (f : Nat) (k : Nat → (Nat → Nat) → Nat → OT) : Nat → Nat → (Nat → Nat) → Nat → OT
  | 0, _, _, _ => erO 1 0
  | m + 1, i, q, b => keO T N b p nm (fun e b' => cif (e = f ∨ ∃ j, j < i ∧ q j = e) (erO 3 (stT T N b)) (cif (kdT T N b' = 1 ∧ i + 1 < 3) (rcO T N p nm f k m (i + 1) (qS q i e) b') (k (i + 1) (qS q i e) b')))
def puP (p : PD) (a k v : Nat) : PD := fun x y => if x = a ∧ y = k then v else p x y
def busP (p : PD) (v1 v2 v3 v4 v5 : Nat) : PD := puP (puP (puP (puP (puP p 0 0 v1) 0 1 v2) 0 2 v3) 0 3 v4) 0 4 v5
def endP (p : PD) (s : Nat) : PD := puP (puP p 1 (nE p) s) 0 5 (nE p + 1)
def rwL (e g l i : Nat) (q : Nat → Nat) (k : Nat) : Nat := match k with
  | 0 => e | 1 => g | 2 => l | 3 => i | k + 4 => q k
def lnkP (p : PD) (e g l i : Nat) (q : Nat → Nat) : PD := fun x y => if x = 0 ∧ y = 6 then nL p + 1 else if x = 2 ∧ 7 * nL p ≤ y ∧ y < 7 * nL p + 7 then rwL e g l i q (y - 7 * nL p) else p x y
def nmU (nm : Nat → Int64) (k : Nat) (v : Int64) : Nat → Int64 := fun j => if j = k then v else nm j
noncomputable def busO (T : Tx) (N : Nat) (p : PD) (nm : Nat → Int64) (hb b : Nat) (k : PD → (Nat → Int64) → Nat → Nat → OT) : OT :=
  cif (hb = 0) (aftO T N 1 1 3 (enT T N b) (fun v1 b1 => aftO T N 2 1 12 b1 (fun v2 b2 => aftO T N 3 0 400 b2 (fun v3 b3 => aftO T N 4 1 100 b3 (fun v4 b4 => aftO T N 5 1 999 b4 (fun v5 b5 => k (busP p v1 v2 v3 v4 v5) nm 1 b5)))))) (erO 3 (stT T N b))
noncomputable def endO (T : Tx) (N : Nat) (p : PD) (nm : Nat → Int64) (hb b : Nat) (k : PD → (Nat → Int64) → Nat → Nat → OT) : OT :=
  cif (hb = 0) (erO 6 (stT T N b)) (cif (nE p < 6) (nmO T N (enT T N b) p nm (fun w b1 => aftO T N 8 0 (pSw p - 1) b1 (fun s b2 => k (endP p s) (nmU nm (nE p) w) hb b2))) (erO 5 (stT T N b)))
noncomputable def lnkO (T : Tx) (N : Nat) (p : PD) (nm : Nat → Int64) (hb b : Nat) (k : PD → (Nat → Int64) → Nat → Nat → OT) : OT :=
  cif (hb = 0) (erO 6 (stT T N b)) (cif (nL p < 8) (nmO T N (enT T N b) p nm (fun w b1 => cif (isW T N 9 b1) (keO T N (enT T N b1) p nm (fun f b2 => cif (isW T N 10 b2) (gapO T N (enT T N b2) (fun g b3 => aftO T N 11 1 (if g < 40 then g else 40) b3 (fun l b4 => cif (isW T N 12 b4) (rcO T N p nm f (fun i q b5 => k (lnkP p f g l i q) (nmU nm (6 + nL p) w) hb b5) 3 0 (fun _ => 0) (enT T N b4)) (erO 1 (stT T N b4))))) (erO 1 (stT T N b2)))) (erO 1 (stT T N b1)))) (erO 5 (stT T N b)))
noncomputable def linO (T : Tx) (N : Nat) (p : PD) (nm : Nat → Int64) (hb b : Nat) (k : PD → (Nat → Int64) → Nat → Nat → OT) : OT :=
  cif (isW T N 0 b) (busO T N p nm hb b k) (cif (isW T N 6 b) (endO T N p nm hb b k) (cif (isW T N 7 b) (lnkO T N p nm hb b k) (erO 1 (stT T N b))))
noncomputable def linsO (T : Tx) (N : Nat) : Nat → PD → (Nat → Int64) → Nat → Nat → OT
  | 0, _, _, _, _ => erO 1 0
  | m + 1, p, nm, hb, b => linO T N p nm hb b (fun p' nm' hb' b' => cif (kdT T N b' = 3) (linsO T N m p' nm' hb' (enT T N b')) (cif (kdT T N b' = 0) (cif (nL p' = 0) (erO 6 (stT T N b')) (0, 0, p', nm')) (erO 1 (stT T N b'))))
/-- what holds of the draft between lines -/
def PI (p : PD) (hb : Nat) : Prop := PV p ∧ (hb = 0 → nE p = 0 ∧ nL p = 0) ∧ (hb = 1 → 1 ≤ pSw p) ∧ hb ≤ 1
theorem pu_ne {p : PD} {a k v x y : Nat} (h : ¬ (x = a ∧ y = k)) : puP p a k v x y = p x y := if_neg h
theorem pu_eq {p : PD} {a k v : Nat} : puP p a k v a k = v := if_pos ⟨rfl, rfl⟩
theorem busP_ne {p : PD} {v1 v2 v3 v4 v5 x y : Nat} (h : ¬ (x = 0 ∧ y < 5)) : busP p v1 v2 v3 v4 v5 x y = p x y := by
  unfold busP
  rw [pu_ne (by omega), pu_ne (by omega), pu_ne (by omega), pu_ne (by omega), pu_ne (by omega)]
theorem busP_at {p : PD} {v1 v2 v3 v4 v5 : Nat} : busP p v1 v2 v3 v4 v5 0 0 = v1 ∧ busP p v1 v2 v3 v4 v5 0 1 = v2 ∧ busP p v1 v2 v3 v4 v5 0 2 = v3 ∧ busP p v1 v2 v3 v4 v5 0 3 = v4 ∧ busP p v1 v2 v3 v4 v5 0 4 = v5 := ⟨rfl, rfl, rfl, rfl, rfl⟩
theorem PI_bus {p : PD} {v1 v2 v3 v4 v5 : Nat} (h : PI p 0) (h1 : 1 ≤ v1 ∧ v1 ≤ 3) (h2 : v2 ≤ 12) (h3 : v3 ≤ 400) (h4 : v4 ≤ 100) (h5 : v5 ≤ 999) : PI (busP p v1 v2 v3 v4 v5) 1 := by
  obtain ⟨hV, h0, _, _⟩ := h
  obtain ⟨e0, l0⟩ := h0 rfl
  have ee : nE (busP p v1 v2 v3 v4 v5) = 0 := (busP_ne (by omega)).trans e0
  have ll : nL (busP p v1 v2 v3 v4 v5) = 0 := (busP_ne (by omega)).trans l0
  refine ⟨⟨h1.2, h2, h3, h4, h5, by rw [ee]; decide, by rw [ll]; decide, fun e he => by rw [ee] at he; omega, fun l hl => by rw [ll] at hl; omega⟩, fun q => by omega, fun _ => h1.1, Nat.le_refl 1⟩
theorem endP_ne {p : PD} {s x y : Nat} (h : ¬ (x = 0 ∧ y = 5)) (h2 : ¬ (x = 1 ∧ y = nE p)) : endP p s x y = p x y := by
  unfold endP
  rw [pu_ne h, pu_ne h2]
theorem endP_nE {p : PD} {s : Nat} : nE (endP p s) = nE p + 1 := by
  show endP p s 0 5 = nE p + 1
  unfold endP
  exact pu_eq
theorem endP_s {p : PD} {s : Nat} : eS (endP p s) (nE p) = s := by
  show endP p s 1 (nE p) = s
  unfold endP
  rw [pu_ne (by omega), pu_eq]
theorem PI_end {p : PD} {s : Nat} (h : PI p 1) (hE : nE p < 6) (hs : s ≤ pSw p - 1) : PI (endP p s) 1 := by
  obtain ⟨hV, _, h1, _⟩ := h
  have hs1 := h1 rfl
  obtain ⟨a1, a2, a3, a4, a5, a6, a7, a8, a9⟩ := hV
  have n0 : ∀ k, k ≠ 5 → endP p s 0 k = p 0 k := fun k hk => endP_ne (by omega) (by omega)
  have n2 : ∀ k, endP p s 2 k = p 2 k := fun k => endP_ne (by omega) (by omega)
  have en : nE (endP p s) = nE p + 1 := endP_nE
  have sw : pSw (endP p s) = pSw p := n0 0 (by decide)
  refine ⟨⟨by rw [sw]; exact a1, ?_, ?_, ?_, ?_, by rw [en]; omega, ?_, fun e he => ?_, fun l hl => ?_⟩, fun q => by omega, fun _ => by rw [sw]; exact hs1, Nat.le_refl 1⟩
  · show endP p s 0 1 ≤ 12; rw [n0 1 (by decide)]; exact a2
  · show endP p s 0 2 ≤ 400; rw [n0 2 (by decide)]; exact a3
  · show endP p s 0 3 ≤ 100; rw [n0 3 (by decide)]; exact a4
  · show endP p s 0 4 ≤ 999; rw [n0 4 (by decide)]; exact a5
  · show endP p s 0 6 ≤ 8; rw [n0 6 (by decide)]; exact a7
  · rw [en] at he
    rw [sw]
    rcases Nat.lt_or_ge e (nE p) with q | q
    · show endP p s 1 e < pSw p
      rw [endP_ne (by omega) (by omega)]
      exact a8 e q
    · rw [show e = nE p by omega, endP_s]
      omega
  · have hl' : l < nL p := by
      have : endP p s 0 6 = p 0 6 := n0 6 (by decide)
      have h2 : l < endP p s 0 6 := hl
      rw [this] at h2
      exact h2
    obtain ⟨b1, b2, b3, b4, b5, b6, b7, b8, b9⟩ := a9 l hl'
    unfold LV fr gp ln rc re
    simp only [n2, en]
    exact ⟨by have : fr p l < nE p := b1; unfold fr at this; omega, b2, b3, b4, b5, b6, b7, fun i hi => ⟨by have := (b8 i hi).1; unfold re at this; omega, (b8 i hi).2⟩, b9⟩
theorem lnkP_ne {p : PD} {e g l i x y : Nat} {q : Nat → Nat} (h : ¬ (x = 0 ∧ y = 6)) (h2 : ¬ (x = 2 ∧ 7 * nL p ≤ y ∧ y < 7 * nL p + 7)) : lnkP p e g l i q x y = p x y := by
  unfold lnkP
  rw [if_neg h, if_neg h2]
theorem lnkP_nL {p : PD} {e g l i : Nat} {q : Nat → Nat} : nL (lnkP p e g l i q) = nL p + 1 := by
  show lnkP p e g l i q 0 6 = nL p + 1
  unfold lnkP
  exact if_pos ⟨rfl, rfl⟩
theorem lnkP_row {p : PD} {e g l i k : Nat} {q : Nat → Nat} (hk : k < 7) : lnkP p e g l i q 2 (7 * nL p + k) = rwL e g l i q k := by
  unfold lnkP
  rw [if_neg (by omega), if_pos ⟨rfl, by omega, by omega⟩, show 7 * nL p + k - 7 * nL p = k by omega]
theorem PI_lnk {p : PD} {e g l i : Nat} {q : Nat → Nat} (h : PI p 1) (hL : nL p < 8) (he : e < nE p) (hg : isGap g) (hl : 1 ≤ l ∧ l ≤ 40 ∧ l ≤ g) (hi : 1 ≤ i ∧ i ≤ 3) (hq : ∀ j, j < i → q j < nE p ∧ q j ≠ e) (hd : ∀ j k, j < i → k < i → q j = q k → j = k) : PI (lnkP p e g l i q) 1 := by
  obtain ⟨hV, _, h1, _⟩ := h
  obtain ⟨a1, a2, a3, a4, a5, a6, a7, a8, a9⟩ := hV
  have n0 : ∀ k, k ≠ 6 → lnkP p e g l i q 0 k = p 0 k := fun k hk => lnkP_ne (by omega) (by omega)
  have n1 : ∀ k, lnkP p e g l i q 1 k = p 1 k := fun k => lnkP_ne (by omega) (by omega)
  have sw : pSw (lnkP p e g l i q) = pSw p := n0 0 (by decide)
  have en : nE (lnkP p e g l i q) = nE p := n0 5 (by decide)
  refine ⟨⟨by rw [sw]; exact a1, ?_, ?_, ?_, ?_, by rw [en]; exact a6, by rw [lnkP_nL]; omega, fun x hx => ?_, fun m hm => ?_⟩, fun q => by omega, fun _ => by rw [sw]; exact h1 rfl, Nat.le_refl 1⟩
  · show lnkP p e g l i q 0 1 ≤ 12; rw [n0 1 (by decide)]; exact a2
  · show lnkP p e g l i q 0 2 ≤ 400; rw [n0 2 (by decide)]; exact a3
  · show lnkP p e g l i q 0 3 ≤ 100; rw [n0 3 (by decide)]; exact a4
  · show lnkP p e g l i q 0 4 ≤ 999; rw [n0 4 (by decide)]; exact a5
  · rw [en] at hx
    show lnkP p e g l i q 1 x < _
    rw [n1, sw]
    exact a8 x hx
  · rw [lnkP_nL] at hm
    unfold LV fr gp ln rc re
    rw [en]
    rcases Nat.lt_or_ge m (nL p) with c | c
    · obtain ⟨b1, b2, b3, b4, b5, b6, b7, b8, b9⟩ := a9 m c
      have nn : ∀ k, k < 7 → lnkP p e g l i q 2 (7 * m + k) = p 2 (7 * m + k) := fun k hk => lnkP_ne (by omega) (by omega)
      have n0' : lnkP p e g l i q 2 (7 * m) = p 2 (7 * m) := nn 0 (by decide)
      rw [n0', nn 1 (by decide), nn 2 (by decide), nn 3 (by decide)]
      have b7' : p 2 (7 * m + 3) ≤ 3 := b7
      refine ⟨b1, b2, b3, b4, b5, b6, b7, fun j hj => ?_, fun j k hj hk => ?_⟩
      · rw [Nat.add_assoc, nn (4 + j) (by omega), ← Nat.add_assoc]
        exact b8 j hj
      · rw [Nat.add_assoc, nn (4 + j) (by omega), Nat.add_assoc, nn (4 + k) (by omega), ← Nat.add_assoc, ← Nat.add_assoc]
        exact b9 j k hj hk
    · have em : m = nL p := by omega
      subst em
      have r0 : lnkP p e g l i q 2 (7 * nL p) = e := lnkP_row (k := 0) (by decide)
      have rq : ∀ j, j < 3 → lnkP p e g l i q 2 (7 * nL p + 4 + j) = q j := by
        intro j hj
        rw [Nat.add_assoc, lnkP_row (k := 4 + j) (by omega), Nat.add_comm 4 j]
        rfl
      rw [r0, lnkP_row (k := 1) (by decide), lnkP_row (k := 2) (by decide), lnkP_row (k := 3) (by decide)]
      show e < nE p ∧ isGap g ∧ 1 ≤ l ∧ l ≤ 40 ∧ l ≤ g ∧ 1 ≤ i ∧ i ≤ 3 ∧ (∀ j, j < i → _) ∧ (∀ j k, j < i → k < i → _)
      refine ⟨he, hg, hl.1, hl.2.1, hl.2.2, hi.1, hi.2, fun j hj => ?_, fun j k hj hk => ?_⟩
      · rw [rq j (by omega)]
        exact hq j hj
      · rw [rq j (by omega), rq k (by omega)]
        exact hd j k hj hk
