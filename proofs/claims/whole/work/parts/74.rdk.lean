/-! ===== the class reads a link ===== -/
section LA
variable (Q : Hp → Prop)
def LA10 (r5 : Int64) (r8 r11 r14 : Int32) (σ15 : Hp) : Prop := ((¬ (gI σ15 4 0 10) = 0 → Q σ15) ∧ ((gI σ15 4 0 10) = 0 → gR σ15 1 < 2 ∧ vp_in (gI σ15 2 (gR σ15 1) 6) 8 ∧ ∀ σ17, σ17 = sL σ15 24 (gR σ15 1) (ix (gI σ15 2 (gR σ15 1) 6)) r5 → gR σ17 1 < 2 ∧ vp_in (gI σ15 2 (gR σ15 1) 6) 8 ∧ ∀ σ19, σ19 = sI σ17 25 (gR σ17 1) (ix (gI σ15 2 (gR σ15 1) 6)) r8 → gR σ19 1 < 2 ∧ vp_in (gI σ15 2 (gR σ15 1) 6) 8 ∧ ∀ σ21, σ21 = sI σ19 26 (gR σ19 1) (ix (gI σ15 2 (gR σ15 1) 6)) r11 → gR σ21 1 < 2 ∧ vp_in (gI σ15 2 (gR σ15 1) 6) 8 ∧ ∀ σ23, σ23 = sI σ21 27 (gR σ21 1) (ix (gI σ15 2 (gR σ15 1) 6)) r14 → S_X4_readReceivers (gI σ15 2 (gR σ15 1) 6) σ23 (fun σ24 => gR σ24 1 < 2 ∧ ∀ σ26, σ26 = sI σ24 2 (gR σ24 1) 6 ((gI σ24 2 (gR σ24 1) 6) + 1) → Q σ26)))
def LA9 (r5 : Int64) (r8 r11 r14 : Int32) (σ13 : Hp) : Prop := S_X4_pass 8389959953164541984 σ13 (fun σ15 => LA10 Q r5 r8 r11 r14 σ15)
def LA8 (r5 : Int64) (r8 r11 : Int32) (σ12 : Hp) : Prop := S_X4_wholeWithin 1 (if r11 < 40 then r11 else 40) σ12 (fun r14 σ13 => LA9 Q r5 r8 r11 r14 σ13)
def LA7 (r5 : Int64) (r8 r11 : Int32) (σ10 : Hp) : Prop := S_X4_pass 7810770519357661216 σ10 (fun σ12 => LA8 Q r5 r8 r11 σ12)
def LA6 (r5 : Int64) (r8 : Int32) (σ9 : Hp) : Prop := S_X4_wholeGap σ9 (fun r11 σ10 => LA7 Q r5 r8 r11 σ10)
def LA5 (r5 : Int64) (r8 : Int32) (σ7 : Hp) : Prop := S_X4_pass 7449358541927751712 σ7 (fun σ9 => LA6 Q r5 r8 σ9)
def LA4 (r5 : Int64) (σ6 : Hp) : Prop := S_X4_knownEnd σ6 (fun r8 σ7 => LA5 Q r5 r8 σ7)
def LA3 (r5 : Int64) (σ4 : Hp) : Prop := S_X4_pass 7382085253694758944 σ4 (fun σ6 => LA4 Q r5 σ6)
def LA2 (σ3 : Hp) : Prop := S_X4_newName σ3 (fun r5 σ4 => LA3 Q r5 σ4)
def LA1 (σ2 : Hp) : Prop := S_X4_pass 7811896435030368288 σ2 (fun σ3 => LA2 Q σ3)
theorem readLink_eq (σ : Hp) : S_X4_readLink σ Q = (gR σ 1 < 2 ∧ S_X4_beginLine (gI σ 2 (gR σ 1) 6) 8 σ (fun σ2 => LA1 Q σ2)) := rfl
end LA
section XA
variable {Q : Hp → Prop} {σ : Hp} {r : Nat → Int32} {w : Int64}
theorem xA10 {r5 : Int64} {r8 r11 r14 : Int32} (h : ¬ r 10 = 0) (k : Q (stG 4 7 σ r w)) : LA10 Q r5 r8 r11 r14 (stG 4 7 σ r w) := by
  unfold LA10
  refine ⟨fun _ => k, fun q => ?_⟩
  rw [gG] at q
  exact absurd q h
theorem xA9 {r5 : Int64} {r8 r11 r14 : Int32} (h : ¬ r 10 = 0) (k : Q (stG 4 7 σ r w)) : LA9 Q r5 r8 r11 r14 (stG 4 7 σ r w) := x_pass h (xA10 h k)
theorem xA8 {r5 : Int64} {r8 r11 : Int32} (h : ¬ r 10 = 0) (k : Q (stG 4 7 σ r w)) : LA8 Q r5 r8 r11 (stG 4 7 σ r w) := x_within h (fun _ => xA9 h k)
theorem xA7 {r5 : Int64} {r8 r11 : Int32} (h : ¬ r 10 = 0) (k : Q (stG 4 7 σ r w)) : LA7 Q r5 r8 r11 (stG 4 7 σ r w) := x_pass h (xA8 h k)
theorem xA6 {r5 : Int64} {r8 : Int32} (h : ¬ r 10 = 0) (k : Q (stG 4 7 σ r w)) : LA6 Q r5 r8 (stG 4 7 σ r w) := x_wgap h (fun _ => xA7 h k)
theorem xA5 {r5 : Int64} {r8 : Int32} (h : ¬ r 10 = 0) (k : Q (stG 4 7 σ r w)) : LA5 Q r5 r8 (stG 4 7 σ r w) := x_pass h (xA6 h k)
variable {p : PD} {nm : Nat → Int64} {P hB : Nat}
theorem xA4 {r5 : Int64} (hR : gR σ 1 = P) (hP : P < 2) (h6 : nE p ≤ 6) (hD : RDc σ P p nm hB) (h : ¬ r 10 = 0) (k : Q (stG 4 7 σ r w)) : LA4 Q r5 (stG 4 7 σ r w) := x_known hR hP h6 hD h (fun _ => xA5 h k)
theorem xA3 {r5 : Int64} (hR : gR σ 1 = P) (hP : P < 2) (h6 : nE p ≤ 6) (hD : RDc σ P p nm hB) (h : ¬ r 10 = 0) (k : Q (stG 4 7 σ r w)) : LA3 Q r5 (stG 4 7 σ r w) := x_pass h (xA4 hR hP h6 hD h k)
theorem xA2 (hR : gR σ 1 = P) (hP : P < 2) (h6 : nE p ≤ 6) (h8 : nL p ≤ 8) (hD : RDc σ P p nm hB) (h : ¬ r 10 = 0) (k : Q (stG 4 7 σ r w)) : LA2 Q (stG 4 7 σ r w) := x_newN hR hP h6 h8 hD h (fun _ => xA3 hR hP h6 hD h k)
theorem xA1 (hR : gR σ 1 = P) (hP : P < 2) (h6 : nE p ≤ 6) (h8 : nL p ≤ 8) (hD : RDc σ P p nm hB) (h : ¬ r 10 = 0) (k : Q (stG 4 7 σ r w)) : LA1 Q (stG 4 7 σ r w) := x_pass h (xA2 hR hP h6 h8 hD h k)
end XA
/-- only the receivers of one link of the draft differ -/
def FRl (P l : Nat) (σ σ' : Hp) : Prop := (∀ a b c, ¬ (b = P ∧ ((a = 28 ∧ c = l) ∨ (a = 29 ∧ 3 * l ≤ c ∧ c < 3 * l + 3))) → gI σ' a b c = gI σ a b c) ∧ (∀ a b c, gL σ' a b c = gL σ a b c) ∧ (∀ a, gR σ' a = gR σ a)
theorem FRl.refl (P l : Nat) (σ : Hp) : FRl P l σ σ := ⟨fun _ _ _ _ => rfl, fun _ _ _ => rfl, fun _ => rfl⟩
theorem FRl.fd {P l : Nat} {σ σ' : Hp} (h : FRl P l σ σ') : FD P σ σ' := ⟨fun a b c q => h.1 a b c (by omega), fun a b c _ => h.2.1 a b c, h.2.2⟩
theorem FRl.s {P l : Nat} {σ σ' : Hp} (h : FRl P l σ σ') {a c : Nat} (ha : (a = 28 ∧ c = l) ∨ (a = 29 ∧ 3 * l ≤ c ∧ c < 3 * l + 3)) (v : Int32) : FRl P l σ (sI σ' a P c v) := by
  refine ⟨fun x y z q => ?_, h.2.1, h.2.2⟩
  rw [gI_sI, if_neg (by omega)]
  exact h.1 x y z q
theorem RDc.fr {P : Nat} {σ σ' : Hp} {p : PD} {nm : Nat → Int64} {hB : Nat} (h : RDc σ P p nm hB) (hV : PV p) (hd : FRl P (nL p) σ σ') : RDc σ' P p nm hB := by
  obtain ⟨h1, h2, h3, h4, h5, h6⟩ := h
  refine ⟨by rw [hd.1 2 P 5 (by omega)]; exact h1, by rw [hd.1 2 P 6 (by omega)]; exact h2, fun q c hc => by rw [hd.1 2 P c (by omega)]; exact h3 q c hc, fun e he => ?_, fun l hl => ?_, fun l i hl hi => ?_⟩
  · rw [hd.1 22 P e (by omega), hd.2.1]
    exact h4 e he
  · rw [hd.1 25 P l (by omega), hd.1 26 P l (by omega), hd.1 27 P l (by omega), hd.1 28 P l (by omega), hd.2.1]
    exact h5 l hl
  · have hr := (hV.2.2.2.2.2.2.2.2 l hl).2.2.2.2.2.2.1
    rw [hd.1 29 P (3 * l + i) (by omega)]
    exact h6 l i hl hi
theorem ear_i {σ : Hp} {l j : Nat} {R : Int32 → Hp → Prop} (h : R (nI (3 * l + j)) σ) : S_X7_earOf (nI l) (nI j) σ R := by
  unfold S_X7_earOf
  rw [show (3 : Int32) = nI 3 from rfl, mul_nI, add_nI, Nat.mul_comm l 3]
  exact h
section Recs
variable {T : Tx} {N P hB : Nat} {OK : OT → Prop} {p : PD} {nm : Nat → Int64}
theorem c_earD {σ : Hp} {r : Nat → Int32} {w : Int64} {l i e : Nat} {q : Nat → Nat} {R : Int32 → Hp → Prop} (hl : l < 8) (hi : i ≤ 3) (he : e < 6) (hq : ∀ j, j < i → q j < 6) (h28 : gI σ 28 P l = nI i) (h29 : ∀ j, j < i → gI σ 29 P (3 * l + j) = nI (q j)) (h1 : ∀ v, ¬ v = -1 → (∃ j, j < i ∧ q j = e) → R v (stG 4 7 σ r w)) (h0 : ¬ (∃ j, j < i ∧ q j = e) → R (-1) (stG 4 7 σ r w)) : S_X2_earAt P (nI l) (nI e) (stG 4 7 σ r w) R := by
  have go : ∀ m j, j + m = i → (∀ j', j' < j → q j' ≠ e) → L_X2_earAt_2 R (fun σ4 => R (-1) σ4) (fun w6 σ5 => S_X7_earOf (nI l) w6 σ5 (fun r8 σ7 => R r8 σ7)) P (nI l) (nI e) (m + 1) (nI j) (stG 4 7 σ r w) := by
    intro m
    induction m with
    | zero =>
      intro j hj hno
      unfold L_X2_earAt_2
      rw [ix_nI (by omega), gGn (by decide), h28, le_nI (by omega) (by omega)]
      exact ⟨vp_in_nI hl (by decide), fun _ => h0 (fun ⟨j', a, b⟩ => hno j' (by omega) b), fun z => absurd (by omega) z⟩
    | succ m ih =>
      intro j hj hno
      have hq' := hq j (by omega)
      unfold L_X2_earAt_2
      rw [ix_nI (by omega), gGn (by decide), h28, le_nI (by omega) (by omega)]
      refine ⟨vp_in_nI hl (by decide), fun z => by omega, fun _ => ?_⟩
      refine ear_i ?_
      rw [ix_nI (by omega), gGn (by decide), h29 j (by omega), eq_nI (by omega) (by omega), show nI j + 1 = nI (j + 1) from add_nI j 1]
      refine ⟨vp_in_nI (by omega) (by decide), fun z => ih (j + 1) (by omega) (fun j' hj' => ?_), fun z => ear_i (h1 _ (ne_m1 (by omega)) ⟨j, by omega, z⟩)⟩
      rcases Nat.lt_or_ge j' j with a | a
      · exact hno j' a
      · rw [show j' = j by omega]
        exact z
  exact ⟨i + 1, go i 0 (by omega) (fun j' hj' => by omega)⟩
theorem c_recs {σ0 : Hp} {r0 : Nat → Int32} {f bq : Nat} {kR : Nat → (Nat → Nat) → Nat → OT} {K126 K92 Qr : Hp → Prop} (hN : N ≤ 900) (hT0 : CT σ0 T N) (hR0 : gR σ0 1 = P) (hP : P < 2) (hV : PV p) (hl8 : nL p < 8) (hD0 : RDc σ0 P p nm hB) (hf : f < nE p) (hf0 : gI σ0 25 P (nL p) = nI f)
    (hE : ∀ f pl, OK (erO f pl) → 1 ≤ f → f ≤ 6 → ∀ σ' r' w', FRl P (nL p) σ0 σ' → EPr r0 r' f pl → K92 (stG 4 7 σ' r' w'))
    (hK : ∀ i q b', OK (kR i q b') → 1 ≤ i → i ≤ 3 → bq < b' → b' ≤ N → (∀ j, j < i → q j < nE p ∧ q j ≠ f) → (∀ j k, j < i → k < i → q j = q k → j = k) → ∀ σ' r' w', FRl P (nL p) σ0 σ' → gI σ' 28 P (nL p) = nI i → (∀ j, j < i → gI σ' 29 P (3 * nL p + j) = nI (q j)) → Fr4 r0 r' → TCr T N b' r' w' → K126 (stG 4 7 σ' r' w')) :
    ∀ m i q b σ r w, m + i = 3 → bq ≤ b → b ≤ N → FRl P (nL p) σ0 σ → gI σ 28 P (nL p) = nI i → (∀ j, j < i → gI σ 29 P (3 * nL p + j) = nI (q j)) → (∀ j, j < i → q j < nE p ∧ q j ≠ f) → (∀ j k, j < i → k < i → q j = q k → j = k) → r0 10 = 0 → r0 3 = nI N → Fr4 r0 r → TCr T N b r w → OK (rcO T N p nm f kR m i q b) → 1 ≤ m → J_X4_readReceivers_29 Qr (L_X4_readReceivers_12 Qr K126 K92 (nI (nL p)) m) K126 K92 (nI (nL p)) (nI i) (stG 4 7 σ r w) := by
  have h6 : nE p ≤ 6 := hV.2.2.2.2.2.1
  intro m
  induction m with
  | zero => intro i q b σ r w _ _ _ _ _ _ _ _ _ _ _ _ _ h; omega
  | succ m ih =>
    intro i q b σ r w hmi hbq hb hF h28 h29 hq hd z10 z3 hfr ht h _
    have hD := hD0.fr hV hF
    have hT := hT0.fd hF.fd
    have hR : gR σ 1 = P := (hF.2.2 1).trans hR0
    have h10 : r 10 = 0 := (hfr 10 (by decide) (by decide) (by decide) (by decide)).trans z10
    have h3 : r 3 = nI N := (hfr 3 (by decide) (by decide) (by decide) (by decide)).trans z3
    have h1r : r 1 = r0 1 := hfr 1 (by decide) (by decide) (by decide) (by decide)
    have f25 : gI σ 25 P (nL p) = nI f := (hF.1 25 P _ (by omega)).trans hf0
    have cv : ∀ {f pl : Nat} {ra rb : Nat → Int32}, ra 1 = r0 1 → EPr ra rb f pl → EPr r0 rb f pl := fun a e => ⟨e.1.trans a, e.2.1, e.2.2⟩
    have j85x : ∀ (y4 : Int32) r' w', ¬ r' 10 = 0 → K92 (stG 4 7 σ r' w') → J_X4_readReceivers_85 Qr (L_X4_readReceivers_12 Qr K126 K92 (nI (nL p)) (m + 1)) K126 K92 (nI (nL p)) (nI i) y4 (stG 4 7 σ r' w') := by
      intro y4 r' w' nz k
      unfold J_X4_readReceivers_85
      rw [gG]
      exact ⟨fun z => absurd z nz, fun _ => k⟩
    unfold rcO keO at h
    unfold J_X4_readReceivers_29
    rw [gG, ht.1]
    refine c_known hN hT hb hR hP h6 hD h10 h3 ht (fun a1 a2 r1 w1 f1 t1 => ?_) (fun a1 a2 r1 v e => ?_) (fun a1 r1 v e => ?_)
    · rw [cif_pos a1, cif_pos a2] at h
      obtain ⟨e, he⟩ : ∃ e, fdE p nm (lN (wvT T N b)) = e := ⟨_, rfl⟩
      rw [he] at h a2 ⊢
      dsimp only at h
      have n1 := nx_lt hb (show kdT T N b ≠ 0 by rw [a1.1]; decide)
      have y10 : r1 10 = 0 := (f1 10 (by decide) (by decide) (by decide) (by decide)).trans h10
      have y1 : r1 1 = r0 1 := (f1 1 (by decide) (by decide) (by decide) (by decide)).trans h1r
      rw [gG, y10]
      refine b0 ?_
      rw [gGR, hR, ix_nI (by omega), gGn (by decide), f25, eq_nI (by omega) (by omega)]
      have j75 : (e = f ∨ ∃ j, j < i ∧ q j = e) → J_X4_readReceivers_75 Qr (L_X4_readReceivers_12 Qr K126 K92 (nI (nL p)) (m + 1)) K126 K92 (nI (nL p)) (nI i) (nI (stT T N b)) (nI e) (stG 4 7 σ r1 w1) := by
        intro c
        rw [cif_pos c] at h
        unfold J_X4_readReceivers_75
        rintro _ rfl _ rfl
        rw [sG, sG]
        have ep : EPr r0 (upd (upd r1 10 3) 11 (nI (stT T N b))) 3 (stT T N b) := ⟨by rw [pk_un (by decide), pk_un (by decide)]; exact y1, by rw [pk_un (by decide), pk_us]; rfl, pk_us⟩
        exact j85x _ _ _ (ep.nz (by decide) (by decide)) (hE 3 _ h (by decide) (by decide) _ _ _ hF ep)
      refine ⟨hP, vp_in_nI hl8 (by decide), fun c => j75 (Or.inl c), fun c => ?_⟩
      refine c_earD hl8 (by omega) (by omega) (fun j hj => by have := (hq j hj).1; omega) h28 h29 (fun v nv c2 => ⟨fun z => absurd z nv, fun _ => j75 (Or.inr c2)⟩) (fun c2 => ⟨fun _ => ?_, fun z => absurd rfl z⟩)
      rw [cif_neg (fun z => z.elim c c2)] at h
      unfold J_X4_readReceivers_85
      rw [gG, y10]
      refine b0' ?_
      rw [gGR, hR]
      refine ⟨hP, ear_i ⟨vp_in_nI (by omega) (by decide), ?_⟩⟩
      rintro _ rfl
      rw [ix_nI (by omega), sGn (by decide), gGR, gR_sI, hR, ix_nI (by omega)]
      refine ⟨hP, vp_in_nI hl8 (by decide), ?_⟩
      rintro _ rfl
      rw [sGn (by decide), show nI i + 1 = nI (i + 1) from add_nI i 1]
      have hF2 := (hF.s (a := 29) (c := 3 * nL p + i) (by omega) (nI e)).s (a := 28) (c := nL p) (by omega) (nI (i + 1))
      have g28 : gI (sI (sI σ 29 P (3 * nL p + i) (nI e)) 28 P (nL p) (nI (i + 1))) 28 P (nL p) = nI (i + 1) := by rw [gI_sI, if_pos ⟨rfl, rfl, rfl⟩]
      have g29 : ∀ j, j < i + 1 → gI (sI (sI σ 29 P (3 * nL p + i) (nI e)) 28 P (nL p) (nI (i + 1))) 29 P (3 * nL p + j) = nI (qS q i e j) := by
        intro j hj
        rw [gI_sI, if_neg (by omega), gI_sI]
        unfold qS
        by_cases z : j = i
        · rw [if_pos ⟨rfl, rfl, by omega⟩, if_pos z]
        · rw [if_neg (by omega), if_neg z]
          exact h29 j (by omega)
      have gq : ∀ j, j < i + 1 → qS q i e j < nE p ∧ qS q i e j ≠ f := by
        intro j hj
        unfold qS
        by_cases z : j = i
        · rw [if_pos z]; exact ⟨a2, c⟩
        · rw [if_neg z]; exact hq j (by omega)
      have gd : ∀ j k, j < i + 1 → k < i + 1 → qS q i e j = qS q i e k → j = k := by
        intro j k hj hk
        unfold qS
        by_cases z : j = i
        · by_cases z2 : k = i
          · intro _; omega
          · rw [if_pos z, if_neg z2]
            intro ee
            exact absurd ⟨k, by omega, ee.symm⟩ c2
        · by_cases z2 : k = i
          · rw [if_neg z, if_pos z2]
            intro ee
            exact absurd ⟨j, by omega, ee⟩ c2
          · rw [if_neg z, if_neg z2]
            exact hd j k (by omega) (by omega)
      have fr1 := hfr.trans f1
      have k4 := kdT_le T N (enT T N b)
      unfold L_X4_readReceivers_12
      rw [show (3 : Int32) = nI 3 from rfl, le_nI (by decide) (by omega), show (nI (i + 1) = (0 : Int32)) = (nI (i + 1) = nI 0) from rfl, eq_nI (by omega) (by decide), gG, t1.2.1, show (1 : Int32) = nI 1 from rfl, eq_nI (by omega) (by decide)]
      have done : ¬ (kdT T N (enT T N b) = 1 ∧ i + 1 < 3) → K126 (stG 4 7 (sI (sI σ 29 P (3 * nL p + i) (nI e)) 28 P (nL p) (nI (i + 1))) r1 w1) := by
        intro c3
        rw [cif_neg c3] at h
        exact hK (i + 1) (qS q i e) _ h (by omega) (by omega) (by omega) n1.2 gq gd _ _ _ hF2 g28 g29 fr1 t1
      refine ⟨fun c3 => done (by omega), fun c3 => ⟨fun c4 => by omega, fun _ => ⟨fun c5 => done (fun c6 => c5 c6.1), fun c5 => ?_⟩⟩⟩
      rw [cif_pos ⟨c5, by omega⟩] at h
      exact ih (i + 1) (qS q i e) _ _ r1 w1 (by omega) (by omega) n1.2 hF2 g28 g29 gq gd z10 z3 fr1 t1 h (by omega)
    · rw [cif_pos a1, cif_neg a2] at h
      have nz := e.nz (by decide) (by decide)
      rw [gG]
      exact ⟨fun _ => j85x _ _ _ nz (hE 2 _ h (by decide) (by decide) _ _ _ hF (cv h1r e)), fun z => absurd z nz⟩
    · rw [cif_neg a1] at h
      have nz := e.nz (by decide) (by decide)
      rw [gG]
      exact ⟨fun _ => j85x _ _ _ nz (hE 1 _ h (by decide) (by decide) _ _ _ hF (cv h1r e)), fun z => absurd z nz⟩
end Recs
section Lnk
variable {σ : Hp} {T : Tx} {N b P hB : Nat} {r : Nat → Int32} {w : Int64} {Q : Hp → Prop} {OK : OT → Prop} {p : PD} {nm : Nat → Int64} {k : PD → (Nat → Int64) → Nat → Nat → OT}
theorem min40 {g : Nat} (h : g < 2 ^ 31) : (if nI g < 40 then nI g else 40) = nI (if g < 40 then g else 40) := by
  rw [show (40 : Int32) = nI 40 from rfl]
  by_cases c : g < 40
  · rw [if_pos (nI_lt c (by decide)), if_pos c]
  · rw [if_neg (fun q => c ((nI_ltI h (by decide)).mp q)), if_neg c]
theorem c_lnkL (hC : CK σ T N P p nm hB r w b) (hW : isW T N 7 b) (h : OK (lnkO T N p nm hB b k)) (hE : ∀ f pl, OK (erO f pl) → 1 ≤ f → f ≤ 6 → ∀ σ' r' w', FD P σ σ' → EPr r r' f pl → Q (stG 4 7 σ' r' w')) (hK : ∀ p' nm' b', OK (k p' nm' hB b') → b < b' → ∀ σ' r' w', FD P σ σ' → r' 1 = r 1 → CK σ' T N P p' nm' hB r' w' b' → Q (stG 4 7 σ' r' w')) : S_X4_readLink (stG 4 7 σ r w) Q := by
  obtain ⟨hN, hT, hb, hR, hP, hI, hD, h10, h3, h9, ht⟩ := hC
  obtain ⟨c0, c1, c2, c3, c4, c5, c6, c7, c8, c9, c10, c11, c12⟩ := cst_val
  have F0 := FD.refl P σ
  have h6 : nE p ≤ 6 := hI.1.2.2.2.2.2.1
  have h8 : nL p ≤ 8 := hI.1.2.2.2.2.2.2.1
  unfold lnkO at h
  rw [readLink_eq, gGR, hR, gGn (by decide), hD.2.1]
  refine ⟨hP, ?_⟩
  unfold S_X4_beginLine
  rw [gG, h9]
  have cv : ∀ {f pl : Nat} {ra rb : Nat → Int32}, ra 1 = r 1 → EPr ra rb f pl → EPr r rb f pl := fun a e => ⟨e.1.trans a, e.2.1, e.2.2⟩
  by_cases q0 : hB = 0
  · subst q0
    rw [cif_pos rfl] at h
    exact b0 (c_fail rfl h10 ht.1 (fun r' e => xA1 hR hP h6 h8 hD (e.nz (by decide) (by decide)) (hE 6 _ h (by decide) (by decide) _ _ _ F0 e)))
  rw [cif_neg q0] at h
  have h1 : hB = 1 := by have := hI.2.2.2; omega
  subst h1
  refine b1 ?_
  rw [show (8 : Int32) = nI 8 from rfl, lt_nI (by omega) (by decide)]
  refine ⟨fun hlt => ?_, fun hge => ?_⟩
  rotate_left
  · rw [cif_neg hge] at h
    exact c_fail rfl h10 ht.1 (fun r' e => xA1 hR hP h6 h8 hD (e.nz (by decide) (by decide)) (hE 5 _ h (by decide) (by decide) _ _ _ F0 e))
  rw [cif_pos hlt] at h
  -- link
  unfold LA1
  refine c_pass hN hT hb (j := 7) (by decide) c7 h10 h3 ht (fun _ r0 w0 f0 t0 => ?_) (fun i => absurd hW i)
  have n0 := nx_lt hb (show kdT T N b ≠ 0 by rw [hW.1]; decide)
  have z10 : r0 10 = 0 := (f0 10 (by decide) (by decide) (by decide) (by decide)).trans h10
  have z3 : r0 3 = nI N := (f0 3 (by decide) (by decide) (by decide) (by decide)).trans h3
  have z1 : r0 1 = r 1 := f0 1 (by decide) (by decide) (by decide) (by decide)
  -- its name
  unfold nmO at h
  unfold LA2
  refine c_newN hN hT n0.2 hR hP h6 h8 hD z10 z3 t0 (fun i td r1 w1 f1 t1 => ?_) (fun i td r1 v e => ?_) (fun i r1 v e => ?_)
  rotate_left
  · rw [cif_pos i, cif_pos td] at h
    exact xA3 hR hP h6 hD (e.nz (by decide) (by decide)) (hE 3 _ h (by decide) (by decide) _ _ _ F0 (cv z1 e))
  · rw [cif_neg i] at h
    exact xA3 hR hP h6 hD (e.nz (by decide) (by decide)) (hE 1 _ h (by decide) (by decide) _ _ _ F0 (cv z1 e))
  rw [cif_pos i, cif_neg td] at h
  obtain ⟨wn, hwn⟩ : ∃ wn, lN (wvT T N (enT T N b)) = wn := ⟨_, rfl⟩
  rw [hwn] at h ⊢
  dsimp only at h
  have n1 := nx_lt n0.2 (show kdT T N (enT T N b) ≠ 0 by rw [i.1]; decide)
  have y10 : r1 10 = 0 := (f1 10 (by decide) (by decide) (by decide) (by decide)).trans z10
  have y3 : r1 3 = nI N := (f1 3 (by decide) (by decide) (by decide) (by decide)).trans z3
  have y1 : r1 1 = r 1 := (f1 1 (by decide) (by decide) (by decide) (by decide)).trans z1
  obtain ⟨b1, hb1⟩ : ∃ b1, enT T N (enT T N b) = b1 := ⟨_, rfl⟩
  rw [hb1] at h n1 t1
  -- from
  unfold LA3
  refine c_pass hN hT n1.2 (j := 9) (by decide) c9 y10 y3 t1 (fun i2 r2 w2 f2 t2 => ?_) (fun i2 r2 e => ?_)
  rotate_left
  · rw [cif_neg i2] at h
    exact xA4 hR hP h6 hD (e.nz (by decide) (by decide)) (hE 1 _ h (by decide) (by decide) _ _ _ F0 (cv y1 e))
  rw [cif_pos i2] at h
  have n2 := nx_lt n1.2 (show kdT T N b1 ≠ 0 by rw [i2.1]; decide)
  have x10 : r2 10 = 0 := (f2 10 (by decide) (by decide) (by decide) (by decide)).trans y10
  have x3 : r2 3 = nI N := (f2 3 (by decide) (by decide) (by decide) (by decide)).trans y3
  have x1 : r2 1 = r 1 := (f2 1 (by decide) (by decide) (by decide) (by decide)).trans y1
  -- its end
  unfold keO at h
  unfold LA4
  refine c_known hN hT n2.2 hR hP h6 hD x10 x3 t2 (fun i3 i3' r3 w3 f3 t3 => ?_) (fun i3 i3' r3 v e => ?_) (fun i3 r3 v e => ?_)
  rotate_left
  · rw [cif_pos i3, cif_neg i3'] at h
    exact xA5 (e.nz (by decide) (by decide)) (hE 2 _ h (by decide) (by decide) _ _ _ F0 (cv x1 e))
  · rw [cif_neg i3] at h
    exact xA5 (e.nz (by decide) (by decide)) (hE 1 _ h (by decide) (by decide) _ _ _ F0 (cv x1 e))
  rw [cif_pos i3, cif_pos i3'] at h
  obtain ⟨fe, hfe⟩ : ∃ fe, fdE p nm (lN (wvT T N (enT T N b1))) = fe := ⟨_, rfl⟩
  rw [hfe] at h i3' ⊢
  dsimp only at h
  have n3 := nx_lt n2.2 (show kdT T N (enT T N b1) ≠ 0 by rw [i3.1]; decide)
  obtain ⟨b2, hb2⟩ : ∃ b2, enT T N (enT T N b1) = b2 := ⟨_, rfl⟩
  rw [hb2] at h n3 t3
  have u10 : r3 10 = 0 := (f3 10 (by decide) (by decide) (by decide) (by decide)).trans x10
  have u3 : r3 3 = nI N := (f3 3 (by decide) (by decide) (by decide) (by decide)).trans x3
  have u1 : r3 1 = r 1 := (f3 1 (by decide) (by decide) (by decide) (by decide)).trans x1
  -- gap
  unfold LA5
  refine c_pass hN hT n3.2 (j := 10) (by decide) c10 u10 u3 t3 (fun i4 r4 w4 f4 t4 => ?_) (fun i4 r4 e => ?_)
  rotate_left
  · rw [cif_neg i4] at h
    exact xA6 (e.nz (by decide) (by decide)) (hE 1 _ h (by decide) (by decide) _ _ _ F0 (cv u1 e))
  rw [cif_pos i4] at h
  have n4 := nx_lt n3.2 (show kdT T N b2 ≠ 0 by rw [i4.1]; decide)
  have v10 : r4 10 = 0 := (f4 10 (by decide) (by decide) (by decide) (by decide)).trans u10
  have v3 : r4 3 = nI N := (f4 3 (by decide) (by decide) (by decide) (by decide)).trans u3
  have v1 : r4 1 = r 1 := (f4 1 (by decide) (by decide) (by decide) (by decide)).trans u1
  unfold gapO at h
  unfold LA6
  refine c_wgap hN hT n4.2 v10 v3 t4 (fun i5 i5' r5 w5 f5 t5 => ?_) (fun i5 i5' r5 v e => ?_) (fun i5 r5 v e => ?_)
  rotate_left
  · rw [cif_pos i5, cif_neg i5'] at h
    exact xA7 (e.nz (by decide) (by decide)) (hE 4 _ h (by decide) (by decide) _ _ _ F0 (cv v1 e))
  · rw [cif_neg i5] at h
    exact xA7 (e.nz (by decide) (by decide)) (hE 1 _ h (by decide) (by decide) _ _ _ F0 (cv v1 e))
  rw [cif_pos i5, cif_pos i5'] at h
  have dg := dv_lt n4.2 i5
  obtain ⟨g, hg⟩ : ∃ g, dvT T N (enT T N b2) = g := ⟨_, rfl⟩
  rw [hg] at h i5' dg ⊢
  dsimp only at h
  have n5 := nx_lt n4.2 (show kdT T N (enT T N b2) ≠ 0 by rw [i5]; decide)
  obtain ⟨b3, hb3⟩ : ∃ b3, enT T N (enT T N b2) = b3 := ⟨_, rfl⟩
  rw [hb3] at h n5 t5
  have g10 : r5 10 = 0 := (f5 10 (by decide) (by decide) (by decide) (by decide)).trans v10
  have g3 : r5 3 = nI N := (f5 3 (by decide) (by decide) (by decide) (by decide)).trans v3
  have g1 : r5 1 = r 1 := (f5 1 (by decide) (by decide) (by decide) (by decide)).trans v1
  -- length
  unfold LA7
  refine c_pass hN hT n5.2 (j := 11) (by decide) c11 g10 g3 t5 (fun i6 r6 w6 f6 t6 => ?_) (fun i6 r6 e => ?_)
  rotate_left
  · exact xA8 (e.nz (by decide) (by decide)) (hE 1 _ (aft_no h i6) (by decide) (by decide) _ _ _ F0 (cv g1 e))
  have h2 := aft_yes h i6
  have n6 := nx_lt n5.2 (show kdT T N b3 ≠ 0 by rw [i6.1]; decide)
  have k10 : r6 10 = 0 := (f6 10 (by decide) (by decide) (by decide) (by decide)).trans g10
  have k3 : r6 3 = nI N := (f6 3 (by decide) (by decide) (by decide) (by decide)).trans g3
  have k1 : r6 1 = r 1 := (f6 1 (by decide) (by decide) (by decide) (by decide)).trans g1
  have l40 : (if g < 40 then g else 40) ≤ 40 ∧ (if g < 40 then g else 40) ≤ g := by
    split <;> omega
  unfold LA8
  rw [min40 (by omega)]
  refine c_within (lo := 1) hN hT n6.2 (by decide) (by omega) k10 k3 t6 (fun i7 i7' r7 w7 f7 t7 => ?_) (fun i7 i7' r7 v e => ?_) (fun i7 r7 v e => ?_)
  rotate_left
  · exact xA9 (e.nz (by decide) (by decide)) (hE 4 _ (ps_out h2 i7 i7') (by decide) (by decide) _ _ _ F0 (cv k1 e))
  · exact xA9 (e.nz (by decide) (by decide)) (hE 1 _ (ps_no h2 i7) (by decide) (by decide) _ _ _ F0 (cv k1 e))
  have h4 := ps_in h2 i7 i7'
  have dl := dv_lt n6.2 i7
  obtain ⟨le, hle⟩ : ∃ le, dvT T N (enT T N b3) = le := ⟨_, rfl⟩
  rw [hle] at h4 i7' dl ⊢
  have n7 := nx_lt n6.2 (show kdT T N (enT T N b3) ≠ 0 by rw [i7]; decide)
  obtain ⟨b4, hb4⟩ : ∃ b4, enT T N (enT T N b3) = b4 := ⟨_, rfl⟩
  rw [hb4] at h4 n7 t7
  have m10 : r7 10 = 0 := (f7 10 (by decide) (by decide) (by decide) (by decide)).trans k10
  have m3 : r7 3 = nI N := (f7 3 (by decide) (by decide) (by decide) (by decide)).trans k3
  have m1 : r7 1 = r 1 := (f7 1 (by decide) (by decide) (by decide) (by decide)).trans k1
  -- to
  unfold LA9
  refine c_pass hN hT n7.2 (j := 12) (by decide) c12 m10 m3 t7 (fun i8 r8 w8 f8 t8 => ?_) (fun i8 r8 e => ?_)
  rotate_left
  · rw [cif_neg i8] at h4
    exact xA10 (e.nz (by decide) (by decide)) (hE 1 _ h4 (by decide) (by decide) _ _ _ F0 (cv m1 e))
  rw [cif_pos i8] at h4
  have n8 := nx_lt n7.2 (show kdT T N b4 ≠ 0 by rw [i8.1]; decide)
  have p10 : r8 10 = 0 := (f8 10 (by decide) (by decide) (by decide) (by decide)).trans m10
  have p3 : r8 3 = nI N := (f8 3 (by decide) (by decide) (by decide) (by decide)).trans m3
  have p1 : r8 1 = r 1 := (f8 1 (by decide) (by decide) (by decide) (by decide)).trans m1
  have p9 : r8 9 = nI 1 := ((((((((f0.trans f1).trans f2).trans f3).trans f4).trans f5).trans f6).trans f7).trans f8 9 (by decide) (by decide) (by decide) (by decide)).trans h9
  unfold LA10
  rw [gG, p10]
  refine b0 ?_
  rw [gGR, hR, gGn (by decide), hD.2.1, ix_nI (by omega)]
  refine ⟨hP, vp_in_nI hlt (by decide), ?_⟩
  rintro _ rfl
  rw [sGLn (by decide), gGR, gR_sL, hR]
  refine ⟨hP, vp_in_nI hlt (by decide), ?_⟩
  rintro _ rfl
  rw [sGn (by decide), gGR, gR_sI, gR_sL, hR]
  refine ⟨hP, vp_in_nI hlt (by decide), ?_⟩
  rintro _ rfl
  rw [sGn (by decide), gGR, gR_sI, gR_sI, gR_sL, hR]
  refine ⟨hP, vp_in_nI hlt (by decide), ?_⟩
  rintro _ rfl
  rw [sGn (by decide)]
  unfold S_X4_readReceivers
  rw [gGR, gR_sI, gR_sI, gR_sI, gR_sL, hR, ix_nI (by omega)]
  refine ⟨hP, vp_in_nI hlt (by decide), ?_⟩
  rintro _ rfl
  rw [sGn (by decide)]
  have FF := ((((F0.l (a := 24) (by omega) (nL p) wn).s (a := 25) (by omega) (nL p) (nI fe)).s (a := 26) (by omega) (nL p) (nI g)).s (a := 27) (by omega) (nL p) (nI le)).s (a := 28) (by omega) (nL p) 0
  obtain ⟨σs, hσs⟩ : ∃ σs, sI (sI (sI (sI (sL σ 24 P (nL p) wn) 25 P (nL p) (nI fe)) 26 P (nL p) (nI g)) 27 P (nL p) (nI le)) 28 P (nL p) 0 = σs := ⟨_, rfl⟩
  have s24 : gL σs 24 P (nL p) = wn := by rw [← hσs, gL_sI, gL_sI, gL_sI, gL_sI, gL_sL, if_pos ⟨rfl, rfl, rfl⟩]
  have s25 : gI σs 25 P (nL p) = nI fe := by rw [← hσs, gI_sI, if_neg (by omega), gI_sI, if_neg (by omega), gI_sI, if_neg (by omega), gI_sI, if_pos ⟨rfl, rfl, rfl⟩]
  have s26 : gI σs 26 P (nL p) = nI g := by rw [← hσs, gI_sI, if_neg (by omega), gI_sI, if_neg (by omega), gI_sI, if_pos ⟨rfl, rfl, rfl⟩]
  have s27 : gI σs 27 P (nL p) = nI le := by rw [← hσs, gI_sI, if_neg (by omega), gI_sI, if_pos ⟨rfl, rfl, rfl⟩]
  have s28 : gI σs 28 P (nL p) = nI 0 := by rw [← hσs, gI_sI, if_pos ⟨rfl, rfl, rfl⟩]; rfl
  have oth : ∀ a c, (a ≠ 25 ∧ a ≠ 26 ∧ a ≠ 27 ∧ a ≠ 28) ∨ c ≠ nL p → gI σs a P c = gI σ a P c := by
    intro a c hc
    rw [← hσs, gI_sI, if_neg (by omega), gI_sI, if_neg (by omega), gI_sI, if_neg (by omega), gI_sI, if_neg (by omega), gI_sL]
  have othL : ∀ a c, a ≠ 24 ∨ c ≠ nL p → gL σs a P c = gL σ a P c := by
    intro a c hc
    rw [← hσs, gL_sI, gL_sI, gL_sI, gL_sI, gL_sL, if_neg (by omega)]
  have hDs : RDc σs P p nm 1 := by
    obtain ⟨a1, a2, a3, a4, a5, a6⟩ := hD
    refine ⟨by rw [oth 2 5 (by omega)]; exact a1, by rw [oth 2 6 (by omega)]; exact a2, fun q c hc => by rw [oth 2 c (by omega)]; exact a3 q c hc, fun e he => ?_, fun l hl => ?_, fun l i hl hi => ?_⟩
    · rw [oth 22 e (by omega), othL 23 e (by omega)]
      exact a4 e he
    · rw [oth 25 l (by omega), oth 26 l (by omega), oth 27 l (by omega), oth 28 l (by omega), othL 24 l (by omega)]
      exact a5 l hl
    · rw [oth 29 _ (by omega)]
      exact a6 l i hl hi
  rw [hσs] at FF ⊢
  have hRs : gR σs 1 = P := (FF.2.2 1).trans hR
  have hTs := hT.fd FF
  refine ⟨4, ?_⟩
  unfold L_X4_readReceivers_12
  refine ⟨fun z => absurd z (by decide), fun _ => ⟨fun _ => ?_, fun z => absurd rfl z⟩⟩
  refine c_recs (OK := OK) (bq := enT T N b4) hN hTs hRs hP hI.1 hlt hDs i3' s25 (fun f pl o f1 f6 σ' r' w' hF e => ?_) (fun i q b' o i1 i3 bl bN gq gd σ' r' w' hF g28 g29 hfr t' => ?_) 3 0 (fun _ => 0) (enT T N b4) σs r8 w8 (by omega) (Nat.le_refl _) n8.2 (FRl.refl P _ σs) s28 (fun j hj => by omega) (fun j hj => by omega) (fun j k hj => by omega) p10 p3 (Fr4.refl r8) t8 h4 (by decide)
  · dsimp only
    rw [gGR, hF.2.2, hRs]
    refine ⟨hP, ?_⟩
    rintro _ rfl
    rw [sGn (by decide)]
    exact hE f pl o f1 f6 _ _ _ ((FF.trans hF.fd).s (by omega) _ _) (cv p1 e)
  · have hD' := hDs.fr hI.1 hF
    dsimp only
    rw [gGR, hF.2.2, hRs, gGn (by decide), hD'.2.1, show nI (nL p) + 1 = nI (nL p + 1) from add_nI _ 1]
    refine ⟨hP, ?_⟩
    rintro _ rfl
    rw [sGn (by decide)]
    have FG := (FF.trans hF.fd).s (a := 2) (by omega) 6 (nI (nL p + 1))
    have r9' : r' 9 = nI 1 := (hfr 9 (by decide) (by decide) (by decide) (by decide)).trans p9
    refine hK _ _ _ o (by omega) _ r' w' FG ((hfr 1 (by decide) (by decide) (by decide) (by decide)).trans p1) ⟨hN, hT.fd FG, bN, (FG.2.2 1).trans hR, hP, PI_lnk hI hlt i3' i5' ⟨i7'.1, by omega, by omega⟩ ⟨i1, i3⟩ gq gd, ?_, (hfr 10 (by decide) (by decide) (by decide) (by decide)).trans p10, (hfr 3 (by decide) (by decide) (by decide) (by decide)).trans p3, r9', t'⟩
    have n0' : ∀ c, c ≠ 6 → lnkP p fe g le i q 0 c = p 0 c := fun c hc => lnkP_ne (by omega) (by omega)
    have n1' : ∀ c, lnkP p fe g le i q 1 c = p 1 c := fun c => lnkP_ne (by omega) (by omega)
    have en : nE (lnkP p fe g le i q) = nE p := n0' 5 (by decide)
    refine ⟨?_, ?_, fun _ c hc => ?_, fun e he => ?_, fun l hl => ?_, fun l j hl hj => ?_⟩
    · rw [gI_sI, if_neg (by omega), hD'.1, en]
    · rw [gI_sI, if_pos ⟨rfl, rfl, rfl⟩, lnkP_nL]
    · rw [gI_sI, if_neg (by omega), hD'.2.2.1 rfl c hc, n0' c (by omega)]
    · rw [en] at he
      have := hD'.2.2.2.1 e he
      rw [gI_sI, if_neg (by omega), gL_sI]
      refine ⟨this.1.trans (congrArg nI (n1' e).symm), this.2.trans (if_neg (by omega)).symm⟩
    · rw [lnkP_nL] at hl
      unfold fr gp ln rc
      rw [gI_sI, if_neg (by omega), gI_sI, if_neg (by omega), gI_sI, if_neg (by omega), gI_sI, if_neg (by omega), gL_sI]
      by_cases el : l = nL p
      · subst el
        have w0 : lnkP p fe g le i q 2 (7 * nL p) = fe := lnkP_row (k := 0) (by decide)
        rw [w0, lnkP_row (k := 1) (by decide), lnkP_row (k := 2) (by decide), lnkP_row (k := 3) (by decide), g28, hF.1 25 P _ (by omega), hF.1 26 P _ (by omega), hF.1 27 P _ (by omega), hF.2.1, s24, s25, s26, s27]
        exact ⟨rfl, rfl, rfl, rfl, (if_pos rfl).symm⟩
      · have nn : ∀ c, c < 7 → lnkP p fe g le i q 2 (7 * l + c) = p 2 (7 * l + c) := fun c hc => lnkP_ne (by omega) (by omega)
        have w0 : lnkP p fe g le i q 2 (7 * l) = p 2 (7 * l) := nn 0 (by decide)
        have := hD'.2.2.2.2.1 l (by omega)
        rw [w0, nn 1 (by decide), nn 2 (by decide), nn 3 (by decide)]
        exact ⟨this.1, this.2.1, this.2.2.1, this.2.2.2.1, this.2.2.2.2.trans (if_neg (by omega)).symm⟩
    · rw [lnkP_nL] at hl
      unfold rc at hj
      unfold re
      rw [gI_sI, if_neg (by omega)]
      by_cases el : l = nL p
      · subst el
        rw [lnkP_row (k := 3) (by decide)] at hj
        have hj' : j < i := hj
        rw [g29 j hj', Nat.add_assoc, lnkP_row (k := 4 + j) (by omega), Nat.add_comm 4 j]
        rfl
      · have nn : ∀ c, c < 7 → lnkP p fe g le i q 2 (7 * l + c) = p 2 (7 * l + c) := fun c hc => lnkP_ne (by omega) (by omega)
        rw [nn 3 (by decide)] at hj
        have hr := (hI.1.2.2.2.2.2.2.2.2 l (by omega)).2.2.2.2.2.2.1
        have hj3 : j < 3 := by unfold rc at hr; omega
        rw [Nat.add_assoc, nn (4 + j) (by omega), ← Nat.add_assoc]
        exact hD'.2.2.2.2.2 l j (by omega) hj
end Lnk
