/-! ===== the class reads: its steps ===== -/
def RDc (σ : Hp) (P : Nat) (p : PD) (nm : Nat → Int64) (hb : Nat) : Prop := gI σ 2 P 5 = nI (nE p) ∧ gI σ 2 P 6 = nI (nL p) ∧ (hb = 1 → ∀ k, k < 5 → gI σ 2 P k = nI (p 0 k)) ∧ (∀ e, e < nE p → gI σ 22 P e = nI (eS p e) ∧ gL σ 23 P e = nm e) ∧ (∀ l, l < nL p → gI σ 25 P l = nI (fr p l) ∧ gI σ 26 P l = nI (gp p l) ∧ gI σ 27 P l = nI (ln p l) ∧ gI σ 28 P l = nI (rc p l) ∧ gL σ 24 P l = nm (6 + l)) ∧ (∀ l i, l < nL p → i < rc p l → gI σ 29 P (3 * l + i) = nI (re p l i))
def EPr (r0 r : Nat → Int32) (f pl : Nat) : Prop := r 1 = r0 1 ∧ r 10 = nI f ∧ r 11 = nI pl
theorem kdT_le (T : Tx) (N b : Nat) : kdT T N b ≤ 4 := by
  have := tk_cases T N b
  omega
theorem nz_f {f : Nat} (h1 : 1 ≤ f) (h2 : f ≤ 6) : ¬ nI f = 0 := fun q => by
  have := nI_inj31 (a := f) (b := 0) (by omega) (by decide) q
  omega
section RdC
variable {σ : Hp} {T : Tx} {N b : Nat} {r : Nat → Int32} {w : Int64}
theorem c_isW {j : Nat} {x : Int64} {R : Int32 → Hp → Prop} (hb : b ≤ N) (hj : j < 13) (hx : x = lN (cstN j)) (ht : TCr T N b r w) (h1 : isW T N j b → R 1 (stG 4 7 σ r w)) (h0 : ¬ isW T N j b → R 0 (stG 4 7 σ r w)) : S_X4_isWord x (stG 4 7 σ r w) R := by
  have k4 := kdT_le T N b
  unfold S_X4_isWord
  rw [gG, gGL, ht.2.1, show (1 : Int32) = nI 1 from rfl, eq_nI (by omega) (by decide), hx]
  refine ⟨fun q => h0 (fun i => q i.1), fun q => ?_⟩
  have iw := isW_iff hb hj q
  rw [← ht.2.2.2.1 q] at iw
  exact ⟨fun q2 => h0 (fun i => q2 (iw.mpr i)), fun q2 => h1 (iw.mp q2)⟩
theorem x_isW {σ : Hp} {x : Int64} {R : Int32 → Hp → Prop} (h0 : R 0 σ) (h1 : R 1 σ) : S_X4_isWord x σ R := ⟨fun _ => h0, fun _ => ⟨fun _ => h0, fun _ => h1⟩⟩
theorem c_isN {R : Int32 → Hp → Prop} (hb : b ≤ N) (ht : TCr T N b r w) (h1 : isNm T N b → R 1 (stG 4 7 σ r w)) (h0 : ¬ isNm T N b → R 0 (stG 4 7 σ r w)) : S_X4_isName (stG 4 7 σ r w) R := by
  have k4 := kdT_le T N b
  unfold S_X4_isName
  rw [gG, gGL, ht.2.1, show (1 : Int32) = nI 1 from rfl, eq_nI (by omega) (by decide), cst_val.1, cst_val.2.2.2.2.2.2.1, cst_val.2.2.2.2.2.2.2.1]
  refine ⟨fun q => h0 (fun i => q i.1), fun q => ?_⟩
  have i0 := isW_iff (j := 0) hb (by decide) q
  have i6 := isW_iff (j := 6) hb (by decide) q
  have i7 := isW_iff (j := 7) hb (by decide) q
  rw [← ht.2.2.2.1 q] at i0 i6 i7
  exact ⟨fun a => h0 (fun n => n.2.1 (i0.mp a)), fun a => ⟨fun b => h0 (fun n => n.2.2.1 (i6.mp b)), fun b => ⟨fun c => h0 (fun n => n.2.2.2 (i7.mp c)), fun c => h1 ⟨q, fun n => a (i0.mpr n), fun n => b (i6.mpr n), fun n => c (i7.mpr n)⟩⟩⟩⟩
theorem x_isN {σ : Hp} {R : Int32 → Hp → Prop} (h0 : R 0 σ) (h1 : R 1 σ) : S_X4_isName σ R := ⟨fun _ => h0, fun _ => ⟨fun _ => h0, fun _ => ⟨fun _ => h0, fun _ => ⟨fun _ => h0, fun _ => h1⟩⟩⟩⟩
theorem x_step {Q : Hp → Prop} (h : ¬ r 10 = 0) (k : Q (stG 4 7 σ r w)) : S_X4_step (stG 4 7 σ r w) Q := by
  unfold S_X4_step
  rw [gG]
  exact ⟨fun q => absurd q h, fun _ => k⟩
theorem c_fail {f s : Nat} {c : Int32} {Q : Hp → Prop} (hc : c = nI f) (h10 : r 10 = 0) (h4 : r 4 = nI s) (k : ∀ r', EPr r r' f s → Q (stG 4 7 σ r' w)) : S_X4_fail c (stG 4 7 σ r w) Q := by
  unfold S_X4_fail
  rw [gG, h10]
  refine b0 ?_
  rintro _ rfl _ rfl
  rw [sG, gG, sG, pk_un (by decide), h4]
  refine k _ ⟨?_, ?_, pk_us⟩
  · rw [pk_un (by decide), pk_un (by decide)]
  · rw [pk_un (by decide), pk_us, hc]
theorem x_fail {c : Int32} {Q : Hp → Prop} (h : ¬ r 10 = 0) (k : Q (stG 4 7 σ r w)) : S_X4_fail c (stG 4 7 σ r w) Q := by
  unfold S_X4_fail
  rw [gG]
  exact ⟨fun _ => k, fun q => absurd q h⟩
theorem EPr.nz {r0 r : Nat → Int32} {f pl : Nat} (h : EPr r0 r f pl) (h1 : 1 ≤ f) (h2 : f ≤ 6) : ¬ r 10 = 0 := by
  rw [h.2.1]
  exact nz_f h1 h2
theorem c_pass {j : Nat} {x : Int64} {Q : Hp → Prop} (hN : N ≤ 900) (hT : CT σ T N) (hb : b ≤ N) (hj : j < 13) (hx : x = lN (cstN j)) (h10 : r 10 = 0) (h3 : r 3 = nI N) (ht : TCr T N b r w) (h1 : isW T N j b → ∀ r' w', Fr4 r r' → TCr T N (enT T N b) r' w' → Q (stG 4 7 σ r' w')) (h0 : ¬ isW T N j b → ∀ r', EPr r r' 1 (stT T N b) → Q (stG 4 7 σ r' w)) : S_X4_pass x (stG 4 7 σ r w) Q := by
  unfold S_X4_pass
  refine c_isW hb hj hx ht (fun i => b1 ?_) (fun i => b0 ?_)
  · exact c_tok hN hT (tk_le hb).2.2.2.1 h10 h3 (ht.2.2.1 (by rw [i.1]; decide)) (h1 i)
  · exact c_fail rfl h10 ht.1 (fun r' e => x_step (e.nz (by decide) (by decide)) (h0 i r' e))
theorem x_pass {x : Int64} {Q : Hp → Prop} (h : ¬ r 10 = 0) (k : Q (stG 4 7 σ r w)) : S_X4_pass x (stG 4 7 σ r w) Q := by
  unfold S_X4_pass
  exact x_isW (b0 (x_fail h (x_step h k))) (b1 (x_step h k))
theorem c_checked {x : Int32} {R : Int32 → Hp → Prop} (hN : N ≤ 900) (hT : CT σ T N) (hb : b ≤ N) (h10 : r 10 = 0) (h3 : r 3 = nI N) (ht : TCr T N b r w) (h1 : kdT T N b = 2 → ¬ x = 0 → ∀ r' w', Fr4 r r' → TCr T N (enT T N b) r' w' → R (nI (dvT T N b)) (stG 4 7 σ r' w')) (h4 : kdT T N b = 2 → x = 0 → ∀ r' v, EPr r r' 4 (stT T N b) → R v (stG 4 7 σ r' w)) (h0 : ¬ kdT T N b = 2 → ∀ r' v, EPr r r' 1 (stT T N b) → R v (stG 4 7 σ r' w)) : S_X4_checkedWhole x (stG 4 7 σ r w) R := by
  have k4 := kdT_le T N b
  unfold S_X4_checkedWhole
  rw [gG, ht.2.1, show (2 : Int32) = nI 2 from rfl, eq_nI (by omega) (by decide)]
  refine ⟨fun q => ⟨fun q2 => ?_, fun q2 => ?_⟩, fun q => ?_⟩
  · unfold J_X4_checkedWhole_25
    rw [gG, ht.2.2.2.2 q]
    exact c_tok hN hT (tk_le hb).2.2.2.1 h10 h3 (ht.2.2.1 (by rw [q]; decide)) (h1 q q2)
  · exact c_fail rfl h10 ht.1 (fun r' e => x_step (e.nz (by decide) (by decide)) (h4 q q2 r' _ e))
  · exact c_fail rfl h10 ht.1 (fun r' e => x_step (e.nz (by decide) (by decide)) (h0 q r' _ e))
theorem x_checked {x : Int32} {R : Int32 → Hp → Prop} (h : ¬ r 10 = 0) (k : ∀ v, R v (stG 4 7 σ r w)) : S_X4_checkedWhole x (stG 4 7 σ r w) R := by
  unfold S_X4_checkedWhole J_X4_checkedWhole_25
  exact ⟨fun _ => ⟨fun _ => x_step h (k _), fun _ => x_fail h (x_step h (k _))⟩, fun _ => x_fail h (x_step h (k _))⟩
theorem c_within {lo hi : Nat} {R : Int32 → Hp → Prop} (hN : N ≤ 900) (hT : CT σ T N) (hb : b ≤ N) (hlo : lo < 2 ^ 31) (hhi : hi < 2 ^ 31) (h10 : r 10 = 0) (h3 : r 3 = nI N) (ht : TCr T N b r w) (h1 : kdT T N b = 2 → lo ≤ dvT T N b ∧ dvT T N b ≤ hi → ∀ r' w', Fr4 r r' → TCr T N (enT T N b) r' w' → R (nI (dvT T N b)) (stG 4 7 σ r' w')) (h4 : kdT T N b = 2 → ¬ (lo ≤ dvT T N b ∧ dvT T N b ≤ hi) → ∀ r' v, EPr r r' 4 (stT T N b) → R v (stG 4 7 σ r' w)) (h0 : ¬ kdT T N b = 2 → ∀ r' v, EPr r r' 1 (stT T N b) → R v (stG 4 7 σ r' w)) : S_X4_wholeWithin (nI lo) (nI hi) (stG 4 7 σ r w) R := by
  unfold S_X4_wholeWithin
  by_cases q : kdT T N b = 2
  · have d := dv_lt hb q
    rw [gG, ht.2.2.2.2 q, lt_nI (by omega) hlo, lt_nI hhi (by omega)]
    unfold J_X4_wholeWithin_21 J_X4_wholeWithin_22
    refine ⟨fun a => c_checked hN hT hb h10 h3 ht (fun _ z => absurd rfl z) (fun _ _ => h4 q (by omega)) h0, fun a => ⟨fun a2 => c_checked hN hT hb h10 h3 ht (fun _ z => absurd rfl z) (fun _ _ => h4 q (by omega)) h0, fun a2 => c_checked hN hT hb h10 h3 ht (fun _ _ => h1 q (by omega)) (fun _ z => absurd z (by decide)) h0⟩⟩
  · have e : ∀ x : Int32, S_X4_checkedWhole x (stG 4 7 σ r w) R := fun x => c_checked hN hT hb h10 h3 ht (fun z => absurd z q) (fun z => absurd z q) h0
    exact ⟨fun _ => e 0, fun _ => ⟨fun _ => e 0, fun _ => e 1⟩⟩
theorem x_within {x y : Int32} {R : Int32 → Hp → Prop} (h : ¬ r 10 = 0) (k : ∀ v, R v (stG 4 7 σ r w)) : S_X4_wholeWithin x y (stG 4 7 σ r w) R :=
  ⟨fun _ => x_checked h k, fun _ => ⟨fun _ => x_checked h k, fun _ => x_checked h k⟩⟩
def bcI (x0 : Int32) : Int32 := (((((((x0 - (((x0.toUInt32 >>> ((1 : Int32).toUInt32 &&& Int32.toUInt32 31)).toInt32) &&& 1431655765)) &&& 858993459) + ((((x0 - (((x0.toUInt32 >>> ((1 : Int32).toUInt32 &&& Int32.toUInt32 31)).toInt32) &&& 1431655765)).toUInt32 >>> ((2 : Int32).toUInt32 &&& Int32.toUInt32 31)).toInt32) &&& 858993459)) + (((((x0 - (((x0.toUInt32 >>> ((1 : Int32).toUInt32 &&& Int32.toUInt32 31)).toInt32) &&& 1431655765)) &&& 858993459) + ((((x0 - (((x0.toUInt32 >>> ((1 : Int32).toUInt32 &&& Int32.toUInt32 31)).toInt32) &&& 1431655765)).toUInt32 >>> ((2 : Int32).toUInt32 &&& Int32.toUInt32 31)).toInt32) &&& 858993459)).toUInt32 >>> ((4 : Int32).toUInt32 &&& Int32.toUInt32 31)).toInt32)) &&& 252645135) + (((((((x0 - (((x0.toUInt32 >>> ((1 : Int32).toUInt32 &&& Int32.toUInt32 31)).toInt32) &&& 1431655765)) &&& 858993459) + ((((x0 - (((x0.toUInt32 >>> ((1 : Int32).toUInt32 &&& Int32.toUInt32 31)).toInt32) &&& 1431655765)).toUInt32 >>> ((2 : Int32).toUInt32 &&& Int32.toUInt32 31)).toInt32) &&& 858993459)) + (((((x0 - (((x0.toUInt32 >>> ((1 : Int32).toUInt32 &&& Int32.toUInt32 31)).toInt32) &&& 1431655765)) &&& 858993459) + ((((x0 - (((x0.toUInt32 >>> ((1 : Int32).toUInt32 &&& Int32.toUInt32 31)).toInt32) &&& 1431655765)).toUInt32 >>> ((2 : Int32).toUInt32 &&& Int32.toUInt32 31)).toInt32) &&& 858993459)).toUInt32 >>> ((4 : Int32).toUInt32 &&& Int32.toUInt32 31)).toInt32)) &&& 252645135).toUInt32 >>> ((8 : Int32).toUInt32 &&& Int32.toUInt32 31)).toInt32)) + ((((((((x0 - (((x0.toUInt32 >>> ((1 : Int32).toUInt32 &&& Int32.toUInt32 31)).toInt32) &&& 1431655765)) &&& 858993459) + ((((x0 - (((x0.toUInt32 >>> ((1 : Int32).toUInt32 &&& Int32.toUInt32 31)).toInt32) &&& 1431655765)).toUInt32 >>> ((2 : Int32).toUInt32 &&& Int32.toUInt32 31)).toInt32) &&& 858993459)) + (((((x0 - (((x0.toUInt32 >>> ((1 : Int32).toUInt32 &&& Int32.toUInt32 31)).toInt32) &&& 1431655765)) &&& 858993459) + ((((x0 - (((x0.toUInt32 >>> ((1 : Int32).toUInt32 &&& Int32.toUInt32 31)).toInt32) &&& 1431655765)).toUInt32 >>> ((2 : Int32).toUInt32 &&& Int32.toUInt32 31)).toInt32) &&& 858993459)).toUInt32 >>> ((4 : Int32).toUInt32 &&& Int32.toUInt32 31)).toInt32)) &&& 252645135) + (((((((x0 - (((x0.toUInt32 >>> ((1 : Int32).toUInt32 &&& Int32.toUInt32 31)).toInt32) &&& 1431655765)) &&& 858993459) + ((((x0 - (((x0.toUInt32 >>> ((1 : Int32).toUInt32 &&& Int32.toUInt32 31)).toInt32) &&& 1431655765)).toUInt32 >>> ((2 : Int32).toUInt32 &&& Int32.toUInt32 31)).toInt32) &&& 858993459)) + (((((x0 - (((x0.toUInt32 >>> ((1 : Int32).toUInt32 &&& Int32.toUInt32 31)).toInt32) &&& 1431655765)) &&& 858993459) + ((((x0 - (((x0.toUInt32 >>> ((1 : Int32).toUInt32 &&& Int32.toUInt32 31)).toInt32) &&& 1431655765)).toUInt32 >>> ((2 : Int32).toUInt32 &&& Int32.toUInt32 31)).toInt32) &&& 858993459)).toUInt32 >>> ((4 : Int32).toUInt32 &&& Int32.toUInt32 31)).toInt32)) &&& 252645135).toUInt32 >>> ((8 : Int32).toUInt32 &&& Int32.toUInt32 31)).toInt32)).toUInt32 >>> ((16 : Int32).toUInt32 &&& Int32.toUInt32 31)).toInt32)) &&& 63
theorem bc_gap : ∀ v, v < 257 → 8 ≤ v → (bcI (nI v) = 1 ↔ (v = 8 ∨ v = 16 ∨ v = 32 ∨ v = 64 ∨ v = 128 ∨ v = 256)) := by decide +kernel
theorem c_wgap {R : Int32 → Hp → Prop} (hN : N ≤ 900) (hT : CT σ T N) (hb : b ≤ N) (h10 : r 10 = 0) (h3 : r 3 = nI N) (ht : TCr T N b r w) (h1 : kdT T N b = 2 → isGap (dvT T N b) → ∀ r' w', Fr4 r r' → TCr T N (enT T N b) r' w' → R (nI (dvT T N b)) (stG 4 7 σ r' w')) (h4 : kdT T N b = 2 → ¬ isGap (dvT T N b) → ∀ r' v, EPr r r' 4 (stT T N b) → R v (stG 4 7 σ r' w)) (h0 : ¬ kdT T N b = 2 → ∀ r' v, EPr r r' 1 (stT T N b) → R v (stG 4 7 σ r' w)) : S_X4_wholeGap (stG 4 7 σ r w) R := by
  unfold S_X4_wholeGap
  by_cases q : kdT T N b = 2
  · have d := dv_lt hb q
    have no : ¬ isGap (dvT T N b) → J_X4_wholeGap_35 R (stG 4 7 σ r w) := fun ng => c_checked hN hT hb h10 h3 ht (fun _ z => absurd rfl z) (fun _ _ => h4 q ng) h0
    have yes : isGap (dvT T N b) → J_X4_wholeGap_36 R 1 (stG 4 7 σ r w) := fun g => c_checked hN hT hb h10 h3 ht (fun _ _ => h1 q g) (fun _ z => absurd z (by decide)) h0
    rw [gG, ht.2.2.2.2 q, show (8 : Int32) = nI 8 from rfl, show (256 : Int32) = nI 256 from rfl, lt_nI (by omega) (by decide), lt_nI (by decide) (by omega)]
    refine ⟨fun a => no (fun g => by have := gap_256 g; omega), fun a => ⟨fun a2 => no (fun g => by have := gap_256 g; omega), fun a2 => ?_⟩⟩
    have bc := bc_gap (dvT T N b) (by omega) (by omega)
    exact ⟨fun a3 => no (fun g => a3 (bc.mpr g)), fun a3 => yes (bc.mp a3)⟩
  · have e : ∀ x : Int32, S_X4_checkedWhole x (stG 4 7 σ r w) R := fun x => c_checked hN hT hb h10 h3 ht (fun z => absurd z q) (fun z => absurd z q) h0
    exact ⟨fun _ => e 0, fun _ => ⟨fun _ => e 0, fun _ => ⟨fun _ => e 0, fun _ => e 1⟩⟩⟩
theorem x_wgap {R : Int32 → Hp → Prop} (h : ¬ r 10 = 0) (k : ∀ v, R v (stG 4 7 σ r w)) : S_X4_wholeGap (stG 4 7 σ r w) R :=
  ⟨fun _ => x_checked h k, fun _ => ⟨fun _ => x_checked h k, fun _ => ⟨fun _ => x_checked h k, fun _ => x_checked h k⟩⟩⟩
variable {p : PD} {nm : Nat → Int64} {P hB : Nat}
theorem c_endN {x : Int64} {R : Int32 → Hp → Prop} (h6 : nE p ≤ 6) (hD : RDc σ P p nm hB) (h1 : ∀ e, e < nE p → mtN nm x e → (∀ e', e' < e → ¬ mtN nm x e') → R (nI e) (stG 4 7 σ r w)) (h0 : (∀ e, e < nE p → ¬ mtN nm x e) → R (-1) (stG 4 7 σ r w)) : S_X2_endNamed P x (stG 4 7 σ r w) R := by
  have go : ∀ j k, k + j = nE p → (∀ e, e < k → ¬ mtN nm x e) → L_X2_endNamed_2 R (fun σ2 => R (-1) σ2) (fun w4 σ3 => R w4 σ3) P x (j + 1) (nI k) (stG 4 7 σ r w) := by
    intro j
    induction j with
    | zero =>
      intro k hk hno
      have : k = nE p := by omega
      subst this
      unfold L_X2_endNamed_2
      rw [gGn (by decide), hD.1]
      exact ⟨fun _ => h0 hno, fun q => absurd (nI_le (Nat.le_refl (nE p)) (by omega)) q⟩
    | succ j ih =>
      intro k hk hno
      unfold L_X2_endNamed_2
      rw [gGn (by decide), hD.1, le_nI (by omega) (by omega), ix_nI (by omega), gGLn (by decide), (hD.2.2.2.1 k (by omega)).2, show (1 : Int32) = nI 1 from rfl, add_nI]
      refine ⟨fun q => by omega, fun _ => ⟨vp_in_nI (by omega) (by decide), fun q => ih (k + 1) (by omega) (fun e he => ?_), fun q => h1 k (by omega) q hno⟩⟩
      rcases Nat.lt_or_ge e k with a | a
      · exact hno e a
      · rw [show e = k by omega]
        exact q
  exact ⟨nE p + 1, go (nE p) 0 (by omega) (fun e he => by omega)⟩
theorem c_lnkN {x : Int64} {R : Int32 → Hp → Prop} (h8 : nL p ≤ 8) (hD : RDc σ P p nm hB) (h1 : ∀ e, e < nL p → mtN nm x (6 + e) → R (nI e) (stG 4 7 σ r w)) (h0 : (∀ e, e < nL p → ¬ mtN nm x (6 + e)) → R (-1) (stG 4 7 σ r w)) : S_X2_linkNamed P x (stG 4 7 σ r w) R := by
  have go : ∀ j k, k + j = nL p → (∀ e, e < k → ¬ mtN nm x (6 + e)) → L_X2_linkNamed_2 R (fun σ2 => R (-1) σ2) (fun w4 σ3 => R w4 σ3) P x (j + 1) (nI k) (stG 4 7 σ r w) := by
    intro j
    induction j with
    | zero =>
      intro k hk hno
      have : k = nL p := by omega
      subst this
      unfold L_X2_linkNamed_2
      rw [gGn (by decide), hD.2.1]
      exact ⟨fun _ => h0 hno, fun q => absurd (nI_le (Nat.le_refl (nL p)) (by omega)) q⟩
    | succ j ih =>
      intro k hk hno
      unfold L_X2_linkNamed_2
      rw [gGn (by decide), hD.2.1, le_nI (by omega) (by omega), ix_nI (by omega), gGLn (by decide), (hD.2.2.2.2.1 k (by omega)).2.2.2.2, show (1 : Int32) = nI 1 from rfl, add_nI]
      refine ⟨fun q => by omega, fun _ => ⟨vp_in_nI (by omega) (by decide), fun q => ih (k + 1) (by omega) (fun e he => ?_), fun q => h1 k (by omega) q⟩⟩
      rcases Nat.lt_or_ge e k with a | a
      · exact hno e a
      · rw [show e = k by omega]
        exact q
  exact ⟨nL p + 1, go (nL p) 0 (by omega) (fun e he => by omega)⟩
theorem c_newN {R : Int64 → Hp → Prop} (hN : N ≤ 900) (hT : CT σ T N) (hb : b ≤ N) (hR : gR σ 1 = P) (hP : P < 2) (h6 : nE p ≤ 6) (h8 : nL p ≤ 8) (hD : RDc σ P p nm hB) (h10 : r 10 = 0) (h3 : r 3 = nI N) (ht : TCr T N b r w) (h1 : isNm T N b → ¬ toldP p nm (lN (wvT T N b)) → ∀ r' w', Fr4 r r' → TCr T N (enT T N b) r' w' → R (lN (wvT T N b)) (stG 4 7 σ r' w')) (h2 : isNm T N b → toldP p nm (lN (wvT T N b)) → ∀ r' v, EPr r r' 3 (stT T N b) → R v (stG 4 7 σ r' w)) (h0 : ¬ isNm T N b → ∀ r' v, EPr r r' 1 (stT T N b) → R v (stG 4 7 σ r' w)) : S_X4_newName (stG 4 7 σ r w) R := by
  have l8 : ∀ k, k < 8 → ¬ nI k = -1 := fun k hk => ne_m1 (by omega)
  unfold S_X4_newName
  refine c_isN hb ht (fun i => b1 ?_) (fun i => b0 ?_)
  · have ew := ht.2.2.2.1 i.1
    have bad : toldP p nm (lN (wvT T N b)) → J_X4_newName_45 R (stG 4 7 σ r w) := fun td => c_fail rfl h10 ht.1 (fun r' e => x_step (e.nz (by decide) (by decide)) (h2 i td r' _ e))
    rw [gGR, hR, gGL, ew]
    rw [ew] at bad
    refine ⟨hP, c_endN h6 hD (fun e he m _ => ⟨fun _ => bad (Or.inl ⟨e, he, m⟩), fun q => absurd q (l8 e (by omega))⟩) (fun hno => ⟨fun q => absurd rfl q, fun _ => ?_⟩)⟩
    rw [gGR, hR, gGL]
    refine ⟨hP, c_lnkN h8 hD (fun e he m => ⟨fun q => absurd q (l8 e (by omega)), fun _ => bad (Or.inr ⟨e, he, m⟩)⟩) (fun hno2 => ⟨fun _ => ?_, fun q => absurd rfl q⟩)⟩
    unfold J_X4_newName_50
    rw [gGL]
    refine c_tok hN hT (tk_le hb).2.2.2.1 h10 h3 (ht.2.2.1 (by rw [i.1]; decide)) (h1 i (fun td => ?_))
    rcases td with ⟨e, he, m⟩ | ⟨e, he, m⟩
    · exact hno e he m
    · exact hno2 e he m
  · exact c_fail rfl h10 ht.1 (fun r' e => x_step (e.nz (by decide) (by decide)) (h0 i r' _ e))
theorem x_newN {R : Int64 → Hp → Prop} (hR : gR σ 1 = P) (hP : P < 2) (h6 : nE p ≤ 6) (h8 : nL p ≤ 8) (hD : RDc σ P p nm hB) (h : ¬ r 10 = 0) (k : ∀ v, R v (stG 4 7 σ r w)) : S_X4_newName (stG 4 7 σ r w) R := by
  have l8 : ∀ k, k < 8 → ¬ nI k = -1 := fun k hk => ne_m1 (by omega)
  have j50 : J_X4_newName_50 R (stG 4 7 σ r w) := x_step h (k _)
  have j45 : J_X4_newName_45 R (stG 4 7 σ r w) := x_fail h j50
  unfold S_X4_newName
  refine x_isN (b0 (x_fail h j50)) (b1 ?_)
  rw [gGR, hR]
  refine ⟨hP, c_endN h6 hD (fun e he _ _ => ⟨fun _ => j45, fun q => absurd q (l8 e (by omega))⟩) (fun _ => ⟨fun q => absurd rfl q, fun _ => ?_⟩)⟩
  rw [gGR, hR]
  exact ⟨hP, c_lnkN h8 hD (fun e he _ => ⟨fun q => absurd q (l8 e (by omega)), fun _ => j45⟩) (fun _ => ⟨fun _ => j50, fun q => absurd rfl q⟩)⟩
theorem c_known {R : Int32 → Hp → Prop} (hN : N ≤ 900) (hT : CT σ T N) (hb : b ≤ N) (hR : gR σ 1 = P) (hP : P < 2) (h6 : nE p ≤ 6) (hD : RDc σ P p nm hB) (h10 : r 10 = 0) (h3 : r 3 = nI N) (ht : TCr T N b r w) (h1 : isNm T N b → fdE p nm (lN (wvT T N b)) < nE p → ∀ r' w', Fr4 r r' → TCr T N (enT T N b) r' w' → R (nI (fdE p nm (lN (wvT T N b)))) (stG 4 7 σ r' w')) (h2 : isNm T N b → ¬ fdE p nm (lN (wvT T N b)) < nE p → ∀ r' v, EPr r r' 2 (stT T N b) → R v (stG 4 7 σ r' w)) (h0 : ¬ isNm T N b → ∀ r' v, EPr r r' 1 (stT T N b) → R v (stG 4 7 σ r' w)) : S_X4_knownEnd (stG 4 7 σ r w) R := by
  have l8 : ∀ k, k < 8 → ¬ nI k = -1 := fun k hk => ne_m1 (by omega)
  have bad : ∀ v, ¬ isNm T N b → S_X4_fail 1 (stG 4 7 σ r w) (fun σ8 => J_X4_knownEnd_37 R v σ8) := fun v i => c_fail rfl h10 ht.1 (fun r' e => x_step (e.nz (by decide) (by decide)) (h0 i r' _ e))
  unfold S_X4_knownEnd
  rw [gGR, hR, gGL]
  refine ⟨hP, c_endN h6 hD (fun e he m m2 => c_isN hb ht (fun i => b1 ⟨fun _ => ?_, fun q => absurd q (l8 e (by omega))⟩) (fun i => b0 (bad _ i))) (fun hno => c_isN hb ht (fun i => b1 ⟨fun q => absurd rfl q, fun _ => ?_⟩) (fun i => b0 (bad _ i)))⟩
  · have ew := ht.2.2.2.1 i.1
    rw [ew] at m m2
    have fe := fdE_some (p := p) he m m2
    rw [fe] at h1
    exact c_tok hN hT (tk_le hb).2.2.2.1 h10 h3 (ht.2.2.1 (by rw [i.1]; decide)) (h1 i he)
  · have ew := ht.2.2.2.1 i.1
    rw [ew] at hno
    exact c_fail rfl h10 ht.1 (fun r' e => x_step (e.nz (by decide) (by decide)) (h2 i (fdE_none hno) r' _ e))
theorem x_known {R : Int32 → Hp → Prop} (hR : gR σ 1 = P) (hP : P < 2) (h6 : nE p ≤ 6) (hD : RDc σ P p nm hB) (h : ¬ r 10 = 0) (k : ∀ v, R v (stG 4 7 σ r w)) : S_X4_knownEnd (stG 4 7 σ r w) R := by
  have j37 : ∀ v, J_X4_knownEnd_37 R v (stG 4 7 σ r w) := fun v => x_step h (k _)
  have all : ∀ v, S_X4_isName (stG 4 7 σ r w) (fun r5 σ4 => ((¬ r5 = 0 → ((¬ v = (-1) → J_X4_knownEnd_37 R v σ4) ∧ (v = (-1) → S_X4_fail 2 σ4 (fun σ7 => J_X4_knownEnd_37 R v σ7)))) ∧ (r5 = 0 → S_X4_fail 1 σ4 (fun σ8 => J_X4_knownEnd_37 R v σ8)))) := fun v => x_isN (b0 (x_fail h (j37 v))) (b1 ⟨fun _ => j37 v, fun _ => x_fail h (j37 v)⟩)
  unfold S_X4_knownEnd
  rw [gGR, hR]
  exact ⟨hP, c_endN h6 hD (fun e _ _ _ => all _) (fun _ => all _)⟩
end RdC
