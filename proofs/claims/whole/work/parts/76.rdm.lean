/-! ===== the reference reads: its steps ===== -/
def RDm (σ : Hp) (p : PD) (nm : Nat → Int64) (hb : Nat) : Prop := gI σ 54 0 5 = nI (nE p) ∧ gI σ 54 0 6 = nI (nL p) ∧ (hb = 1 → ∀ k, k < 5 → gI σ 54 0 k = nI (p 0 k)) ∧ (∀ e, e < nE p → gI σ 56 0 e = nI (eS p e) ∧ gL σ 60 0 e = nm e) ∧ (∀ l, l < nL p → (∀ j, j < 4 → gI σ 58 0 (7 * l + j) = nI (p 2 (7 * l + j))) ∧ gL σ 60 0 (6 + l) = nm (6 + l)) ∧ (∀ l i, l < nL p → i < rc p l → gI σ 58 0 (7 * l + 4 + i) = nI (re p l i))
def FrM (r0 r : Nat → Int32) : Prop := ∀ c, c < 15 ∨ 24 ≤ c → r c = r0 c
theorem FrM.refl (r : Nat → Int32) : FrM r r := fun _ _ => rfl
theorem FrM.trans {r0 r r2 : Nat → Int32} (h : FrM r0 r) (h2 : FrM r r2) : FrM r0 r2 := fun c q => (h2 c q).trans (h c q)
theorem FrM.u {r0 r : Nat → Int32} (h : FrM r0 r) {c : Nat} (hc : 15 ≤ c ∧ c < 24) (v : Int32) : FrM r0 (upd r c v) := fun x q => by
  rw [pk_un (by omega)]
  exact h x q
theorem Fr8.m {r0 r : Nat → Int32} (h : Fr8 r0 r) : FrM r0 r := fun c q => h c (by omega) (by omega) (by omega) (by omega)
def EPm (r0 r : Nat → Int32) (f pl : Nat) : Prop := FrM r0 r ∧ r 21 = nI f ∧ r 22 = nI pl
def FM (σ σ' : Hp) : Prop := (∀ a b c, a ≠ 54 → a ≠ 56 → a ≠ 58 → gI σ' a b c = gI σ a b c) ∧ (∀ a b c, a ≠ 60 → gL σ' a b c = gL σ a b c) ∧ (∀ a, gR σ' a = gR σ a)
theorem FM.refl (σ : Hp) : FM σ σ := ⟨fun _ _ _ _ _ _ => rfl, fun _ _ _ _ => rfl, fun _ => rfl⟩
theorem FM.trans {σ σ' σ'' : Hp} (h : FM σ σ') (h2 : FM σ' σ'') : FM σ σ'' := ⟨fun a b c q1 q2 q3 => (h2.1 a b c q1 q2 q3).trans (h.1 a b c q1 q2 q3), fun a b c q => (h2.2.1 a b c q).trans (h.2.1 a b c q), fun a => (h2.2.2 a).trans (h.2.2 a)⟩
theorem FM.s {σ σ' : Hp} (h : FM σ σ') {a : Nat} (ha : a = 54 ∨ a = 56 ∨ a = 58) (i c : Nat) (v : Int32) : FM σ (sI σ' a i c v) := by
  refine ⟨fun x y z q1 q2 q3 => ?_, fun x y z q => h.2.1 x y z q, fun x => h.2.2 x⟩
  rw [gI_sI, if_neg (by omega)]
  exact h.1 x y z q1 q2 q3
theorem FM.l {σ σ' : Hp} (h : FM σ σ') (i c : Nat) (v : Int64) : FM σ (sL σ' 60 i c v) := by
  refine ⟨fun x y z q1 q2 q3 => h.1 x y z q1 q2 q3, fun x y z q => ?_, fun x => h.2.2 x⟩
  rw [gL_sL, if_neg (by omega)]
  exact h.2.1 x y z q
theorem MT.fm {σ σ' : Hp} {T : Tx} {N : Nat} (h : MT σ T N) (hd : FM σ σ') : MT σ' T N := by
  intro k hk
  rw [hd.1 52 0 k (by decide) (by decide) (by decide)]
  exact h k hk
theorem mk_eq {k j : Nat} (hk : k ≤ 4) (hj : j ≤ 4) : (nI (mkT k) = nI (mkT j)) = (k = j) := by
  have a : k = 0 ∨ k = 1 ∨ k = 2 ∨ k = 3 ∨ k = 4 := by omega
  have b : j = 0 ∨ j = 1 ∨ j = 2 ∨ j = 3 ∨ j = 4 := by omega
  rcases a with a | a | a | a | a <;> rcases b with b | b | b | b | b <;> subst a <;> subst b <;> decide
section RdM
variable {σ : Hp} {T : Tx} {N b : Nat} {r : Nat → Int32} {w : Int64}
theorem m_errs {f s : Nat} {c : Int32} {R : Int32 → Hp → Prop} (hc : c = nI f) (h16 : r 16 = nI s) (k : ∀ r', EPm r r' f s → R (-1) (stG 8 20 σ r' w)) : S_X8_errs c (stG 8 20 σ r w) R := by
  unfold S_X8_errs
  rintro _ rfl _ rfl
  rw [sG, gG, sG, pk_un (by decide), h16]
  refine k _ ⟨((FrM.refl r).u (by omega) _).u (by omega) _, ?_, pk_us⟩
  rw [pk_un (by decide), pk_us, hc]
theorem m_isW {j : Nat} {R : Int32 → Hp → Prop} (hN : N ≤ 900) (hT : MT σ T N) (hb : b ≤ N) (hj : j < 13) (ht : TCm T N b r w) (h1 : isW T N j b → R 1 (stG 8 20 σ r w)) (h0 : ¬ isW T N j b → R 0 (stG 8 20 σ r w)) : S_X8_isWord j (stG 8 20 σ r w) R := by
  have k4 := kdT_le T N b
  have l := tk_le (T := T) hb
  obtain ⟨s1, s2, s3⟩ := cdg_ok j hj
  unfold S_X8_isWord
  rw [gG, gG, gG, ht.2.1, ht.1, show (2 : Int32) = nI (mkT 1) from rfl, mk_eq k4 (by decide)]
  refine ⟨fun q => h0 (fun i => q i.1), fun q => ?_⟩
  rw [ht.2.2.1 (by rw [q]; decide), sub_nI l.2.2.1, show Int32.ofNat (slen.getD j 0) = nI (slen.getD j 0) from rfl, eq_nI (by omega) (by omega)]
  refine ⟨fun q2 => ?_, fun q2 => h0 (fun i => q2 i.2.1)⟩
  have go : ∀ m k, k + m = slen.getD j 0 → (∀ k', k' < k → nI (T (stT T N b + k')) = (sbyt.getD j []).getD k' 0) → L_X8_isWord_28 R (fun σ2 => R 1 σ2) (fun σ3 => R 0 σ3) j (m + 1) (nI k) (stG 8 20 σ r w) := by
    intro m
    induction m with
    | zero =>
      intro k hk hy
      unfold L_X8_isWord_28
      rw [show Int32.ofNat (slen.getD j 0) = nI (slen.getD j 0) from rfl, le_nI (by omega) (by omega)]
      exact ⟨fun _ => h1 ⟨q, q2, fun k' hk' => hy k' (by omega)⟩, fun z => absurd (by omega) z⟩
    | succ m ih =>
      intro k hk hy
      unfold L_X8_isWord_28
      rw [show Int32.ofNat (slen.getD j 0) = nI (slen.getD j 0) from rfl, le_nI (by omega) (by omega), gG, ht.1, add_nI, ix_nI (by omega), ix_nI (by omega), gGn (by decide), (hT _ (by omega)).2, show nI k + 1 = nI (k + 1) from add_nI k 1]
      refine ⟨fun z => by omega, fun _ => ⟨vp_in_nI (by omega) (by decide), vp_in_nI (by omega) (by omega), fun z => ih (k + 1) (by omega) (fun k' hk' => ?_), fun z => h0 (fun i => z (i.2.2 k (by omega)))⟩⟩
      rcases Nat.lt_or_ge k' k with a | a
      · exact hy k' a
      · rw [show k' = k by omega]
        exact z
  exact ⟨slen.getD j 0 + 1, go (slen.getD j 0) 0 (by omega) (fun k' hk' => by omega)⟩
theorem m_isN {R : Int32 → Hp → Prop} (hN : N ≤ 900) (hT : MT σ T N) (hb : b ≤ N) (ht : TCm T N b r w) (h1 : isNm T N b → R 1 (stG 8 20 σ r w)) (h0 : ¬ isNm T N b → R 0 (stG 8 20 σ r w)) : S_X8_isName (stG 8 20 σ r w) R := by
  have k4 := kdT_le T N b
  unfold S_X8_isName
  rw [gG, ht.2.1, show (2 : Int32) = nI (mkT 1) from rfl, mk_eq k4 (by decide)]
  refine ⟨fun q => h0 (fun i => q i.1), fun q => ?_⟩
  exact m_isW hN hT hb (by decide) ht (fun a => b1 (h0 (fun n => n.2.1 a))) (fun a => b0 (m_isW hN hT hb (by decide) ht (fun c => b1 (h0 (fun n => n.2.2.1 c))) (fun c => b0 (m_isW hN hT hb (by decide) ht (fun d => b1 (h0 (fun n => n.2.2.2 d))) (fun d => b0 (h1 ⟨q, a, c, d⟩))))))
variable {OK : OT → Prop}
theorem m_passes {lo hi : Nat} {R : Int32 → Hp → Prop} {kk : Nat → Nat → OT} (hN : N ≤ 900) (hT : MT σ T N) (hb : b ≤ N) (hlo : lo < 2 ^ 31) (hhi : hi < 2 ^ 31) (h15 : r 15 = nI N) (ht : TCm T N b r w) (h : OK (psO T N lo hi b kk)) (hE : ∀ f pl, OK (erO f pl) → 1 ≤ f → f ≤ 6 → ∀ r' w', EPm r r' f pl → R (-1) (stG 8 20 σ r' w')) (hK : ∀ v b', OK (kk v b') → lo ≤ v ∧ v ≤ hi → v ≤ 999 → b < b' → b' ≤ N → ∀ r' w', Fr8 r r' → TCm T N b' r' w' → R (nI v) (stG 8 20 σ r' w')) : S_X8_passes (nI lo) (nI hi) (stG 8 20 σ r w) R := by
  have k4 := kdT_le T N b
  unfold S_X8_passes
  rw [gG, gG, ht.2.1, show (3 : Int32) = nI (mkT 2) from rfl, mk_eq k4 (by decide)]
  refine ⟨fun q => ?_, fun q => m_errs (f := 1) rfl ht.1 (fun r' e => hE 1 _ (ps_no h q) (by decide) (by decide) r' w e)⟩
  have d := dv_lt hb q
  have n1 := nx_lt hb (show kdT T N b ≠ 0 by rw [q]; decide)
  rw [ht.2.2.2.2 q]
  unfold S_X8_in
  rw [lt_nI (by omega) hlo, lt_nI hhi (by omega)]
  have no : ¬ (lo ≤ dvT T N b ∧ dvT T N b ≤ hi) → S_X8_errs 4 (stG 8 20 σ r w) (fun r5 σ4 => R r5 σ4) := fun q2 => m_errs (f := 4) rfl ht.1 (fun r' e => hE 4 _ (ps_out h q q2) (by decide) (by decide) r' w e)
  refine ⟨fun z => b0 (no (by omega)), fun z => ⟨fun z2 => b0 (no (by omega)), fun z2 => b1 ?_⟩⟩
  exact m_tok hN hT n1.2 h15 (ht.2.2.1 (by rw [q]; decide)) (hK _ _ (ps_in h q (by omega)) (by omega) d n1.1 n1.2)
theorem m_after {j lo hi : Nat} {R : Int32 → Hp → Prop} {kk : Nat → Nat → OT} (hN : N ≤ 900) (hT : MT σ T N) (hb : b ≤ N) (hj : j < 13) (hlo : lo < 2 ^ 31) (hhi : hi < 2 ^ 31) (h15 : r 15 = nI N) (ht : TCm T N b r w) (h : OK (aftO T N j lo hi b kk)) (hE : ∀ f pl, OK (erO f pl) → 1 ≤ f → f ≤ 6 → ∀ r' w', EPm r r' f pl → R (-1) (stG 8 20 σ r' w')) (hK : ∀ v b', OK (kk v b') → lo ≤ v ∧ v ≤ hi → v ≤ 999 → b < b' → b' ≤ N → ∀ r' w', Fr8 r r' → TCm T N b' r' w' → R (nI v) (stG 8 20 σ r' w')) : S_X8_after j (nI lo) (nI hi) (stG 8 20 σ r w) R := by
  unfold S_X8_after
  refine m_isW hN hT hb hj ht (fun i => b1 ?_) (fun i => b0 (m_errs (f := 1) rfl ht.1 (fun r' e => hE 1 _ (aft_no h i) (by decide) (by decide) r' w e)))
  have n1 := nx_lt hb (show kdT T N b ≠ 0 by rw [i.1]; decide)
  refine m_tok hN hT n1.2 h15 (ht.2.2.1 (by rw [i.1]; decide)) (fun r1 w1 f1 t1 => ?_)
  refine m_passes (OK := OK) hN hT n1.2 hlo hhi ((f1 15 (by decide) (by decide) (by decide) (by decide)).trans h15) t1 (aft_yes h i) (fun f pl o a1 a6 r' w' e => hE f pl o a1 a6 r' w' ⟨f1.m.trans e.1, e.2.1, e.2.2⟩) (fun v b' o g l9 m l r' w' f t => hK v b' o g l9 (by omega) l r' w' (f1.trans f) t)
variable {p : PD} {nm : Nat → Int64} {hB : Nat}
theorem m_told {R : Int32 → Hp → Prop} (h6 : nE p ≤ 6) (h8 : nL p ≤ 8) (hD : RDm σ p nm hB) (h1 : ∀ e, e < nE p → mtN nm w e → (∀ e', e' < e → ¬ mtN nm w e') → R (nI e) (stG 8 20 σ r w)) (h2 : (∀ e, e < nE p → ¬ mtN nm w e) → ∀ l, l < nL p → mtN nm w (6 + l) → R (nI (6 + l)) (stG 8 20 σ r w)) (h0 : (∀ e, e < nE p → ¬ mtN nm w e) → (∀ l, l < nL p → ¬ mtN nm w (6 + l)) → R (-1) (stG 8 20 σ r w)) : S_X8_told (stG 8 20 σ r w) R := by
  have go2 : (∀ e, e < nE p → ¬ mtN nm w e) → ∀ j k, k + j = nL p → (∀ l, l < k → ¬ mtN nm w (6 + l)) → L_X8_told_36 R (fun σ4 => R (-1) σ4) (fun w6 σ5 => R (6 + w6) σ5) (j + 1) (nI k) (stG 8 20 σ r w) := by
    intro hno j
    induction j with
    | zero =>
      intro k hk hn2
      unfold L_X8_told_36
      rw [show ix 6 = 6 from rfl, gGn (by decide), hD.2.1, le_nI (by omega) (by omega)]
      exact ⟨vp_in_nI (n := 6) (by decide) (by decide), fun _ => h0 hno (fun l hl => hn2 l (by omega)), fun z => absurd (by omega) z⟩
    | succ j ih =>
      intro k hk hn2
      unfold L_X8_told_36
      rw [show ix 6 = 6 from rfl, gGn (by decide), hD.2.1, le_nI (by omega) (by omega), show (6 : Int32) + nI k = nI (6 + k) from add_nI 6 k, ix_nI (by omega), gGLn (by decide), (hD.2.2.2.2.1 k (by omega)).2, gGL, show nI k + 1 = nI (k + 1) from add_nI k 1]
      refine ⟨vp_in_nI (n := 6) (by decide) (by decide), fun z => by omega, fun _ => ⟨vp_in_nI (by omega) (by decide), fun z => ih (k + 1) (by omega) (fun l hl => ?_), fun z => ?_⟩⟩
      · rcases Nat.lt_or_ge l k with a | a
        · exact hn2 l a
        · rw [show l = k by omega]
          exact z
      · exact h2 hno k (by omega) z
  have go1 : ∀ j k, k + j = nE p → (∀ e, e < k → ¬ mtN nm w e) → L_X8_told_2 R (fun σ2 => (∃ n3, L_X8_told_36 R (fun σ4 => R (-1) σ4) (fun w6 σ5 => R (6 + w6) σ5) n3 0 σ2)) (fun w8 σ7 => R w8 σ7) (j + 1) (nI k) (stG 8 20 σ r w) := by
    intro j
    induction j with
    | zero =>
      intro k hk hn
      unfold L_X8_told_2
      rw [show ix 5 = 5 from rfl, gGn (by decide), hD.1, le_nI (by omega) (by omega)]
      exact ⟨vp_in_nI (n := 5) (by decide) (by decide), fun _ => ⟨nL p + 1, go2 (fun e he => hn e (by omega)) (nL p) 0 (by omega) (fun l hl => by omega)⟩, fun z => absurd (by omega) z⟩
    | succ j ih =>
      intro k hk hn
      unfold L_X8_told_2
      rw [show ix 5 = 5 from rfl, gGn (by decide), hD.1, le_nI (by omega) (by omega), ix_nI (by omega), gGLn (by decide), (hD.2.2.2.1 k (by omega)).2, gGL, show nI k + 1 = nI (k + 1) from add_nI k 1]
      refine ⟨vp_in_nI (n := 5) (by decide) (by decide), fun z => by omega, fun _ => ⟨vp_in_nI (by omega) (by decide), fun z => ih (k + 1) (by omega) (fun e he => ?_), fun z => h1 k (by omega) z hn⟩⟩
      rcases Nat.lt_or_ge e k with a | a
      · exact hn e a
      · rw [show e = k by omega]
        exact z
  exact ⟨nE p + 1, go1 (nE p) 0 (by omega) (fun e he => by omega)⟩
theorem m_newN {a : Nat} {R : Int32 → Hp → Prop} (hN : N ≤ 900) (hT : MT σ T N) (hb : b ≤ N) (ha : a < 14) (h6 : nE p ≤ 6) (h8 : nL p ≤ 8) (hD : RDm σ p nm hB) (h15 : r 15 = nI N) (ht : TCm T N b r w) (h1 : isNm T N b → ¬ toldP p nm (lN (wvT T N b)) → ∀ r' w', Fr8 r r' → TCm T N (enT T N b) r' w' → R 0 (stG 8 20 (sL σ 60 0 a (lN (wvT T N b))) r' w')) (h2 : isNm T N b → toldP p nm (lN (wvT T N b)) → ∀ r', EPm r r' 3 (stT T N b) → R (-1) (stG 8 20 σ r' w)) (h0 : ¬ isNm T N b → ∀ r', EPm r r' 1 (stT T N b) → R (-1) (stG 8 20 σ r' w)) : S_X8_newName (nI a) (stG 8 20 σ r w) R := by
  unfold S_X8_newName
  refine m_isN hN hT hb ht (fun i => b1 ?_) (fun i => b0 (m_errs (f := 1) rfl ht.1 (h0 i)))
  have ew := ht.2.2.2.1 i.1
  subst ew
  have bad : toldP p nm (lN (wvT T N b)) → S_X8_errs 3 (stG 8 20 σ r (lN (wvT T N b))) (fun r8 σ7 => R r8 σ7) := fun td => m_errs (f := 3) rfl ht.1 (h2 i td)
  refine m_told h6 h8 hD (fun e he m _ => ⟨fun q => absurd q (ne_m1 (by omega)), fun _ => bad (Or.inl ⟨e, he, m⟩)⟩) (fun _ l hl m => ⟨fun q => absurd q (ne_m1 (by omega)), fun _ => bad (Or.inr ⟨l, hl, m⟩)⟩) (fun n1 n2 => ⟨fun _ => ⟨vp_in_nI ha (by decide), ?_⟩, fun q => absurd rfl q⟩)
  rintro _ rfl
  rw [gGL, ix_nI (by omega), sGLn (by decide)]
  have hT2 : MT (sL σ 60 0 a (lN (wvT T N b))) T N := hT
  refine m_tok hN hT2 (nx_lt hb (show kdT T N b ≠ 0 by rw [i.1]; decide)).2 h15 (ht.2.2.1 (by rw [i.1]; decide)) (h1 i (fun td => ?_))
  rcases td with ⟨e, he, m⟩ | ⟨e, he, m⟩
  · exact n1 e he m
  · exact n2 e he m
theorem m_endHere {R : Int32 → Hp → Prop} (hN : N ≤ 900) (hT : MT σ T N) (hb : b ≤ N) (h6 : nE p ≤ 6) (h8 : nL p ≤ 8) (hD : RDm σ p nm hB) (ht : TCm T N b r w) (h1 : isNm T N b → fdE p nm (lN (wvT T N b)) < nE p → R (nI (fdE p nm (lN (wvT T N b)))) (stG 8 20 σ r w)) (h2 : isNm T N b → ¬ fdE p nm (lN (wvT T N b)) < nE p → ∀ r', EPm r r' 2 (stT T N b) → R (-1) (stG 8 20 σ r' w)) (h0 : ¬ isNm T N b → ∀ r', EPm r r' 1 (stT T N b) → R (-1) (stG 8 20 σ r' w)) : S_X8_endHere (stG 8 20 σ r w) R := by
  unfold S_X8_endHere
  refine m_isN hN hT hb ht (fun i => b1 ?_) (fun i => b0 (m_errs (f := 1) rfl ht.1 (h0 i)))
  have ew := ht.2.2.2.1 i.1
  subst ew
  have bad : (∀ e, e < nE p → ¬ mtN nm (lN (wvT T N b)) e) → J_X8_endHere_29 R (stG 8 20 σ r (lN (wvT T N b))) := fun hno => m_errs (f := 2) rfl ht.1 (h2 i (fdE_none hno))
  refine m_told h6 h8 hD (fun e he m m2 => ⟨fun q => absurd q (ne_m1 (by omega)), fun _ => ?_⟩) (fun hno l hl m => ⟨fun q => absurd q (ne_m1 (by omega)), fun _ => ?_⟩) (fun hno _ => ⟨fun _ => bad hno, fun q => absurd rfl q⟩)
  · have fe := fdE_some (p := p) he m m2
    rw [fe] at h1
    rw [show (6 : Int32) = nI 6 from rfl, lt_nI (by omega) (by decide)]
    exact ⟨fun _ => h1 i he, fun q => by omega⟩
  · rw [show (6 : Int32) = nI 6 from rfl, lt_nI (by omega) (by decide)]
    exact ⟨fun q => by omega, fun _ => bad hno⟩
end RdM
