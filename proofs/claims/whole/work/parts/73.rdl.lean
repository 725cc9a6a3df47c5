/-! ===== the class reads a line ===== -/
def FD (P : Nat) (σ σ' : Hp) : Prop := (∀ a b c, ¬ (b = P ∧ (a = 2 ∨ (22 ≤ a ∧ a ≤ 29))) → gI σ' a b c = gI σ a b c) ∧ (∀ a b c, ¬ (b = P ∧ (a = 23 ∨ a = 24)) → gL σ' a b c = gL σ a b c) ∧ (∀ a, gR σ' a = gR σ a)
theorem FD.refl (P : Nat) (σ : Hp) : FD P σ σ := ⟨fun _ _ _ _ => rfl, fun _ _ _ _ => rfl, fun _ => rfl⟩
theorem FD.trans {P : Nat} {σ σ' σ'' : Hp} (h : FD P σ σ') (h2 : FD P σ' σ'') : FD P σ σ'' := ⟨fun a b c q => (h2.1 a b c q).trans (h.1 a b c q), fun a b c q => (h2.2.1 a b c q).trans (h.2.1 a b c q), fun a => (h2.2.2 a).trans (h.2.2 a)⟩
theorem FD.s {P : Nat} {σ σ' : Hp} (h : FD P σ σ') {a : Nat} (ha : a = 2 ∨ (22 ≤ a ∧ a ≤ 29)) (c : Nat) (v : Int32) : FD P σ (sI σ' a P c v) := by
  refine ⟨fun x y z q => ?_, fun x y z q => h.2.1 x y z q, fun x => h.2.2 x⟩
  rw [gI_sI, if_neg (by omega)]
  exact h.1 x y z q
theorem FD.l {P : Nat} {σ σ' : Hp} (h : FD P σ σ') {a : Nat} (ha : a = 23 ∨ a = 24) (c : Nat) (v : Int64) : FD P σ (sL σ' a P c v) := by
  refine ⟨fun x y z q => h.1 x y z q, fun x y z q => ?_, fun x => h.2.2 x⟩
  rw [gL_sL, if_neg (by omega)]
  exact h.2.1 x y z q
theorem CT.fd {P : Nat} {σ σ' : Hp} {T : Tx} {N : Nat} (h : CT σ T N) (hd : FD P σ σ') : CT σ' T N := by
  intro k hk
  rw [hd.1 37 0 k (by omega)]
  exact h k hk
def CK (σ : Hp) (T : Tx) (N P : Nat) (p : PD) (nm : Nat → Int64) (hB : Nat) (r : Nat → Int32) (w : Int64) (b : Nat) : Prop := N ≤ 900 ∧ CT σ T N ∧ b ≤ N ∧ gR σ 1 = P ∧ P < 2 ∧ PI p hB ∧ RDc σ P p nm hB ∧ r 10 = 0 ∧ r 3 = nI N ∧ r 9 = nI hB ∧ TCr T N b r w
section Ok
variable {OK : OT → Prop} {T : Tx} {N j lo hi b : Nat} {k : Nat → Nat → OT}
theorem aft_no (h : OK (aftO T N j lo hi b k)) (q : ¬ isW T N j b) : OK (erO 1 (stT T N b)) := by
  unfold aftO at h
  rw [cif_neg q] at h
  exact h
theorem aft_yes (h : OK (aftO T N j lo hi b k)) (q : isW T N j b) : OK (psO T N lo hi (enT T N b) k) := by
  unfold aftO at h
  rw [cif_pos q] at h
  exact h
theorem ps_no (h : OK (psO T N lo hi b k)) (q : ¬ kdT T N b = 2) : OK (erO 1 (stT T N b)) := by
  unfold psO at h
  rw [cif_neg q] at h
  exact h
theorem ps_out (h : OK (psO T N lo hi b k)) (q : kdT T N b = 2) (q2 : ¬ (lo ≤ dvT T N b ∧ dvT T N b ≤ hi)) : OK (erO 4 (stT T N b)) := by
  unfold psO at h
  rw [cif_pos q, cif_neg q2] at h
  exact h
theorem ps_in (h : OK (psO T N lo hi b k)) (q : kdT T N b = 2) (q2 : lo ≤ dvT T N b ∧ dvT T N b ≤ hi) : OK (k (dvT T N b) (enT T N b)) := by
  unfold psO at h
  rw [cif_pos q, cif_pos q2] at h
  exact h
end Ok
theorem nx_lt {T : Tx} {N b : Nat} (hb : b ≤ N) (h : kdT T N b ≠ 0) : b < enT T N b ∧ enT T N b ≤ N := by
  have l := tk_le (T := T) hb
  have := l.2.2.2.2 h
  omega
section Stage
variable {σ : Hp} {T : Tx} {N b P c : Nat} {r : Nat → Int32} {w : Int64} {Z : Hp → Prop} {OK : OT → Prop}
theorem x_stage {x : Int64} {lo hi : Int32} (h : ¬ r 10 = 0) (hR : gR σ 1 = P) (hP : P < 2) (k : ∀ v, Z (stG 4 7 (sI σ 2 P c v) r w)) : S_X4_pass x (stG 4 7 σ r w) (fun σ3 => gR σ3 1 < 2 ∧ S_X4_wholeWithin lo hi σ3 (fun r6 σ5 => ∀ σ7, σ7 = sI σ5 2 (gR σ3 1) c r6 → Z σ7)) := by
  refine x_pass h ?_
  rw [gGR, hR]
  refine ⟨hP, x_within h (fun v => ?_)⟩
  rintro _ rfl
  rw [sGn (by decide)]
  exact k v
theorem c_stage {j lo hi : Nat} {x : Int64} {kk : Nat → Nat → OT} (hN : N ≤ 900) (hT : CT σ T N) (hb : b ≤ N) (hj : j < 13) (hx : x = lN (cstN j)) (hlo : lo < 2 ^ 31) (hhi : hi < 2 ^ 31) (hR : gR σ 1 = P) (hP : P < 2) (h10 : r 10 = 0) (h3 : r 3 = nI N) (ht : TCr T N b r w) (h : OK (aftO T N j lo hi b kk)) (hE : ∀ f pl, OK (erO f pl) → 1 ≤ f → f ≤ 6 → ∀ r' w' v, EPr r r' f pl → Z (stG 4 7 (sI σ 2 P c v) r' w')) (hK : ∀ v b', OK (kk v b') → lo ≤ v ∧ v ≤ hi → b < b' → b' ≤ N → ∀ r' w', Fr4 r r' → TCr T N b' r' w' → Z (stG 4 7 (sI σ 2 P c (nI v)) r' w')) : S_X4_pass x (stG 4 7 σ r w) (fun σ3 => gR σ3 1 < 2 ∧ S_X4_wholeWithin (nI lo) (nI hi) σ3 (fun r6 σ5 => ∀ σ7, σ7 = sI σ5 2 (gR σ3 1) c r6 → Z σ7)) := by
  refine c_pass hN hT hb hj hx h10 h3 ht (fun i r' w' f t => ?_) (fun i r' e => ?_)
  · have n1 := nx_lt hb (show kdT T N b ≠ 0 by rw [i.1]; decide)
    have a10 : r' 10 = 0 := (f 10 (by decide) (by decide) (by decide) (by decide)).trans h10
    have a3 : r' 3 = nI N := (f 3 (by decide) (by decide) (by decide) (by decide)).trans h3
    have a1 : r' 1 = r 1 := f 1 (by decide) (by decide) (by decide) (by decide)
    have h2 := aft_yes h i
    rw [gGR, hR]
    refine ⟨hP, c_within hN hT n1.2 hlo hhi a10 a3 t (fun q q2 r2 w2 f2 t2 => ?_) (fun q q2 r2 v e2 => ?_) (fun q r2 v e2 => ?_)⟩
    · rintro _ rfl
      rw [sGn (by decide)]
      have n2 := nx_lt n1.2 (show kdT T N (enT T N b) ≠ 0 by rw [q]; decide)
      exact hK _ _ (ps_in h2 q q2) q2 (by omega) n2.2 r2 w2 (f.trans f2) t2
    · rintro _ rfl
      rw [sGn (by decide)]
      exact hE 4 _ (ps_out h2 q q2) (by decide) (by decide) r2 _ v ⟨e2.1.trans a1, e2.2.1, e2.2.2⟩
    · rintro _ rfl
      rw [sGn (by decide)]
      exact hE 1 _ (ps_no h2 q) (by decide) (by decide) r2 _ v ⟨e2.1.trans a1, e2.2.1, e2.2.2⟩
  · rw [gGR, hR]
    refine ⟨hP, x_within (e.nz (by decide) (by decide)) (fun v => ?_)⟩
    rintro _ rfl
    rw [sGn (by decide)]
    exact hE 1 _ (aft_no h i) (by decide) (by decide) r' _ v e
end Stage
section Lines
variable {σ : Hp} {T : Tx} {N b P hB : Nat} {r : Nat → Int32} {w : Int64} {Q : Hp → Prop} {OK : OT → Prop} {p : PD} {nm : Nat → Int64} {k : PD → (Nat → Int64) → Nat → Nat → OT}
theorem c_busL (hC : CK σ T N P p nm hB r w b) (hW : isW T N 0 b) (h : OK (busO T N p nm hB b k)) (hE : ∀ f pl, OK (erO f pl) → 1 ≤ f → f ≤ 6 → ∀ σ' r' w', FD P σ σ' → EPr r r' f pl → Q (stG 4 7 σ' r' w')) (hK : ∀ p' b', OK (k p' nm 1 b') → b < b' → ∀ σ' r' w', FD P σ σ' → r' 1 = r 1 → CK σ' T N P p' nm 1 r' w' b' → Q (stG 4 7 σ' r' w')) : S_X4_readBus (stG 4 7 σ r w) Q := by
  obtain ⟨hN, hT, hb, hR, hP, hI, hD, h10, h3, h9, ht⟩ := hC
  obtain ⟨c0, c1, c2, c3, c4, c5, _⟩ := cst_val
  have F0 := FD.refl P σ
  unfold busO at h
  unfold S_X4_readBus
  rw [gG, h9]
  by_cases q0 : hB = 0
  · subst q0
    rw [cif_pos rfl] at h
    refine b0' ?_
    unfold J_X4_readBus_12
    rintro _ rfl
    rw [sG]
    refine c_pass hN hT hb (j := 0) (by decide) c0 (by rw [pk_un (by decide)]; exact h10) (by rw [pk_un (by decide)]; exact h3) ⟨by rw [pk_un (by decide)]; exact ht.1, by rw [pk_un (by decide)]; exact ht.2.1, fun z => by rw [pk_un (by decide)]; exact ht.2.2.1 z, ht.2.2.2.1, fun z => by rw [pk_un (by decide)]; exact ht.2.2.2.2 z⟩ (fun _ r0 w0 f0 t0 => ?_) (fun i => absurd hW i)
    have n0 := nx_lt hb (show kdT T N b ≠ 0 by rw [hW.1]; decide)
    have z10 : r0 10 = 0 := (f0 10 (by decide) (by decide) (by decide) (by decide)).trans (by rw [pk_un (by decide)]; exact h10)
    have z3 : r0 3 = nI N := (f0 3 (by decide) (by decide) (by decide) (by decide)).trans (by rw [pk_un (by decide)]; exact h3)
    have z9 : r0 9 = nI 1 := (f0 9 (by decide) (by decide) (by decide) (by decide)).trans pk_us
    have z1 : r0 1 = r 1 := (f0 1 (by decide) (by decide) (by decide) (by decide)).trans (by rw [pk_un (by decide)])
    have cv : ∀ {f pl : Nat} {ra rb : Nat → Int32}, ra 1 = r 1 → EPr ra rb f pl → EPr r rb f pl := fun a e => ⟨e.1.trans a, e.2.1, e.2.2⟩
    refine c_stage (P := P) (OK := OK) (j := 1) (lo := 1) (hi := 3) hN hT n0.2 (by decide) c1 (by decide) (by decide) hR hP z10 z3 t0 h (fun f pl o f1 f6 r' w' v e => ?_) (fun v1 b1 o1 g1 m1 l1 r1 w1 f1 t1 => ?_)
    · have nz := e.nz f1 f6
      exact x_stage nz hR hP (fun _ => x_stage nz hR hP (fun _ => x_stage nz hR hP (fun _ => x_stage nz hR hP (fun _ => hE f pl o f1 f6 _ _ _ (((((F0.s (by omega) _ _).s (by omega) _ _).s (by omega) _ _).s (by omega) _ _).s (by omega) _ _) (cv z1 e)))))
    have G1 := F0.s (a := 2) (by omega) 0 (nI v1)
    have y1 := Fr4.trans f0 f1
    have y10 : r1 10 = 0 := (f1 10 (by decide) (by decide) (by decide) (by decide)).trans z10
    have y3 : r1 3 = nI N := (f1 3 (by decide) (by decide) (by decide) (by decide)).trans z3
    have e1 : r1 1 = r 1 := (f1 1 (by decide) (by decide) (by decide) (by decide)).trans z1
    refine c_stage (P := P) (OK := OK) (j := 2) (lo := 1) (hi := 12) hN (hT.fd G1) l1 (by decide) c2 (by decide) (by decide) hR hP y10 y3 t1 o1 (fun f pl o a1 a6 r' w' v e => ?_) (fun v2 b2 o2 g2 m2 l2 r2 w2 f2 t2 => ?_)
    · have nz := e.nz a1 a6
      exact x_stage nz hR hP (fun _ => x_stage nz hR hP (fun _ => x_stage nz hR hP (fun _ => hE f pl o a1 a6 _ _ _ ((((G1.s (by omega) _ _).s (by omega) _ _).s (by omega) _ _).s (by omega) _ _) (cv e1 e))))
    have G2 := G1.s (a := 2) (by omega) 1 (nI v2)
    have x10 : r2 10 = 0 := (f2 10 (by decide) (by decide) (by decide) (by decide)).trans y10
    have x3 : r2 3 = nI N := (f2 3 (by decide) (by decide) (by decide) (by decide)).trans y3
    have e2 : r2 1 = r 1 := (f2 1 (by decide) (by decide) (by decide) (by decide)).trans e1
    refine c_stage (P := P) (OK := OK) (j := 3) (lo := 0) (hi := 400) hN (hT.fd G2) l2 (by decide) c3 (by decide) (by decide) hR hP x10 x3 t2 o2 (fun f pl o a1 a6 r' w' v e => ?_) (fun v3 b3 o3 g3 m3 l3 r3 w3 f3 t3 => ?_)
    · have nz := e.nz a1 a6
      exact x_stage nz hR hP (fun _ => x_stage nz hR hP (fun _ => hE f pl o a1 a6 _ _ _ (((G2.s (by omega) _ _).s (by omega) _ _).s (by omega) _ _) (cv e2 e)))
    have G3 := G2.s (a := 2) (by omega) 2 (nI v3)
    have u10 : r3 10 = 0 := (f3 10 (by decide) (by decide) (by decide) (by decide)).trans x10
    have u3 : r3 3 = nI N := (f3 3 (by decide) (by decide) (by decide) (by decide)).trans x3
    have e3 : r3 1 = r 1 := (f3 1 (by decide) (by decide) (by decide) (by decide)).trans e2
    refine c_stage (P := P) (OK := OK) (j := 4) (lo := 1) (hi := 100) hN (hT.fd G3) l3 (by decide) c4 (by decide) (by decide) hR hP u10 u3 t3 o3 (fun f pl o a1 a6 r' w' v e => ?_) (fun v4 b4 o4 g4 m4 l4 r4 w4 f4 t4 => ?_)
    · have nz := e.nz a1 a6
      exact x_stage nz hR hP (fun _ => hE f pl o a1 a6 _ _ _ ((G3.s (by omega) _ _).s (by omega) _ _) (cv e3 e))
    have G4 := G3.s (a := 2) (by omega) 3 (nI v4)
    have s10 : r4 10 = 0 := (f4 10 (by decide) (by decide) (by decide) (by decide)).trans u10
    have s3 : r4 3 = nI N := (f4 3 (by decide) (by decide) (by decide) (by decide)).trans u3
    have e4 : r4 1 = r 1 := (f4 1 (by decide) (by decide) (by decide) (by decide)).trans e3
    refine c_stage (P := P) (OK := OK) (j := 5) (lo := 1) (hi := 999) hN (hT.fd G4) l4 (by decide) c5 (by decide) (by decide) hR hP s10 s3 t4 o4 (fun f pl o a1 a6 r' w' v e => hE f pl o a1 a6 _ _ _ (G4.s (by omega) _ _) (cv e4 e)) (fun v5 b5 o5 g5 m5 l5 r5 w5 f5 t5 => ?_)
    have G5 := G4.s (a := 2) (by omega) 4 (nI v5)
    have q9 : r5 9 = nI 1 := (f5 9 (by decide) (by decide) (by decide) (by decide)).trans ((f4 9 (by decide) (by decide) (by decide) (by decide)).trans ((f3 9 (by decide) (by decide) (by decide) (by decide)).trans ((f2 9 (by decide) (by decide) (by decide) (by decide)).trans ((f1 9 (by decide) (by decide) (by decide) (by decide)).trans z9))))
    obtain ⟨ne0, nl0⟩ := hI.2.1 rfl
    have ee : nE (busP p v1 v2 v3 v4 v5) = 0 := (busP_ne (by omega)).trans ne0
    have ll : nL (busP p v1 v2 v3 v4 v5) = 0 := (busP_ne (by omega)).trans nl0
    refine hK _ b5 o5 (by omega) _ r5 w5 G5 ((f5 1 (by decide) (by decide) (by decide) (by decide)).trans e4) ⟨hN, hT.fd G5, l5, hR, hP, PI_bus hI g1 g2.2 g3.2 g4.2 g5.2, ⟨?_, ?_, fun _ c hc => ?_, fun e he => by rw [ee] at he; omega, fun l hl => by rw [ll] at hl; omega, fun l i hl => by rw [ll] at hl; omega⟩, (f5 10 (by decide) (by decide) (by decide) (by decide)).trans s10, (f5 3 (by decide) (by decide) (by decide) (by decide)).trans s3, q9, t5⟩
    · rw [gI_sI, if_neg (by omega), gI_sI, if_neg (by omega), gI_sI, if_neg (by omega), gI_sI, if_neg (by omega), gI_sI, if_neg (by omega), hD.1, ee, ne0]
    · rw [gI_sI, if_neg (by omega), gI_sI, if_neg (by omega), gI_sI, if_neg (by omega), gI_sI, if_neg (by omega), gI_sI, if_neg (by omega), hD.2.1, ll, nl0]
    · have : c = 0 ∨ c = 1 ∨ c = 2 ∨ c = 3 ∨ c = 4 := by omega
      rcases this with q | q | q | q | q <;> subst q
      · rw [gI_sI, if_neg (by omega), gI_sI, if_neg (by omega), gI_sI, if_neg (by omega), gI_sI, if_neg (by omega), gI_sI, if_pos ⟨rfl, rfl, rfl⟩]; rfl
      · rw [gI_sI, if_neg (by omega), gI_sI, if_neg (by omega), gI_sI, if_neg (by omega), gI_sI, if_pos ⟨rfl, rfl, rfl⟩]; rfl
      · rw [gI_sI, if_neg (by omega), gI_sI, if_neg (by omega), gI_sI, if_pos ⟨rfl, rfl, rfl⟩]; rfl
      · rw [gI_sI, if_neg (by omega), gI_sI, if_pos ⟨rfl, rfl, rfl⟩]; rfl
      · rw [gI_sI, if_pos ⟨rfl, rfl, rfl⟩]; rfl
  · rw [cif_neg q0] at h
    have h1 : hB = 1 := by have := hI.2.2.2; omega
    subst h1
    refine b1' (c_fail rfl h10 ht.1 (fun r' e => ?_))
    unfold J_X4_readBus_12
    rintro _ rfl
    rw [sG]
    have nz : ¬ upd r' 9 1 10 = 0 := by rw [pk_un (by decide)]; exact e.nz (by decide) (by decide)
    have e' : EPr r (upd r' 9 1) 3 (stT T N b) := ⟨by rw [pk_un (by decide)]; exact e.1, by rw [pk_un (by decide)]; exact e.2.1, by rw [pk_un (by decide)]; exact e.2.2⟩
    exact x_pass nz (x_stage nz hR hP (fun _ => x_stage nz hR hP (fun _ => x_stage nz hR hP (fun _ => x_stage nz hR hP (fun _ => x_stage nz hR hP (fun _ => hE 3 _ h (by decide) (by decide) _ _ _ (((((F0.s (by omega) _ _).s (by omega) _ _).s (by omega) _ _).s (by omega) _ _).s (by omega) _ _) e'))))))
theorem c_endL (hC : CK σ T N P p nm hB r w b) (hW : isW T N 6 b) (h : OK (endO T N p nm hB b k)) (hE : ∀ f pl, OK (erO f pl) → 1 ≤ f → f ≤ 6 → ∀ σ' r' w', FD P σ σ' → EPr r r' f pl → Q (stG 4 7 σ' r' w')) (hK : ∀ p' nm' b', OK (k p' nm' hB b') → b < b' → ∀ σ' r' w', FD P σ σ' → r' 1 = r 1 → CK σ' T N P p' nm' hB r' w' b' → Q (stG 4 7 σ' r' w')) : S_X4_readEnd (stG 4 7 σ r w) Q := by
  obtain ⟨hN, hT, hb, hR, hP, hI, hD, h10, h3, h9, ht⟩ := hC
  obtain ⟨c0, c1, c2, c3, c4, c5, c6, c7, c8, _⟩ := cst_val
  have F0 := FD.refl P σ
  have h6 : nE p ≤ 6 := hI.1.2.2.2.2.2.1
  have h8 : nL p ≤ 8 := hI.1.2.2.2.2.2.2.1
  have hsw : pSw p ≤ 3 := hI.1.1
  unfold endO at h
  unfold S_X4_readEnd
  rw [gGR, hR, gGn (by decide), hD.1]
  refine ⟨hP, ?_⟩
  unfold S_X4_beginLine
  rw [gG, h9]
  have tail : ∀ f pl r' w', OK (erO f pl) → 1 ≤ f → f ≤ 6 → EPr r r' f pl → S_X4_pass 7308889334409601056 (stG 4 7 σ r' w') (fun σ3 => S_X4_newName σ3 (fun r5 σ4 => S_X4_pass 7022273041327464480 σ4 (fun σ6 => gR σ6 1 < 2 ∧ S_X4_wholeWithin 0 ((gI σ6 2 (gR σ6 1) 0) - 1) σ6 (fun r9 σ8 => ((¬ (gI σ8 4 0 10) = 0 → Q σ8) ∧ ((gI σ8 4 0 10) = 0 → gR σ8 1 < 2 ∧ vp_in (gI σ8 2 (gR σ8 1) 5) 6 ∧ ∀ σ11, σ11 = sL σ8 23 (gR σ8 1) (ix (gI σ8 2 (gR σ8 1) 5)) r5 → gR σ11 1 < 2 ∧ vp_in (gI σ11 2 (gR σ11 1) 5) 6 ∧ ∀ σ13, σ13 = sI σ11 22 (gR σ11 1) (ix (gI σ11 2 (gR σ11 1) 5)) r9 → gR σ13 1 < 2 ∧ ∀ σ15, σ15 = sI σ13 2 (gR σ13 1) 5 ((gI σ13 2 (gR σ13 1) 5) + 1) → Q σ15)))))) := by
    intro f pl r' w' o f1 f6 e
    have nz := e.nz f1 f6
    refine x_pass nz (x_newN hR hP h6 h8 hD nz (fun v => x_pass nz ⟨by rw [gGR, hR]; exact hP, x_within nz (fun v => ⟨fun _ => hE f pl o f1 f6 _ _ _ F0 e, fun q => ?_⟩)⟩))
    rw [gG] at q
    exact absurd q nz
  by_cases q0 : hB = 0
  · subst q0
    rw [cif_pos rfl] at h
    exact b0 (c_fail rfl h10 ht.1 (fun r' e => tail 6 _ r' w h (by decide) (by decide) e))
  · rw [cif_neg q0] at h
    have h1 : hB = 1 := by have := hI.2.2.2; omega
    subst h1
    refine b1 ?_
    rw [show (6 : Int32) = nI 6 from rfl, lt_nI (by omega) (by decide)]
    refine ⟨fun hlt => ?_, fun hge => ?_⟩
    · rw [cif_pos hlt] at h
      have sw1 := hI.2.2.1 rfl
      refine c_pass hN hT hb (j := 6) (by decide) c6 h10 h3 ht (fun _ r0 w0 f0 t0 => ?_) (fun i => absurd hW i)
      have n0 := nx_lt hb (show kdT T N b ≠ 0 by rw [hW.1]; decide)
      have z10 : r0 10 = 0 := (f0 10 (by decide) (by decide) (by decide) (by decide)).trans h10
      have z3 : r0 3 = nI N := (f0 3 (by decide) (by decide) (by decide) (by decide)).trans h3
      have z9 : r0 9 = nI 1 := (f0 9 (by decide) (by decide) (by decide) (by decide)).trans h9
      have z1 : r0 1 = r 1 := f0 1 (by decide) (by decide) (by decide) (by decide)
      have cv : ∀ {f pl : Nat} {ra rb : Nat → Int32}, ra 1 = r 1 → EPr ra rb f pl → EPr r rb f pl := fun a e => ⟨e.1.trans a, e.2.1, e.2.2⟩
      unfold nmO at h
      refine c_newN hN hT n0.2 hR hP h6 h8 hD z10 z3 t0 (fun i td r1 w1 f1 t1 => ?_) (fun i td r1 v e => ?_) (fun i r1 v e => ?_)
      · rw [cif_pos i, cif_neg td] at h
        have n1 := nx_lt n0.2 (show kdT T N (enT T N b) ≠ 0 by rw [i.1]; decide)
        have y10 : r1 10 = 0 := (f1 10 (by decide) (by decide) (by decide) (by decide)).trans z10
        have y3 : r1 3 = nI N := (f1 3 (by decide) (by decide) (by decide) (by decide)).trans z3
        have y9 : r1 9 = nI 1 := (f1 9 (by decide) (by decide) (by decide) (by decide)).trans z9
        have y1 : r1 1 = r 1 := (f1 1 (by decide) (by decide) (by decide) (by decide)).trans z1
        have sw : ∀ (ra : Nat → Int32) (wa : Int64), (gI (stG 4 7 σ ra wa) 2 P 0) - 1 = nI (pSw p - 1) := by
          intro ra wa
          rw [gGn (by decide), hD.2.2.1 rfl 0 (by decide)]
          exact sub_nI (a := pSw p) (b := 1) sw1
        refine c_pass hN hT n1.2 (j := 8) (by decide) c8 y10 y3 t1 (fun i2 r2 w2 f2 t2 => ?_) (fun i2 r2 e => ?_)
        · have h2 := aft_yes h i2
          have n2 := nx_lt n1.2 (show kdT T N (enT T N (enT T N b)) ≠ 0 by rw [i2.1]; decide)
          have x10 : r2 10 = 0 := (f2 10 (by decide) (by decide) (by decide) (by decide)).trans y10
          have x3 : r2 3 = nI N := (f2 3 (by decide) (by decide) (by decide) (by decide)).trans y3
          have x9 : r2 9 = nI 1 := (f2 9 (by decide) (by decide) (by decide) (by decide)).trans y9
          have x1 : r2 1 = r 1 := (f2 1 (by decide) (by decide) (by decide) (by decide)).trans y1
          rw [gGR, hR, sw]
          refine ⟨hP, c_within (lo := 0) hN hT n2.2 (by decide) (by omega) x10 x3 t2 (fun q q2 r3 w3 f3 t3 => ?_) (fun q q2 r3 v e => ?_) (fun q r3 v e => ?_)⟩
          · have u10 : r3 10 = 0 := (f3 10 (by decide) (by decide) (by decide) (by decide)).trans x10
            rw [gG, u10]
            refine b0 ?_
            rw [gGR, hR, gGn (by decide), hD.1, ix_nI (by omega)]
            refine ⟨hP, vp_in_nI hlt (by decide), ?_⟩
            rintro _ rfl
            rw [sGLn (by decide), gGR, gR_sL, hR, gGn (by decide), gI_sL, hD.1, ix_nI (by omega)]
            refine ⟨hP, vp_in_nI hlt (by decide), ?_⟩
            rintro _ rfl
            rw [sGn (by decide), gGR, gR_sI, gR_sL, hR, gGn (by decide), gI_sI, if_neg (by omega), gI_sL, hD.1]
            refine ⟨hP, ?_⟩
            rintro _ rfl
            rw [sGn (by decide), show nI (nE p) + 1 = nI (nE p + 1) from add_nI _ 1]
            have n3 := nx_lt n2.2 (show kdT T N _ ≠ 0 by rw [q]; decide)
            have FF := ((F0.l (a := 23) (by omega) (nE p) (lN (wvT T N (enT T N b)))).s (a := 22) (by omega) (nE p) (nI (dvT T N (enT T N (enT T N (enT T N b)))))).s (a := 2) (by omega) 5 (nI (nE p + 1))
            refine hK _ _ _ (ps_in h2 q q2) (by omega) _ r3 w3 FF ((f3 1 (by decide) (by decide) (by decide) (by decide)).trans x1) ⟨hN, hT.fd FF, n3.2, (FF.2.2 1).trans hR, hP, PI_end hI hlt q2.2, ⟨?_, ?_, fun _ c hc => ?_, fun e he => ?_, fun l hl => ?_, fun l i hl hi => ?_⟩, u10, (f3 3 (by decide) (by decide) (by decide) (by decide)).trans x3, (f3 9 (by decide) (by decide) (by decide) (by decide)).trans x9, t3⟩
            · rw [gI_sI, if_pos ⟨rfl, rfl, rfl⟩, endP_nE]
            · rw [gI_sI, if_neg (by omega), gI_sI, if_neg (by omega), gI_sL, hD.2.1]
              exact congrArg nI (endP_ne (p := p) (x := 0) (y := 6) (by omega) (by omega)).symm
            · rw [gI_sI, if_neg (by omega), gI_sI, if_neg (by omega), gI_sL, hD.2.2.1 rfl c hc, endP_ne (by omega) (by omega)]
            · rw [endP_nE] at he
              rw [gI_sI, if_neg (by omega), gI_sI, gL_sI, gL_sI, gL_sL]
              by_cases eq : e = nE p
              · subst eq
                rw [if_pos ⟨rfl, rfl, rfl⟩, if_pos ⟨rfl, rfl, rfl⟩, endP_s]
                exact ⟨rfl, (if_pos rfl).symm⟩
              · rw [if_neg (by omega), if_neg (by omega), gI_sL]
                have := hD.2.2.2.1 e (by omega)
                refine ⟨this.1.trans ?_, this.2.trans (if_neg eq).symm⟩
                congr 1
                exact (endP_ne (by omega) (by omega)).symm
            · have hl' : l < nL p := by
                have : nL (endP p (dvT T N (enT T N (enT T N (enT T N b))))) = nL p := endP_ne (by omega) (by omega)
                omega
              have := hD.2.2.2.2.1 l hl'
              have n2' : ∀ c, endP p (dvT T N (enT T N (enT T N (enT T N b)))) 2 c = p 2 c := fun c => endP_ne (by omega) (by omega)
              unfold fr gp ln rc at this ⊢
              rw [n2', n2', n2', n2', gI_sI, if_neg (by omega), gI_sI, if_neg (by omega), gI_sL, gI_sI, if_neg (by omega), gI_sI, if_neg (by omega), gI_sL, gI_sI, if_neg (by omega), gI_sI, if_neg (by omega), gI_sL, gI_sI, if_neg (by omega), gI_sI, if_neg (by omega), gI_sL, gL_sI, gL_sI, gL_sL, if_neg (by omega)]
              refine ⟨this.1, this.2.1, this.2.2.1, this.2.2.2.1, this.2.2.2.2.trans (if_neg (by omega)).symm⟩
            · have hl' : l < nL p := by
                have : nL (endP p (dvT T N (enT T N (enT T N (enT T N b))))) = nL p := endP_ne (by omega) (by omega)
                omega
              have n2' : ∀ c, endP p (dvT T N (enT T N (enT T N (enT T N b)))) 2 c = p 2 c := fun c => endP_ne (by omega) (by omega)
              unfold rc at hi
              rw [n2'] at hi
              unfold re
              rw [n2', gI_sI, if_neg (by omega), gI_sI, if_neg (by omega), gI_sL]
              exact hD.2.2.2.2.2 l i hl' hi
          · have nz := e.nz (by decide) (by decide)
            rw [gG]
            exact ⟨fun _ => hE 4 _ (ps_out h2 q q2) (by decide) (by decide) _ _ _ F0 (cv x1 e), fun z => absurd z nz⟩
          · have nz := e.nz (by decide) (by decide)
            rw [gG]
            exact ⟨fun _ => hE 1 _ (ps_no h2 q) (by decide) (by decide) _ _ _ F0 (cv x1 e), fun z => absurd z nz⟩
        · have nz := e.nz (by decide) (by decide)
          rw [gGR, hR]
          refine ⟨hP, x_within nz (fun v => ?_)⟩
          rw [gG]
          exact ⟨fun _ => hE 1 _ (aft_no h i2) (by decide) (by decide) _ _ _ F0 (cv y1 e), fun z => absurd z nz⟩
      · rw [cif_pos i, cif_pos td] at h
        have nz := e.nz (by decide) (by decide)
        refine x_pass nz ⟨by rw [gGR, hR]; exact hP, x_within nz (fun v => ?_)⟩
        rw [gG]
        exact ⟨fun _ => hE 3 _ h (by decide) (by decide) _ _ _ F0 (cv z1 e), fun z => absurd z nz⟩
      · rw [cif_neg i] at h
        have nz := e.nz (by decide) (by decide)
        refine x_pass nz ⟨by rw [gGR, hR]; exact hP, x_within nz (fun v => ?_)⟩
        rw [gG]
        exact ⟨fun _ => hE 1 _ h (by decide) (by decide) _ _ _ F0 (cv z1 e), fun z => absurd z nz⟩
    · rw [cif_neg hge] at h
      exact c_fail rfl h10 ht.1 (fun r' e => tail 5 _ r' w h (by decide) (by decide) e)
end Lines
