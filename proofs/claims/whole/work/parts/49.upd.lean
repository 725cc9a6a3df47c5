/-! ===== calls that change the state: what stays ===== -/
/-- beyond the links told nothing waits, and a tick leaves it so -/
theorem w40_spread {p : PD} {net l fp : Nat} {num born : Int32} {s : SD} (k : Nat) : tSpread p net l fp num born s 40 k = s 40 k := by
  unfold tSpread
  refine itr_ind (P := fun _ (a : SD) => a 40 k = s 40 k) rfl 10 (fun j a _ h => ?_)
  unfold tSpread1
  by_cases q : nxt p l fp (j + 6)
  · rw [cif_pos q, come_nf ⟨by decide, by decide, by decide, by decide, by decide⟩]
    exact h
  · rw [cif_neg q]
    exact h
theorem w40_switch {p : PD} {q l : Nat} {num born : Int32} {s : SD} (k : Nat) : tSwitch p q l num born s 40 k = s 40 k := by
  unfold tSwitch
  split
  · exact u_nf _ _ (by decide)
  · split
    · split
      · rw [w40_spread]
        exact u_nf _ _ (by decide)
      · rw [u_nf _ _ (by decide)]
        exact u_nf _ _ (by decide)
    · exact w40_spread k
theorem w40_hear {p : PD} {ear net : Nat} {num born : Int32} {s : SD} (k : Nat) : tHear p ear net num born s 40 k = s 40 k := by
  unfold tHear
  by_cases q : whole1 (s 17 (2 * ear + net)) num
  · rw [cif_pos q]
    unfold tHear1
    by_cases q2 : fresh1 p (u s 17 (2 * ear + net) num) ear num
    · rw [cif_pos q2]
      unfold tTake tMem
      rw [if_neg (fun q => absurd q.1 (by decide))]
      simp only [u_at]
      simp
    · rw [cif_neg q2, u_nf _ _ (by decide)]
      exact u_nf _ _ (by decide)
  · rw [cif_neg q, u_nf _ _ (by decide)]
    exact u_nf _ _ (by decide)
theorem w40_del {p : PD} {q : Nat} {s : SD} (k : Nat) : tDel1 p q s 40 k = s 40 k := by
  unfold tDel1
  split
  · unfold tLeave
    split
    · rw [w40_hear]
      exact pop_nf ⟨by decide, by decide, by decide, by decide, by decide⟩
    · rw [w40_switch]
      exact pop_nf ⟨by decide, by decide, by decide, by decide, by decide⟩
  · rfl
theorem w40_rel {p : PD} {l k : Nat} {s : SD} (h : l ≠ k) : tRel1 p l s 40 k = s 40 k := by
  unfold tRel1
  split
  · rfl
  · split
    · rfl
    · unfold tBear tBear1
      rw [u_nf _ _ (by decide), u_nf _ _ (by decide), come_nf ⟨by decide, by decide, by decide, by decide, by decide⟩, come_nf ⟨by decide, by decide, by decide, by decide, by decide⟩, u_nf _ _ (by decide), u_nk _ _ (fun e => h e.symm)]
theorem w40_send {p : PD} {q : Nat} {s : SD} (k : Nat) : tSend p q s 40 k = s 40 k := by
  unfold tSend
  split
  · split
    · rfl
    · unfold tWait
      split
      · split
        · exact u_nf _ _ (by decide)
        · rw [u_nf _ _ (by decide)]
          exact u_nf _ _ (by decide)
      · exact u_nf _ _ (by decide)
  · rfl
theorem w40_sends {p : PD} {s : SD} (k m : Nat) : itr (tSend p) m s 40 k = s 40 k :=
  itr_ind (P := fun _ (a : SD) => a 40 k = s 40 k) rfl m (fun _ _ _ h => (w40_send k).trans h)
theorem w40_dels {p : PD} {s : SD} (k m : Nat) : itr (tDel1 p) m s 40 k = s 40 k :=
  itr_ind (P := fun _ (a : SD) => a 40 k = s 40 k) rfl m (fun _ _ _ h => (w40_del k).trans h)
theorem w40_rels {p : PD} {s : SD} {k : Nat} (m : Nat) (hk : m ≤ k) : itr (tRel1 p) m s 40 k = s 40 k :=
  itr_ind (P := fun _ (a : SD) => a 40 k = s 40 k) rfl m (fun j _ hj h => (w40_rel (by omega)).trans h)
theorem w40_tick {p : PD} {s : SD} {k : Nat} (hk : nL p ≤ k) (h8 : nL p ≤ 8) : tick p s 40 k = s 40 k := by
  unfold tick
  rw [tSends_eq, note_at, if_neg (fun q => absurd q.1 (by decide)), w40_sends]
  unfold tRelease tDeliver tGrow
  rw [w40_rels _ hk, w40_dels, grow_at (nL p) h8, if_neg (fun q => absurd q.1 (by decide))]
  exact u_nf _ _ (by decide)
theorem w40_tN {p : PD} {s : SD} {k : Nat} (hk : nL p ≤ k) (h8 : nL p ≤ 8) : ∀ n, tN p n s 40 k = s 40 k
  | 0 => rfl
  | n + 1 => by rw [tN_succ, w40_tick hk h8, w40_tN hk h8 n]
/-- two heaps that differ in the state of now, in what is laid aside and in the answers' cells alone -/
def Up (σ σ' : Hp) : Prop := (∀ a b c, (a ≠ 7 ∨ c < 7) → (a ≠ 8 ∨ (4 ≤ c ∧ c ≠ 28)) → (stN a = false ∨ b = 1) → a ≠ 61 → a ≠ 62 → gI σ' a b c = gI σ a b c) ∧ (∀ a b c, gL σ' a b c = gL σ a b c) ∧ (∀ a, gR σ' a = gR σ a)
theorem Up.refl (σ : Hp) : Up σ σ := ⟨fun _ _ _ _ _ _ _ _ => rfl, fun _ _ _ => rfl, fun _ => rfl⟩
theorem Up.trans {σ σ' σ'' : Hp} (h : Up σ σ') (h2 : Up σ' σ'') : Up σ σ'' := ⟨fun a b c q1 q2 q3 q4 q5 => (h2.1 a b c q1 q2 q3 q4 q5).trans (h.1 a b c q1 q2 q3 q4 q5), fun a b c => (h2.2.1 a b c).trans (h.2.1 a b c), fun a => (h2.2.2 a).trans (h.2.2 a)⟩
theorem Hd.up {σ σ' : Hp} (h : Hd σ σ') : Up σ σ' := ⟨fun a b c q1 q2 _ _ _ => h.1 a b c q1 (by omega), h.2.1, h.2.2⟩
theorem Up.stX (σ : Hp) {S : Nat} (hS : S ≠ 1) (x : SD) : Up σ (stX σ S x) := by
  refine ⟨fun a b c _ _ q3 _ _ => ?_, fun _ _ _ => rfl, fun _ => rfl⟩
  rcases q3 with q | q
  · exact gXn q b c
  · exact gXi (by omega) a c
theorem Up.stM (σ : Hp) (r : Nat → Int32) (tk : Int32) : Up σ (stM σ r tk) := by
  refine ⟨fun a b c _ q2 _ q4 _ => ?_, fun _ _ _ => rfl, fun _ => rfl⟩
  show (if a = 61 ∧ b = 0 then r c else if a = 8 ∧ b = 0 ∧ c = 28 then tk else σ.1 a b c) = σ.1 a b c
  rw [if_neg (by omega), if_neg (by omega)]
theorem RQ.now {n m : Nat} {σ σ' : Hp} {p : PD} {P : Nat} (h : RQ n σ p P) (hm : n ≤ m) (hd : Up σ σ') (hL : 0 < nL p) (hS : RS m p (xs σ' 0) (fun k => gI σ' 61 0 k)) : RQ m σ' p P := by
  have g1 : ∀ i k, gI σ' 1 i k = gI σ 1 i k := fun i k => hd.1 1 i k (Or.inl (by decide)) (Or.inl (by decide)) (Or.inl rfl) (by decide) (by decide)
  have g2 : ∀ i k, gI σ' 2 i k = gI σ 2 i k := fun i k => hd.1 2 i k (Or.inl (by decide)) (Or.inl (by decide)) (Or.inl rfl) (by decide) (by decide)
  have g4 : ∀ i k, gI σ' 4 i k = gI σ 4 i k := fun i k => hd.1 4 i k (Or.inl (by decide)) (Or.inl (by decide)) (Or.inl rfl) (by decide) (by decide)
  have g19 : ∀ i k, gI σ' 19 i k = gI σ 19 i k := fun i k => hd.1 19 i k (Or.inl (by decide)) (Or.inl (by decide)) (Or.inl rfl) (by decide) (by decide)
  have g22 : ∀ i k, gI σ' 22 i k = gI σ 22 i k := fun i k => hd.1 22 i k (Or.inl (by decide)) (Or.inl (by decide)) (Or.inl rfl) (by decide) (by decide)
  have g25 : ∀ i k, gI σ' 25 i k = gI σ 25 i k := fun i k => hd.1 25 i k (Or.inl (by decide)) (Or.inl (by decide)) (Or.inl rfl) (by decide) (by decide)
  have g26 : ∀ i k, gI σ' 26 i k = gI σ 26 i k := fun i k => hd.1 26 i k (Or.inl (by decide)) (Or.inl (by decide)) (Or.inl rfl) (by decide) (by decide)
  have g27 : ∀ i k, gI σ' 27 i k = gI σ 27 i k := fun i k => hd.1 27 i k (Or.inl (by decide)) (Or.inl (by decide)) (Or.inl rfl) (by decide) (by decide)
  have g28 : ∀ i k, gI σ' 28 i k = gI σ 28 i k := fun i k => hd.1 28 i k (Or.inl (by decide)) (Or.inl (by decide)) (Or.inl rfl) (by decide) (by decide)
  have g29 : ∀ i k, gI σ' 29 i k = gI σ 29 i k := fun i k => hd.1 29 i k (Or.inl (by decide)) (Or.inl (by decide)) (Or.inl rfl) (by decide) (by decide)
  have g37 : ∀ i k, gI σ' 37 i k = gI σ 37 i k := fun i k => hd.1 37 i k (Or.inl (by decide)) (Or.inl (by decide)) (Or.inl rfl) (by decide) (by decide)
  have g47 : ∀ i k, gI σ' 47 i k = gI σ 47 i k := fun i k => hd.1 47 i k (Or.inl (by decide)) (Or.inl (by decide)) (Or.inl rfl) (by decide) (by decide)
  have g48 : ∀ i k, gI σ' 48 i k = gI σ 48 i k := fun i k => hd.1 48 i k (Or.inl (by decide)) (Or.inl (by decide)) (Or.inl rfl) (by decide) (by decide)
  have g49 : ∀ i k, gI σ' 49 i k = gI σ 49 i k := fun i k => hd.1 49 i k (Or.inl (by decide)) (Or.inl (by decide)) (Or.inl rfl) (by decide) (by decide)
  have g50 : ∀ i k, gI σ' 50 i k = gI σ 50 i k := fun i k => hd.1 50 i k (Or.inl (by decide)) (Or.inl (by decide)) (Or.inl rfl) (by decide) (by decide)
  have g51 : ∀ i k, gI σ' 51 i k = gI σ 51 i k := fun i k => hd.1 51 i k (Or.inl (by decide)) (Or.inl (by decide)) (Or.inl rfl) (by decide) (by decide)
  have g52 : ∀ i k, gI σ' 52 i k = gI σ 52 i k := fun i k => hd.1 52 i k (Or.inl (by decide)) (Or.inl (by decide)) (Or.inl rfl) (by decide) (by decide)
  have g53 : ∀ i k, gI σ' 53 i k = gI σ 53 i k := fun i k => hd.1 53 i k (Or.inl (by decide)) (Or.inl (by decide)) (Or.inl rfl) (by decide) (by decide)
  have g55 : ∀ i k, gI σ' 55 i k = gI σ 55 i k := fun i k => hd.1 55 i k (Or.inl (by decide)) (Or.inl (by decide)) (Or.inl rfl) (by decide) (by decide)
  have g57 : ∀ i k, gI σ' 57 i k = gI σ 57 i k := fun i k => hd.1 57 i k (Or.inl (by decide)) (Or.inl (by decide)) (Or.inl rfl) (by decide) (by decide)
  have g63 : ∀ i k, gI σ' 63 i k = gI σ 63 i k := fun i k => hd.1 63 i k (Or.inl (by decide)) (Or.inl (by decide)) (Or.inl rfl) (by decide) (by decide)
  have g14 : gI σ' 8 0 14 = gI σ 8 0 14 := hd.1 8 0 14 (Or.inl (by decide)) (Or.inr (by decide)) (Or.inl rfl) (by decide) (by decide)
  have g8_5 : gI σ' 8 0 5 = gI σ 8 0 5 := hd.1 8 0 5 (Or.inl (by decide)) (Or.inr (by decide)) (Or.inl rfl) (by decide) (by decide)
  have g8_27 : gI σ' 8 0 27 = gI σ 8 0 27 := hd.1 8 0 27 (Or.inl (by decide)) (Or.inr (by decide)) (Or.inl rfl) (by decide) (by decide)
  have g7_6 : gI σ' 7 0 6 = gI σ 7 0 6 := hd.1 7 0 6 (Or.inr (by decide)) (Or.inl (by decide)) (Or.inl rfl) (by decide) (by decide)
  have xx : ∀ f k, stN f = true → xs σ' 1 f k = xs σ 1 f k := fun f k hf => hd.1 f 1 k (Or.inl (stN_78 hf).1) (Or.inl (stN_78 hf).2) (Or.inr rfl) (fun e => by subst e; exact absurd hf (by decide)) (fun e => by subst e; exact absurd hf (by decide))
  obtain ⟨⟨h1, h2, h3, h4, h5, h6, h7, h8, h9, h10⟩, hT, hN, hK⟩ := h
  refine ⟨⟨h1, (hd.2.2 0).trans h2, (hd.2.2 1).trans h3, h4, ?_, ?_, ?_, g14.trans h8, h9, fun q => ?_⟩, ?_, ⟨fun q => hS, fun q => by omega⟩, ?_, fun q => ?_⟩
  · unfold PX at h5 ⊢
    simp only [g2, g22, g25, g26, g27, g28, g29]
    exact h5
  · unfold PM at h6 ⊢
    simp only [g53, g55, g57]
    exact h6
  · unfold NmOk at h7 ⊢
    simp only [hd.2.1]
    exact h7
  · have := h10 q
    unfold WY UE OW EVn at this ⊢
    simp only [g1, g19, g47, g48, g49, g50, hd.2.1]
    exact this
  · unfold RT at hT ⊢
    simp only [g4, g8_5, g37, g52]
    exact hT
  · rw [g7_6, g8_27]
    exact hK.1
  · rw [g7_6] at q
    exact ⟨hL, ((hK.2 q).2.mono hm).ext xx (fun k => g63 0 k)⟩
/-- n ticks of the reference -/
theorem m_goes {p : PD} {σ : Hp} {r : Nat → Int32} {tk : Int32} {s : SD} {t b k : Nat} {Q : Hp → Prop} (hV : PV p) (hP : PM σ p) (ht : t + k < 2 ^ 29) (hI : Inv p t (fun _ => t + 1) b s) (hE : ER r s) (hK : ∀ r' tk', EM r' tk' (s 0 0) (tN p k s) → Q (stM σ r' tk')) : S_X8_goes (nI k) (stM σ r tk) Q := by
  unfold S_X8_goes
  rintro _ rfl
  rw [sM28]
  have go : ∀ j i r' tk', i + j = k → EM r' tk' (s 0 0) (tN p i s) → L_X8_goes_7 Q (fun σ4 => Q σ4) (nI k) (j + 1) (nI i) (stM σ r' tk') := by
    intro j
    induction j with
    | zero =>
      intro i r' tk' hi hE'
      have : i = k := by omega
      subst this
      exact ⟨fun _ => hK r' tk' hE', fun q => absurd (nI_le (Nat.le_refl i) (by omega)) q⟩
    | succ j ih =>
      intro i r' tk' hi hE'
      unfold L_X8_goes_7
      rw [le_nI (by omega) (by omega), show (1 : Int32) = nI 1 from rfl, add_nI]
      refine ⟨fun q => by omega, fun _ => ?_⟩
      exact m_tick hV hP (by omega) (inv_tN hV hI i (by omega)) hE' (fun r'' tk'' hE'' => ih (i + 1) r'' tk'' (by omega) hE'')
  refine ⟨k + 1, go k 0 r 0 (by omega) ⟨hE, ?_⟩⟩
  show (0 : Int32) = s 0 0 - s 0 0
  rw [Int32.sub_self]
