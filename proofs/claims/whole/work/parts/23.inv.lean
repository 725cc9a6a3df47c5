/-! ===== what holds of a state, and that a tick keeps it ===== -/
def FrOk (p : PD) (s : SD) (t q i : Nat) : Prop := ∃ l n b, l < nL p ∧ n ≤ 255 ∧ b ≤ t ∧ s 34 (12 * q + i) = nI l ∧ s 35 (12 * q + i) = nI n ∧ s 36 (12 * q + i) = nI b ∧ on p l (q % 16)
def PtOk (p : PD) (s : SD) (t lo q : Nat) : Prop := ∃ c, c ≤ pRoom p ∧ s 30 q = nI c ∧ (∀ i, i < c → FrOk p s t q i) ∧ (s 32 q = -2 ∨ (0 < c ∧ ∃ d, lo ≤ d ∧ d ≤ t + 40 ∧ s 32 q = nI d))
def LkOk (p : PD) (s : SD) (t l : Nat) : Prop := (∃ w, w ≤ 16 ∧ s 40 l = nI w) ∧ (∃ n, n ≤ t + 256 ∧ s 41 l = nI n) ∧ (∃ n, n ≤ 255 ∧ s 42 l = nI n) ∧ (∀ net, net < 2 → ∃ c, c ≤ cred p l ∧ s 45 (8 * net + l) = nI c)
def EaOk (s : SD) (t b ear : Nat) : Prop := (∃ k, k ≤ b ∧ s 9 ear = nI k ∧ (k = 0 → s 15 ear = -2 ∧ s 16 ear = -2) ∧ (0 < k → (∃ n, n ≤ 255 ∧ s 12 ear = nI n) ∧ (∃ w, w ≤ t ∧ s 13 ear = nI w) ∧ (∃ a, a ≤ t ∧ s 15 ear = nI a) ∧ (∃ a, a ≤ t ∧ s 16 ear = nI a))) ∧ (∀ net, net < 2 → s 17 (2 * ear + net) = -2 ∨ ∃ n, n ≤ 255 ∧ s 17 (2 * ear + net) = nI n)
def Inv (p : PD) (t : Nat) (lo : Nat → Nat) (b : Nat) (s : SD) : Prop := s 5 0 = nI t ∧ (∀ q, q < 32 → PtOk p s t (lo q) q) ∧ (∀ l, l < nL p → LkOk p s t l) ∧ (∀ l, l < nL p → ∀ i, i < rc p l → EaOk s t b (3 * l + i))
theorem PtOk.congr {p : PD} {s s' : SD} {t lo q : Nat} (h30 : s' 30 q = s 30 q) (h32 : s' 32 q = s 32 q) (hf : ∀ i, i < 12 → s' 34 (12 * q + i) = s 34 (12 * q + i) ∧ s' 35 (12 * q + i) = s 35 (12 * q + i) ∧ s' 36 (12 * q + i) = s 36 (12 * q + i)) (hr : pRoom p ≤ 12) (h : PtOk p s t lo q) : PtOk p s' t lo q := by
  obtain ⟨c, h1, h2, h3, h4⟩ := h
  refine ⟨c, h1, h30.trans h2, fun i hi => ?_, by rw [h32]; exact h4⟩
  obtain ⟨l, n, b, g1, g2, g3, g4, g5, g6, g7⟩ := h3 i hi
  obtain ⟨e1, e2, e3⟩ := hf i (by omega)
  exact ⟨l, n, b, g1, g2, g3, e1.trans g4, e2.trans g5, e3.trans g6, g7⟩
theorem LkOk.congr {p : PD} {s s' : SD} {t l : Nat} (h40 : s' 40 l = s 40 l) (h41 : s' 41 l = s 41 l) (h42 : s' 42 l = s 42 l) (h45 : ∀ net, net < 2 → s' 45 (8 * net + l) = s 45 (8 * net + l)) (h : LkOk p s t l) : LkOk p s' t l := by
  refine ⟨by rw [h40]; exact h.1, by rw [h41]; exact h.2.1, by rw [h42]; exact h.2.2.1, fun net hn => by rw [h45 net hn]; exact h.2.2.2 net hn⟩
theorem EaOk.congr {s s' : SD} {t b ear : Nat} (h9 : s' 9 ear = s 9 ear) (h12 : s' 12 ear = s 12 ear) (h13 : s' 13 ear = s 13 ear) (h15 : s' 15 ear = s 15 ear) (h16 : s' 16 ear = s 16 ear) (h17 : ∀ net, net < 2 → s' 17 (2 * ear + net) = s 17 (2 * ear + net)) (h : EaOk s t b ear) : EaOk s' t b ear := by
  unfold EaOk
  rw [h9, h12, h13, h15, h16]
  exact ⟨h.1, fun net hn => by rw [h17 net hn]; exact h.2 net hn⟩
theorem Inv.other {p : PD} {t : Nat} {lo : Nat → Nat} {b : Nat} {s : SD} {f k : Nat} {v : Int32} (hf : f = 39 ∨ f = 46 ∨ f = 38 ∨ f = 33 ∨ f = 43 ∨ f = 44 ∨ f = 10 ∨ f = 11 ∨ f = 14 ∨ f = 18 ∨ f = 0) (h : Inv p t lo b s) : Inv p t lo b (u s f k v) := by
  have e : ∀ a c, a ≠ f → u s f k v a c = s a c := fun a c q => u_nf s v q
  have e5 : ∀ c, u s f k v 5 c = s 5 c := fun c => e 5 c (by omega)
  have e30 : ∀ c, u s f k v 30 c = s 30 c := fun c => e 30 c (by omega)
  have e32 : ∀ c, u s f k v 32 c = s 32 c := fun c => e 32 c (by omega)
  have e34 : ∀ c, u s f k v 34 c = s 34 c := fun c => e 34 c (by omega)
  have e35 : ∀ c, u s f k v 35 c = s 35 c := fun c => e 35 c (by omega)
  have e36 : ∀ c, u s f k v 36 c = s 36 c := fun c => e 36 c (by omega)
  have e40 : ∀ c, u s f k v 40 c = s 40 c := fun c => e 40 c (by omega)
  have e41 : ∀ c, u s f k v 41 c = s 41 c := fun c => e 41 c (by omega)
  have e42 : ∀ c, u s f k v 42 c = s 42 c := fun c => e 42 c (by omega)
  have e45 : ∀ c, u s f k v 45 c = s 45 c := fun c => e 45 c (by omega)
  have e9 : ∀ c, u s f k v 9 c = s 9 c := fun c => e 9 c (by omega)
  have e12 : ∀ c, u s f k v 12 c = s 12 c := fun c => e 12 c (by omega)
  have e13 : ∀ c, u s f k v 13 c = s 13 c := fun c => e 13 c (by omega)
  have e15 : ∀ c, u s f k v 15 c = s 15 c := fun c => e 15 c (by omega)
  have e16 : ∀ c, u s f k v 16 c = s 16 c := fun c => e 16 c (by omega)
  have e17 : ∀ c, u s f k v 17 c = s 17 c := fun c => e 17 c (by omega)
  simpa only [Inv, PtOk, FrOk, LkOk, EaOk, e5, e30, e32, e34, e35, e36, e40, e41, e42, e45, e9, e12, e13, e15, e16, e17] using h
theorem Inv.mono {p : PD} {t : Nat} {lo lo' : Nat → Nat} {b b' : Nat} {s : SD} (h : Inv p t lo b s) (hl : ∀ q, q < 32 → lo' q ≤ lo q) (hb : b ≤ b') : Inv p t lo' b' s := by
  refine ⟨h.1, fun q hq => ?_, h.2.2.1, fun l hl i hi => ?_⟩
  · obtain ⟨c, h1, h2, h3, h4⟩ := h.2.1 q hq
    refine ⟨c, h1, h2, h3, h4.imp id (fun g => ⟨g.1, ?_⟩)⟩
    obtain ⟨d, d1, d2, d3⟩ := g.2
    exact ⟨d, Nat.le_trans (hl q hq) d1, d2, d3⟩
  · obtain ⟨⟨k, g1, g2⟩, g3⟩ := h.2.2.2 l hl i hi
    exact ⟨⟨k, Nat.le_trans g1 hb, g2⟩, g3⟩
theorem inv_come {p : PD} {t : Nat} {lo : Nat → Nat} {b : Nat} {s : SD} {q l n bo : Nat} (hV : PV p) (h : Inv p t lo b s) (hq : q < 32) (hl : l < nL p) (hn : n ≤ 255) (hbo : bo ≤ t) (ho : on p l (q % 16)) : Inv p t lo b (tCome p q (nI l) (nI n) (nI bo) s) := by
  have hr := hV.2.1
  obtain ⟨c, h1, h2, h3, h4⟩ := h.2.1 q hq
  unfold tCome
  by_cases hc : s 30 q = nI (pRoom p)
  · rw [if_pos hc]
    exact h.other (Or.inl rfl)
  · rw [if_neg hc, h2, ix_nI (by omega)]
    have hc2 : c < pRoom p := by
      rw [h2, eq_nI (by omega) (by omega)] at hc
      omega
    refine ⟨?_, fun q' hq' => ?_, fun l' hl' => ?_, fun l' hl' i hi => ?_⟩
    · simpa only [u_nf _ _ (show (5:Nat) ≠ 30 by decide), u_nf _ _ (show (5:Nat) ≠ 34 by decide), u_nf _ _ (show (5:Nat) ≠ 35 by decide), u_nf _ _ (show (5:Nat) ≠ 36 by decide)] using h.1
    · by_cases hqq : q' = q
      · subst hqq
        refine ⟨c + 1, by omega, ?_, fun i hi => ?_, ?_⟩
        · rw [u_self]; exact nI_1 c
        · by_cases hic : i = c
          · subst hic
            refine ⟨l, n, bo, hl, hn, hbo, ?_, ?_, ?_, ho⟩
            · simp [u_at]
            · simp [u_at]
            · simp [u_at]
          · obtain ⟨l1, n1, b1, g1, g2, g3, g4, g5, g6, g7⟩ := h3 i (by omega)
            have hne : 12 * q' + i ≠ 12 * q' + c := by omega
            refine ⟨l1, n1, b1, g1, g2, g3, ?_, ?_, ?_, g7⟩
            · simp [u_at, hic, g4]
            · simp [u_at, hic, g5]
            · simp [u_at, hic, g6]
        · have e32 : u (u (u (u s 34 (12 * q' + c) (nI l)) 35 (12 * q' + c) (nI n)) 36 (12 * q' + c) (nI bo)) 30 q' (nI c + 1) 32 q' = s 32 q' := by simp [u_at]
          rw [e32]
          exact h4.imp id (fun g => ⟨by omega, g.2⟩)
      · refine (h.2.1 q' hq').congr ?_ ?_ (fun i hi => ?_) hr
        · simp [u_at, hqq]
        · simp [u_at]
        · have hne : 12 * q' + i ≠ 12 * q + c := by omega
          refine ⟨?_, ?_, ?_⟩ <;> simp [u_at, hne]
    · exact (h.2.2.1 l' hl').congr (by simp [u_at]) (by simp [u_at]) (by simp [u_at]) (fun _ _ => by simp [u_at])
    · exact (h.2.2.2 l' hl' i hi).congr (by simp [u_at]) (by simp [u_at]) (by simp [u_at]) (by simp [u_at]) (by simp [u_at]) (fun _ _ => by simp [u_at])
theorem itr_ind {α : Type} {f : Nat → α → α} {P : Nat → α → Prop} {s : α} (h0 : P 0 s) : ∀ (n : Nat), (∀ k a, k < n → P k a → P (k + 1) (f k a)) → P n (itr f n s)
  | 0, _ => h0
  | n + 1, hs => hs n _ (Nat.lt_succ_self n) (itr_ind h0 n (fun k a hk => hs k a (Nat.lt_succ_of_lt hk)))
theorem inv_spread {p : PD} {t : Nat} {lo : Nat → Nat} {b : Nat} {s : SD} {net l fp n bo : Nat} (hV : PV p) (h : Inv p t lo b s) (hnet : net < 2) (hf : fp < 6 ∨ (12 ≤ fp ∧ fp < 16)) (hl : l < nL p) (hn : n ≤ 255) (hbo : bo ≤ t) (ho : on p l fp) : Inv p t lo b (tSpread p net l fp (nI n) (nI bo) s) := by
  unfold tSpread
  refine itr_ind (P := fun _ a => Inv p t lo b a) h 10 (fun k a hk ha => ?_)
  unfold tSpread1
  by_cases hx : nxt p l fp (k + 6)
  · rw [cif_pos hx]
    refine inv_come hV ha (by omega) hl hn hbo ?_
    have : (16 * net + (k + 6)) % 16 = k + 6 := by omega
    rw [this]
    exact on_next (hV.2.2.2.2.2.2.2.2 l hl) hV.2.2.2.2.2.2.2.1 hV.1 hV.2.2.2.2.2.1 hf (by omega) (by omega) ho hx
  · rw [cif_neg hx]
    exact ha
theorem inv_cred {p : PD} {t : Nat} {lo : Nat → Nat} {b : Nat} {s : SD} {net l c : Nat} (h : Inv p t lo b s) (hL : nL p ≤ 8) (hnet : net < 2) (hl : l < nL p) (hc : c ≤ cred p l) : Inv p t lo b (u s 45 (8 * net + l) (nI c)) := by
  refine ⟨by simpa [u_at] using h.1, fun q hq => ?_, fun l' hl' => ?_, fun l' hl' i hi => ?_⟩
  · obtain ⟨c', h1, h2, h3, h4⟩ := h.2.1 q hq
    refine ⟨c', h1, by simpa [u_at] using h2, fun i hi => ?_, by simpa [u_at] using h4⟩
    obtain ⟨l1, n1, b1, g1, g2, g3, g4, g5, g6, g7⟩ := h3 i hi
    exact ⟨l1, n1, b1, g1, g2, g3, by simpa [u_at] using g4, by simpa [u_at] using g5, by simpa [u_at] using g6, g7⟩
  · obtain ⟨g1, g2, g3, g4⟩ := h.2.2.1 l' hl'
    refine ⟨by simpa [u_at] using g1, by simpa [u_at] using g2, by simpa [u_at] using g3, fun net' hn' => ?_⟩
    by_cases he : 8 * net' + l' = 8 * net + l
    · have hll : l' = l := by omega
      subst hll
      exact ⟨c, hc, by rw [he, u_self]⟩
    · rw [u_nk _ _ he]
      exact g4 net' hn'
  · exact (h.2.2.2 l' hl' i hi).congr (by simp [u_at]) (by simp [u_at]) (by simp [u_at]) (by simp [u_at]) (by simp [u_at]) (fun _ _ => by simp [u_at])
theorem cred_lt {p : PD} {l : Nat} (hV : PV p) (hl : l < nL p) : cred p l ≤ 40 * 656 ∧ ln p l * gp p l ≤ cred p l ∧ ln p l * gp p l ≤ 40 * 256 ∧ gp p l ≤ 256 ∧ 8 ≤ gp p l := by
  obtain ⟨-, h2, h3, h4, -⟩ := hV.2.2.2.2.2.2.2.2 l hl
  have hj := hV.2.2.1
  have hg : gp p l ≤ 256 ∧ 8 ≤ gp p l := by
    unfold isGap at h2
    omega
  unfold cred
  exact ⟨Nat.mul_le_mul h4 (by omega), Nat.mul_le_mul_left _ (by omega), Nat.mul_le_mul h4 hg.1, hg.1, hg.2⟩
theorem inv_switch {p : PD} {t : Nat} {lo : Nat → Nat} {b : Nat} {s : SD} {q l n bo : Nat} (hV : PV p) (h : Inv p t lo b s) (hq : q < 32) (hf : q % 16 < 6 ∨ 12 ≤ q % 16) (hl : l < nL p) (hn : n ≤ 255) (hbo : bo ≤ t) (ho : on p l (q % 16)) : Inv p t lo b (tSwitch p q l (nI n) (nI bo) s) := by
  have hnet : q / 16 < 2 := by omega
  have hf2 : q % 16 < 6 ∨ (12 ≤ q % 16 ∧ q % 16 < 16) := by omega
  unfold tSwitch
  by_cases h1 : s 38 (q / 16) = 1
  · rw [if_pos h1]; exact h.other (Or.inl rfl)
  · rw [if_neg h1]
    by_cases h2 : q % 16 < 6
    · rw [if_pos h2]
      by_cases h3 : nI (ln p l * gp p l) ≤ s 45 (8 * (q / 16) + l)
      · rw [if_pos h3]
        obtain ⟨c, c1, c2⟩ := (h.2.2.1 l hl).2.2.2 (q / 16) hnet
        have hcl := cred_lt hV hl
        rw [c2, le_nI (by omega) (by omega)] at h3
        rw [c2, sub_nI h3]
        exact inv_spread hV (inv_cred h hV.2.2.2.2.2.2.1 hnet hl (by omega)) hnet hf2 hl hn hbo ho
      · rw [if_neg h3]
        exact (h.other (Or.inl rfl)).other (Or.inr (Or.inl rfl))
    · rw [if_neg h2]
      exact inv_spread hV h hnet hf2 hl hn hbo ho
