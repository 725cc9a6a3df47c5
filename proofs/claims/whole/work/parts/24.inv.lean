theorem beh_le {n : Nat} (h : n ≤ 255) : ∃ m, m ≤ 255 ∧ 1 ≤ m ∧ beh (nI n) = nI m := by
  unfold beh
  by_cases h1 : nI n = 255
  · rw [if_pos h1]; exact ⟨1, by decide, by decide, rfl⟩
  · rw [if_neg h1]
    have : n ≠ 255 := fun q => h1 (by rw [q]; rfl)
    exact ⟨n + 1, by omega, by omega, nI_1 n⟩
theorem EaOk.mono {s : SD} {t b b' ear : Nat} (h : EaOk s t b ear) (hb : b ≤ b') : EaOk s t b' ear := by
  obtain ⟨⟨k, g1, g2⟩, g3⟩ := h
  exact ⟨⟨k, Nat.le_trans g1 hb, g2⟩, g3⟩
theorem ear_inj {p : PD} {l i l' i' : Nat} (h : i < 3) (h' : i' < 3) (e : 3 * l + i = 3 * l' + i') : l = l' ∧ i = i' := by omega
/-- changes at one ear alone -/
theorem Inv.ear {p : PD} {t : Nat} {lo : Nat → Nat} {b b' : Nat} {s s' : SD} {ear : Nat} (h : Inv p t lo b s) (hb : b ≤ b') (hV : PV p) (hp : ∀ f, f = 5 ∨ f = 30 ∨ f = 32 ∨ f = 34 ∨ f = 35 ∨ f = 36 ∨ f = 40 ∨ f = 41 ∨ f = 42 ∨ f = 45 → ∀ k, s' f k = s f k)
    (ho : ∀ e, e ≠ ear → s' 9 e = s 9 e ∧ s' 12 e = s 12 e ∧ s' 13 e = s 13 e ∧ s' 15 e = s 15 e ∧ s' 16 e = s 16 e ∧ ∀ net, net < 2 → s' 17 (2 * e + net) = s 17 (2 * e + net)) (he : EaOk s' t b' ear) : Inv p t lo b' s' := by
  refine ⟨(hp 5 (by omega) 0).trans h.1, fun q hq => ?_, fun l hl => ?_, fun l hl i hi => ?_⟩
  · exact (h.2.1 q hq).congr (hp 30 (by omega) _) (hp 32 (by omega) _) (fun i _ => ⟨hp 34 (by omega) _, hp 35 (by omega) _, hp 36 (by omega) _⟩) hV.2.1
  · exact (h.2.2.1 l hl).congr (hp 40 (by omega) _) (hp 41 (by omega) _) (hp 42 (by omega) _) (fun _ _ => hp 45 (by omega) _)
  · by_cases hx : 3 * l + i = ear
    · rw [hx]; exact he
    · obtain ⟨g1, g2, g3, g4, g5, g6⟩ := ho _ hx
      exact ((h.2.2.2 l hl i hi).congr g1 g2 g3 g4 g5 g6).mono hb
theorem sub_le_t {t b : Nat} (h : b ≤ t) : nI t - nI b = nI (t - b) := sub_nI h
theorem inv_hear {p : PD} {t : Nat} {lo : Nat → Nat} {b : Nat} {s : SD} {l i net n bo : Nat} (hV : PV p) (ht : t < 2 ^ 30) (h : Inv p t lo b s) (hl : l < nL p) (hi : i < rc p l) (hnet : net < 2) (hn : n ≤ 255) (hbo : bo ≤ t) : Inv p t lo (b + 1) (tHear p (3 * l + i) net (nI n) (nI bo) s) := by
  obtain ⟨ear, hear⟩ : ∃ ear, ear = 3 * l + i := ⟨_, rfl⟩
  have hE : EaOk s t b ear := hear ▸ h.2.2.2 l hl i hi
  have ht5 := h.1
  have hE17 : ∀ net', net' < 2 → u s 17 (2 * ear + net) (nI n) 17 (2 * ear + net') = -2 ∨ ∃ m, m ≤ 255 ∧ u s 17 (2 * ear + net) (nI n) 17 (2 * ear + net') = nI m := by
    intro net' hn'
    by_cases hx : net' = net
    · subst hx; exact Or.inr ⟨n, hn, u_self _ _ _ _⟩
    · rw [u_nk _ _ (by omega)]; exact hE.2 net' hn'
  rw [← hear]
  unfold tHear
  by_cases h1 : whole1 (s 17 (2 * ear + net)) (nI n)
  · rw [cif_pos h1]
    unfold tHear1
    by_cases h2 : fresh1 p (u s 17 (2 * ear + net) (nI n)) ear (nI n)
    · rw [cif_pos h2]
      obtain ⟨⟨k, k1, k2, k3, k4⟩, -⟩ := hE
      refine h.ear (ear := ear) (Nat.le_succ b) hV ?_ ?_ ?_
      · intro f hf c
        unfold tTake tMem
        rw [if_neg (by omega)]
        simp only [u_at]
        repeat' (first | rw [if_neg (by omega)])
      · intro e hne
        unfold tTake tMem
        refine ⟨?_, ?_, ?_, ?_, ?_, fun net' hn' => ?_⟩ <;> (rw [if_neg (by omega)]; simp only [u_at]; repeat' (first | rw [if_neg (by omega)]))
      · refine ⟨⟨k + 1, by omega, ?_, fun q => by omega, fun _ => ⟨⟨n, hn, ?_⟩, ⟨t, Nat.le_refl t, ?_⟩, ?_, ?_⟩⟩, fun net' hn' => ?_⟩
        · unfold tTake tMem
          rw [if_neg (by omega)]
          simp [u_at, k2, nI_1]
        · unfold tTake tMem
          rw [if_neg (by omega)]
          simp [u_at]
        · unfold tTake tMem
          rw [if_neg (by omega)]
          simp [u_at, ht5]
        · unfold tTake tMem
          rw [if_neg (by omega)]
          simp only [u_at]
          simp only [Nat.reduceEqDiff, false_and, if_false, true_and, and_self, if_true, late1, u_at, ht5, sub_le_t hbo]
          by_cases q1 : s 15 ear = -2
          · rw [if_pos q1]; exact ⟨t - bo, by omega, rfl⟩
          · rw [if_neg q1]
            by_cases q2 : nI (t - bo) ≤ s 15 ear
            · rw [if_pos q2]
              rcases Nat.eq_zero_or_pos k with z | z
              · exact absurd (k3 z).1 q1
              · exact (k4 z).2.2.1
            · rw [if_neg q2]; exact ⟨t - bo, by omega, rfl⟩
        · unfold tTake tMem
          rw [if_neg (by omega)]
          simp only [u_at]
          simp only [Nat.reduceEqDiff, false_and, if_false, true_and, and_self, if_true, soon1, u_at, ht5, sub_le_t hbo]
          by_cases q1 : s 16 ear = -2
          · rw [if_pos q1]; exact ⟨t - bo, by omega, rfl⟩
          · rw [if_neg q1]
            by_cases q2 : s 16 ear ≤ nI (t - bo)
            · rw [if_pos q2]
              rcases Nat.eq_zero_or_pos k with z | z
              · exact absurd (k3 z).2 q1
              · exact (k4 z).2.2.2
            · rw [if_neg q2]; exact ⟨t - bo, by omega, rfl⟩
        · have : tTake ear net (nI n) (nI bo) (u s 17 (2 * ear + net) (nI n)) 17 (2 * ear + net') = u s 17 (2 * ear + net) (nI n) 17 (2 * ear + net') := by
            unfold tTake tMem
            rw [if_neg (by omega)]
            simp only [u_at]
            simp only [Nat.reduceEqDiff, false_and, if_false]
          rw [this]
          exact hE17 net' hn'
    · rw [cif_neg h2]
      refine h.ear (ear := ear) (Nat.le_succ b) hV ?_ ?_ ?_
      · intro f hf c
        rw [u_nf _ _ (by omega), u_nf _ _ (by omega)]
      · intro e hne
        refine ⟨?_, ?_, ?_, ?_, ?_, fun net' hn' => ?_⟩ <;> simp only [u_at] <;> (repeat' (first | rw [if_neg (by omega)]))
      · refine EaOk.mono ⟨?_, ?_⟩ (Nat.le_succ b)
        · simpa [u_at] using hE.1
        · intro net' hn'
          rw [u_nf _ _ (by decide)]
          exact hE17 net' hn'
  · rw [cif_neg h1]
    refine h.ear (ear := ear) (Nat.le_succ b) hV ?_ ?_ ?_
    · intro f hf c
      rw [u_nf _ _ (by omega), u_nf _ _ (by omega)]
    · intro e hne
      refine ⟨?_, ?_, ?_, ?_, ?_, fun net' hn' => ?_⟩ <;> simp only [u_at] <;> (repeat' (first | rw [if_neg (by omega)]))
    · refine EaOk.mono ⟨?_, ?_⟩ (Nat.le_succ b)
      · simpa [u_at] using hE.1
      · intro net' hn'
        rw [u_nf _ _ (by decide)]
        exact hE17 net' hn'
theorem pop_nf {q f k : Nat} {s : SD} (h : f ≠ 30 ∧ f ≠ 32 ∧ f ≠ 34 ∧ f ≠ 35 ∧ f ≠ 36) : tPop q s f k = s f k := by
  unfold tPop
  rw [if_neg (by omega), if_neg (by omega), if_neg (by omega)]
theorem pop_fr {q i f c : Nat} {s : SD} (hf : f = 34 ∨ f = 35 ∨ f = 36) (hc : s 30 q = nI c) (hc2 : c < 2 ^ 31) (hi : i < 12) (hi2 : i + 1 < c) : tPop q s f (12 * q + i) = s f (12 * q + (i + 1)) := by
  unfold tPop
  rw [if_neg (by omega), if_neg (by omega), hc, ix_nI hc2, if_pos ⟨hf, by omega, by omega⟩]
  rfl
theorem pop_fo {q q' i f : Nat} {s : SD} (hf : f = 34 ∨ f = 35 ∨ f = 36) (hi : i < 12) (hq : q' ≠ q) : tPop q s f (12 * q' + i) = s f (12 * q' + i) := by
  unfold tPop
  rw [if_neg (by omega), if_neg (by omega), if_neg (by omega)]
theorem inv_pop {p : PD} {t : Nat} {lo lo' : Nat → Nat} {b : Nat} {s : SD} {q c : Nat} (hV : PV p) (h : Inv p t lo b s) (hq : q < 32) (hc : s 30 q = nI c) (hc0 : 0 < c) (hcb : c < 2 ^ 31) (hlo : ∀ j, j ≠ q → lo' j = lo j) : Inv p t lo' b (tPop q s) := by
  have hr := hV.2.1
  have h30 : tPop q s 30 q = nI (c - 1) := by
    unfold tPop
    rw [if_pos ⟨rfl, rfl⟩, hc]
    exact sub_nI hc0
  have h32 : tPop q s 32 q = -2 := by
    unfold tPop
    rw [if_neg (by omega), if_pos ⟨rfl, rfl⟩]
  refine ⟨(pop_nf (by decide)).trans h.1, fun q' hq' => ?_, fun l hl => ?_, fun l hl i hi => ?_⟩
  · by_cases hqq : q' = q
    · subst hqq
      obtain ⟨c', h1, h2, h3, h4⟩ := h.2.1 q' hq'
      have hcc : c' = c := by
        rw [hc, eq_nI] at h2
        · exact h2.symm
        · exact hcb
        · omega
      subst hcc
      refine ⟨c' - 1, by omega, h30, fun i hi => ?_, Or.inl h32⟩
      obtain ⟨l1, n1, b1, g1, g2, g3, g4, g5, g6, g7⟩ := h3 (i + 1) (by omega)
      exact ⟨l1, n1, b1, g1, g2, g3, (pop_fr (by omega) hc (by omega) (by omega) (by omega)).trans g4, (pop_fr (by omega) hc (by omega) (by omega) (by omega)).trans g5, (pop_fr (by omega) hc (by omega) (by omega) (by omega)).trans g6, g7⟩
    · rw [hlo q' hqq]
      refine (h.2.1 q' hq').congr ?_ ?_ (fun i hi => ⟨pop_fo (by omega) hi hqq, pop_fo (by omega) hi hqq, pop_fo (by omega) hi hqq⟩) hr
      · unfold tPop; rw [if_neg (by omega), if_neg (by omega), if_neg (by omega)]
      · unfold tPop; rw [if_neg (by omega), if_neg (by omega), if_neg (by omega)]
  · exact (h.2.2.1 l hl).congr (pop_nf (by decide)) (pop_nf (by decide)) (pop_nf (by decide)) (fun _ _ => pop_nf (by decide))
  · exact (h.2.2.2 l hl i hi).congr (pop_nf (by decide)) (pop_nf (by decide)) (pop_nf (by decide)) (pop_nf (by decide)) (pop_nf (by decide)) (fun _ _ => pop_nf (by decide))
