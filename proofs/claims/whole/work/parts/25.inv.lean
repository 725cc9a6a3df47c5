theorem room_lt {p : PD} (hV : PV p) : pRoom p < 2 ^ 31 := by have := hV.2.1; omega
theorem inv_leave {p : PD} {t : Nat} {lo lo' : Nat → Nat} {b : Nat} {s : SD} {q c : Nat} (hV : PV p) (ht : t < 2 ^ 30) (h : Inv p t lo b s) (hq : q < 32) (hc : s 30 q = nI c) (hc0 : 0 < c) (hcr : c ≤ pRoom p) (hlo : ∀ j, j ≠ q → lo' j = lo j) : Inv p t lo' (b + 1) (tLeave p q s) := by
  have hr := hV.2.1
  obtain ⟨c', h1, h2, h3, h4⟩ := h.2.1 q hq
  have hcc : c' = c := by
    rw [hc, eq_nI (by omega) (by omega)] at h2
    exact h2.symm
  subst hcc
  obtain ⟨l, n, bo, g1, g2, g3, g4, g5, g6, g7⟩ := h3 0 hc0
  rw [Nat.add_zero] at g4 g5 g6
  have hL := hV.2.2.2.2.2.2.1
  have hP : Inv p t lo' b (tPop q s) := inv_pop hV h hq hc hc0 (by omega) hlo
  unfold tLeave
  rw [g4, g5, g6, ix_nI (by omega)]
  by_cases hx : 6 ≤ q % 16 ∧ q % 16 < 12
  · rw [if_pos hx]
    have he : on p l (6 + (q % 16 - 6)) := by
      have : 6 + (q % 16 - 6) = q % 16 := by omega
      rw [this]; exact g7
    obtain ⟨i, hi, hre⟩ := on_end (hV.2.2.2.2.2.2.2.2 l g1) (by omega) hV.2.2.2.2.2.1 hV.2.2.2.2.2.2.2.1 hV.1 he
    rw [rIx_of (hV.2.2.2.2.2.2.2.2 l g1) hi hre]
    exact inv_hear hV ht hP g1 hi (by omega) g2 g3
  · rw [if_neg hx]
    exact (inv_switch hV hP hq (by omega) g1 g2 g3 g7).mono (fun _ _ => Nat.le_refl _) (Nat.le_succ b)
theorem inv_del1 {p : PD} {t b q : Nat} {s : SD} (hV : PV p) (ht : t < 2 ^ 30) (h : Inv p t (fun j => if j < q then t + 1 else t) b s) (hq : q < 32) : Inv p t (fun j => if j < q + 1 then t + 1 else t) (b + 1) (tDel1 p q s) := by
  have hr := hV.2.1
  obtain ⟨c, h1, h2, h3, h4⟩ := h.2.1 q hq
  have hlo : ∀ j, j ≠ q → (fun j => if j < q + 1 then t + 1 else t) j = (fun j => if j < q then t + 1 else t) j := by
    intro j hj
    dsimp only
    by_cases z : j < q
    · rw [if_pos z, if_pos (by omega)]
    · rw [if_neg z, if_neg (by omega)]
  unfold tDel1
  by_cases hd : s 32 q = s 5 0
  · rw [if_pos hd]
    rcases h4 with h4 | h4
    · exfalso
      rw [h4, h.1] at hd
      have hd2 : nI t = -nI 2 := hd.symm
      rw [eq_neg (by omega) (by omega) (by omega)] at hd2
      exact hd2
    · exact inv_leave hV ht h hq h2 h4.1 h1 hlo
  · rw [if_neg hd]
    refine ⟨h.1, fun j hj => ?_, h.2.2.1, fun l hl i hi => (h.2.2.2 l hl i hi).mono (Nat.le_succ b)⟩
    by_cases hjq : j = q
    · subst hjq
      refine ⟨c, h1, h2, h3, h4.imp id (fun g => ⟨g.1, ?_⟩)⟩
      obtain ⟨d, d1, d2, d3⟩ := g.2
      have d1 : t ≤ d := by
        have : (if j < j then t + 1 else t) = t := if_neg (by omega)
        have d1 : (if j < j then t + 1 else t) ≤ d := d1
        rw [this] at d1
        exact d1
      refine ⟨d, ?_, d2, d3⟩
      show (if j < j + 1 then t + 1 else t) ≤ d
      rw [if_pos (by omega)]
      rcases Nat.lt_or_ge t d with z | z
      · exact z
      · exfalso
        have : d = t := by omega
        rw [d3, this, h.1] at hd
        exact hd rfl
    · rw [hlo j hjq]
      exact h.2.1 j hj
theorem inv_deliver {p : PD} {t b : Nat} {s : SD} (hV : PV p) (ht : t < 2 ^ 30) (h : Inv p t (fun _ => t) b s) (k : Nat) (hk : k ≤ 32) : Inv p t (fun j => if j < k then t + 1 else t) (b + k) (itr (tDel1 p) k s) := by
  refine itr_ind (P := fun k a => Inv p t (fun j => if j < k then t + 1 else t) (b + k) a) ?_ k (fun j a hj ha => ?_)
  · exact h.mono (fun q _ => by rw [if_neg (by omega)]; exact Nat.le_refl _) (by omega)
  · exact inv_del1 hV ht ha (by omega)
theorem inv_cr {p : PD} {t : Nat} {lo : Nat → Nat} {b : Nat} {s : SD} {l net : Nat} (hV : PV p) (h : Inv p t lo b s) (hl : l < nL p) (hnet : net < 2) : Inv p t lo b (tCr p l net s) := by
  obtain ⟨c, c1, c2⟩ := (h.2.2.1 l hl).2.2.2 net hnet
  have hcl := cred_lt hV hl
  have h40 := (hV.2.2.2.2.2.2.2.2 l hl).2.2.2.1
  unfold tCr
  rw [c2, add_nI]
  by_cases hx : nI (c + ln p l) ≤ nI (cred p l)
  · rw [if_pos hx]; rw [le_nI (by omega) (by omega)] at hx; exact inv_cred h hV.2.2.2.2.2.2.1 hnet hl hx
  · rw [if_neg hx]; exact inv_cred h hV.2.2.2.2.2.2.1 hnet hl (Nat.le_refl _)
theorem inv_grow {p : PD} {t : Nat} {lo : Nat → Nat} {b : Nat} {s : SD} (hV : PV p) (h : Inv p t lo b s) (k : Nat) (hk : k ≤ nL p) : Inv p t lo b (itr (fun l s => tCr p l 1 (tCr p l 0 s)) k s) :=
  itr_ind (P := fun _ a => Inv p t lo b a) h k (fun j a hj ha => inv_cr hV (inv_cr hV ha (by omega) (by decide)) (by omega) (by decide))
theorem inv_time {p : PD} {t b : Nat} {s : SD} (h : Inv p t (fun _ => t + 1) b s) : Inv p (t + 1) (fun _ => t + 1) b (u s 5 0 (s 5 0 + 1)) := by
  refine ⟨by rw [u_self, h.1]; exact nI_1 t, fun q hq => ?_, fun l hl => ?_, fun l hl i hi => ?_⟩
  · obtain ⟨c, h1, h2, h3, h4⟩ := h.2.1 q hq
    refine ⟨c, h1, by simpa [u_at] using h2, fun i hi => ?_, ?_⟩
    · obtain ⟨l1, n1, b1, g1, g2, g3, g4, g5, g6, g7⟩ := h3 i hi
      exact ⟨l1, n1, b1, g1, g2, by omega, by simpa [u_at] using g4, by simpa [u_at] using g5, by simpa [u_at] using g6, g7⟩
    · rw [u_nf _ _ (by decide)]
      refine h4.imp id (fun g => ⟨g.1, ?_⟩)
      obtain ⟨d, d1, d2, d3⟩ := g.2
      exact ⟨d, d1, by omega, d3⟩
  · obtain ⟨g1, ⟨n, n1, n2⟩, g3, g4⟩ := h.2.2.1 l hl
    exact ⟨by simpa [u_at] using g1, ⟨n, by omega, by simpa [u_at] using n2⟩, by simpa [u_at] using g3, fun net hn => by simpa [u_at] using g4 net hn⟩
  · obtain ⟨⟨k, k1, k2, k3, k4⟩, g2⟩ := h.2.2.2 l hl i hi
    refine ⟨⟨k, k1, by simpa [u_at] using k2, by simpa [u_at] using k3, fun z => ?_⟩, fun net hn => by simpa [u_at] using g2 net hn⟩
    obtain ⟨a1, ⟨w, w1, w2⟩, ⟨x, x1, x2⟩, ⟨y, y1, y2⟩⟩ := k4 z
    exact ⟨by simpa [u_at] using a1, ⟨w, by omega, by simpa [u_at] using w2⟩, ⟨x, by omega, by simpa [u_at] using x2⟩, ⟨y, by omega, by simpa [u_at] using y2⟩⟩
/-- changes at one link's own numbers -/
theorem Inv.link {p : PD} {t : Nat} {lo : Nat → Nat} {b : Nat} {s s' : SD} {l : Nat} (hV : PV p) (h : Inv p t lo b s) (hp : ∀ f, f ≠ 40 → f ≠ 41 → f ≠ 42 → f ≠ 43 → ∀ k, s' f k = s f k)
    (ho : ∀ l', l' ≠ l → s' 40 l' = s 40 l' ∧ s' 41 l' = s 41 l' ∧ s' 42 l' = s 42 l') (he : LkOk p s' t l) : Inv p t lo b s' := by
  refine ⟨(hp 5 (by omega) (by omega) (by omega) (by omega) 0).trans h.1, fun q hq => ?_, fun l' hl' => ?_, fun l' hl' i hi => ?_⟩
  · exact (h.2.1 q hq).congr (hp 30 (by omega) (by omega) (by omega) (by omega) _) (hp 32 (by omega) (by omega) (by omega) (by omega) _) (fun i _ => ⟨hp 34 (by omega) (by omega) (by omega) (by omega) _, hp 35 (by omega) (by omega) (by omega) (by omega) _, hp 36 (by omega) (by omega) (by omega) (by omega) _⟩) hV.2.1
  · by_cases hx : l' = l
    · subst hx; exact he
    · obtain ⟨g1, g2, g3⟩ := ho l' hx
      exact (h.2.2.1 l' hl').congr g1 g2 g3 (fun _ _ => hp 45 (by omega) (by omega) (by omega) (by omega) _)
  · exact (h.2.2.2 l' hl' i hi).congr (hp 9 (by omega) (by omega) (by omega) (by omega) _) (hp 12 (by omega) (by omega) (by omega) (by omega) _) (hp 13 (by omega) (by omega) (by omega) (by omega) _) (hp 15 (by omega) (by omega) (by omega) (by omega) _) (hp 16 (by omega) (by omega) (by omega) (by omega) _) (fun _ _ => hp 17 (by omega) (by omega) (by omega) (by omega) _)
theorem come_nf {p : PD} {q f k : Nat} {l n bo : Int32} {s : SD} (h : f ≠ 30 ∧ f ≠ 34 ∧ f ≠ 35 ∧ f ≠ 36 ∧ f ≠ 39) : tCome p q l n bo s f k = s f k := by
  unfold tCome
  split
  · rw [u_nf _ _ (by omega)]
  · rw [u_nf _ _ (by omega), u_nf _ _ (by omega), u_nf _ _ (by omega), u_nf _ _ (by omega)]
theorem inv_bear {p : PD} {t : Nat} {lo : Nat → Nat} {b : Nat} {s : SD} {l : Nat} (hV : PV p) (h : Inv p t lo b s) (hl : l < nL p) : Inv p t lo b (tBear p l s) := by
  obtain ⟨g1, g2, ⟨n, n1, n2⟩, g4⟩ := h.2.2.1 l hl
  have hLV := hV.2.2.2.2.2.2.2.2 l hl
  have hE := hV.2.2.2.2.2.1
  have hfr := hLV.1
  have hon : on p l (fr p l) := on_fr hLV.2.2.2.2.2.1
  obtain ⟨m, m1, m2, m3⟩ := beh_le n1
  have hA : Inv p t lo b (tBear1 p l 0 (nI n) s) := by
    unfold tBear1
    rw [h.1]
    refine inv_come hV h (by omega) hl n1 (Nat.le_refl t) ?_
    have : (16 * 0 + fr p l) % 16 = fr p l := by omega
    rw [this]; exact hon
  have hB : Inv p t lo b (tBear1 p l 1 (nI n) (tBear1 p l 0 (nI n) s)) := by
    unfold tBear1 at hA ⊢
    have h5 := hA.1
    rw [h.1] at hA h5 ⊢
    rw [h5]
    refine inv_come hV hA (by omega) hl n1 (Nat.le_refl t) ?_
    have : (16 * 1 + fr p l) % 16 = fr p l := by omega
    rw [this]; exact hon
  unfold tBear
  rw [n2, m3]
  refine Inv.other (Or.inr (Or.inr (Or.inr (Or.inr (Or.inl rfl))))) ?_
  refine hB.link (l := l) hV (fun f _ _ q _ k => u_nf _ _ q) (fun l' hl' => ⟨u_nf _ _ (by decide), u_nf _ _ (by decide), u_nk _ _ hl'⟩) ?_
  obtain ⟨a1, a2, -, a4⟩ := hB.2.2.1 l hl
  exact ⟨by simpa [u_at] using a1, by simpa [u_at] using a2, ⟨m, m1, u_self _ _ _ _⟩, fun net hn => by simpa [u_at] using a4 net hn⟩
theorem inv_rel1 {p : PD} {t : Nat} {lo : Nat → Nat} {b : Nat} {s : SD} {l : Nat} (hV : PV p) (h : Inv p t lo b s) (hl : l < nL p) : Inv p t lo b (tRel1 p l s) := by
  unfold tRel1
  by_cases h1 : s 40 l ≤ 0
  · rw [if_pos h1]; exact h
  · rw [if_neg h1]
    by_cases h2 : s 5 0 < s 41 l
    · rw [if_pos h2]; exact h
    · rw [if_neg h2]
      refine inv_bear hV ?_ hl
      obtain ⟨⟨w, w1, w2⟩, g2, g3, g4⟩ := h.2.2.1 l hl
      have hcl := cred_lt hV hl
      have hw0 : 0 < w := by
        rcases Nat.eq_zero_or_pos w with z | z
        · exfalso; apply h1; rw [w2, z]; decide
        · exact z
      refine h.link (l := l) hV (fun f q1 q2 _ _ k => by rw [u_nf _ _ q2, u_nf _ _ q1]) (fun l' hl' => ⟨by rw [u_nf _ _ (by decide), u_nk _ _ hl'], by rw [u_nk _ _ hl', u_nf _ _ (by decide)], by rw [u_nf _ _ (by decide), u_nf _ _ (by decide)]⟩) ?_
      refine ⟨⟨w - 1, by omega, ?_⟩, ⟨t + gp p l, by omega, ?_⟩, by simpa [u_at] using g3, fun net hn => by simpa [u_at] using g4 net hn⟩
      · rw [u_nf _ _ (by decide), u_self, w2]; exact sub_nI hw0
      · rw [u_self, h.1]; exact add_nI _ _
theorem inv_release {p : PD} {t : Nat} {lo : Nat → Nat} {b : Nat} {s : SD} (hV : PV p) (h : Inv p t lo b s) (k : Nat) (hk : k ≤ nL p) : Inv p t lo b (itr (tRel1 p) k s) :=
  itr_ind (P := fun _ a => Inv p t lo b a) h k (fun j a hj ha => inv_rel1 hV ha (by omega))
theorem inv_send {p : PD} {t : Nat} {b : Nat} {s : SD} {q : Nat} (hV : PV p) (h : Inv p t (fun _ => t + 1) b s) (hq : q < 32) : Inv p t (fun _ => t + 1) b (tSend p q s) := by
  obtain ⟨c, h1, h2, h3, h4⟩ := h.2.1 q hq
  have hr := hV.2.1
  have hL := hV.2.2.2.2.2.2.1
  unfold tSend
  by_cases hx : s 32 q = -2
  · rw [if_pos hx]
    by_cases hy : s 30 q = 0
    · rw [if_pos hy]; exact h
    · rw [if_neg hy]
      have hc0 : 0 < c := by
        rcases Nat.eq_zero_or_pos c with z | z
        · exfalso; apply hy; rw [h2, z]; rfl
        · exact z
      obtain ⟨l, n, bo, g1, g2, g3, g4, g5, g6, g7⟩ := h3 0 hc0
      rw [Nat.add_zero] at g4
      rw [g4, ix_nI (by omega), h.1, add_nI]
      have hln := (hV.2.2.2.2.2.2.2.2 l g1).2.2
      have hA : Inv p t (fun _ => t + 1) b (u s 32 q (nI (t + ln p l))) := by
        refine ⟨by simpa [u_at] using h.1, fun q' hq' => ?_, fun l' hl' => ?_, fun l' hl' i hi => ?_⟩
        · by_cases hqq : q' = q
          · subst hqq
            refine ⟨c, h1, by simpa [u_at] using h2, fun i hi => ?_, Or.inr ⟨hc0, t + ln p l, by show t + 1 ≤ _; omega, by omega, u_self _ _ _ _⟩⟩
            obtain ⟨l1, n1, b1, e1, e2, e3, e4, e5, e6, e7⟩ := h3 i hi
            exact ⟨l1, n1, b1, e1, e2, e3, by simpa [u_at] using e4, by simpa [u_at] using e5, by simpa [u_at] using e6, e7⟩
          · exact (h.2.1 q' hq').congr (by simp [u_at]) (by simp [u_at, hqq]) (fun i _ => ⟨by simp [u_at], by simp [u_at], by simp [u_at]⟩) hr
        · exact (h.2.2.1 l' hl').congr (by simp [u_at]) (by simp [u_at]) (by simp [u_at]) (fun _ _ => by simp [u_at])
        · exact (h.2.2.2 l' hl' i hi).congr (by simp [u_at]) (by simp [u_at]) (by simp [u_at]) (by simp [u_at]) (by simp [u_at]) (fun _ _ => by simp [u_at])
      unfold tWait
      split
      · split
        · exact hA
        · exact hA.other (by omega)
      · exact hA
  · rw [if_neg hx]; exact h
theorem inv_sends {p : PD} {t b : Nat} {s : SD} (hV : PV p) (h : Inv p t (fun _ => t + 1) b s) (k : Nat) (hk : k ≤ 32) : Inv p t (fun _ => t + 1) b (itr (fun q s => tNote q (tSend p q s)) k s) :=
  itr_ind (P := fun _ a => Inv p t (fun _ => t + 1) b a) h k (fun j a hj ha => (inv_send hV ha (by omega)).other (by omega))
theorem inv_tick {p : PD} {t b : Nat} {s : SD} (hV : PV p) (ht : t + 1 < 2 ^ 30) (h : Inv p t (fun _ => t + 1) b s) : Inv p (t + 1) (fun _ => t + 1 + 1) (b + 32) (tick p s) := by
  unfold tick tSends tRelease tDeliver tGrow
  refine inv_sends hV ?_ 32 (Nat.le_refl _)
  refine inv_release hV ?_ _ (Nat.le_refl _)
  exact (inv_deliver hV ht (inv_grow hV (inv_time h) _ (Nat.le_refl _)) 32 (Nat.le_refl _)).mono (fun q hq => by rw [if_pos hq]; exact Nat.le_refl _) (Nat.le_refl _)
