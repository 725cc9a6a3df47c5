/-! ===== ticks in which nothing comes or goes ===== -/
noncomputable def tN (p : PD) (n : Nat) (s : SD) : SD := itr (fun _ s => tick p s) n s
theorem tN_succ (p : PD) (n : Nat) (s : SD) : tN p (n + 1) s = tick p (tN p n s) := rfl
theorem tN_add (p : PD) (m : Nat) (s : SD) : ∀ n, tN p n (tN p m s) = tN p (m + n) s
  | 0 => rfl
  | n + 1 => by rw [tN_succ, tN_add p m s n, ← Nat.add_assoc, tN_succ]
theorem inv_tN {p : PD} {t b : Nat} {s : SD} (hV : PV p) (h : Inv p t (fun _ => t + 1) b s) : ∀ n, t + n < 2 ^ 30 → Inv p (t + n) (fun _ => t + n + 1) (b + 32 * n) (tN p n s)
  | 0, _ => h
  | n + 1, hn => by
    have h1 := inv_tN hV h n (by omega)
    have h2 := inv_tick hV (by omega) h1
    rw [tN_succ]
    exact h2.mono (fun _ _ => Nat.le_refl _) (by omega)
theorem itr_id {α : Type} {f : Nat → α → α} {s : α} : ∀ (n : Nat), (∀ k, k < n → f k s = s) → itr f n s = s
  | 0, _ => rfl
  | n + 1, h => by
    show f n (itr f n s) = s
    rw [itr_id n (fun k hk => h k (Nat.lt_succ_of_lt hk))]
    exact h n (Nat.lt_succ_self n)
/-- the new credit, as a number -/
def crN (p : PD) (n : Nat) (s : SD) (k : Nat) : Int32 := if s 45 k + nI (ln p (k % 8)) * nI n < nI (cred p (k % 8)) then s 45 k + nI (ln p (k % 8)) * nI n else nI (cred p (k % 8))
theorem crN_nat {p : PD} {n k c : Nat} {s : SD} (hc : s 45 k = nI c) (hb : c + ln p (k % 8) * n < 2 ^ 31) (hd : cred p (k % 8) < 2 ^ 31) : crN p n s k = nI (if c + ln p (k % 8) * n < cred p (k % 8) then c + ln p (k % 8) * n else cred p (k % 8)) := by
  unfold crN
  rw [hc, mul_nI, add_nI]
  by_cases h : c + ln p (k % 8) * n < cred p (k % 8)
  · rw [if_pos h, if_pos (by rw [lt_nI hb hd]; exact h)]
  · rw [if_neg h, if_neg (by rw [lt_nI hb hd]; exact h)]
theorem cr_one {p : PD} {l net : Nat} {s : SD} (hl : l < 8) : tCr p l net s = u s 45 (8 * net + l) (crN p 1 s (8 * net + l)) := by
  unfold tCr crN
  have d : (8 * net + l) % 8 = l := by omega
  rw [d, show nI (ln p l) * nI 1 = nI (ln p l) by rw [mul_nI, Nat.mul_one]]
  congr 1
  by_cases h : s 45 (8 * net + l) + nI (ln p l) ≤ nI (cred p l)
  · rw [if_pos h]
    by_cases h2 : s 45 (8 * net + l) + nI (ln p l) < nI (cred p l)
    · rw [if_pos h2]
    · rw [if_neg h2]
      exact Int32.le_antisymm h (Int32.not_lt.mp h2)
  · rw [if_neg h, if_neg (fun q => h (Int32.le_of_lt q))]
theorem grow_at {p : PD} {s : SD} : ∀ (m : Nat), m ≤ 8 → ∀ f k, itr (fun l s => tCr p l 1 (tCr p l 0 s)) m s f k = if f = 45 ∧ k < 16 ∧ k % 8 < m then crN p 1 s k else s f k
  | 0, _, f, k => by
    rw [if_neg (by omega)]
    rfl
  | m + 1, hm, f, k => by
    have ih := grow_at (p := p) (s := s) m (by omega)
    show tCr p m 1 (tCr p m 0 (itr (fun l s => tCr p l 1 (tCr p l 0 s)) m s)) f k = _
    generalize itr (fun l s => tCr p l 1 (tCr p l 0 s)) m s = s1 at *
    have e0 : s1 45 (8 * 0 + m) = s 45 (8 * 0 + m) := by rw [ih, if_neg (by omega)]
    have e1 : s1 45 (8 * 1 + m) = s 45 (8 * 1 + m) := by rw [ih, if_neg (by omega)]
    have c0 : crN p 1 s1 (8 * 0 + m) = crN p 1 s (8 * 0 + m) := by unfold crN; rw [e0]
    have c1 : crN p 1 (u s1 45 (8 * 0 + m) (crN p 1 s1 (8 * 0 + m))) (8 * 1 + m) = crN p 1 s (8 * 1 + m) := by unfold crN; rw [u_nk _ _ (by omega), e1]
    rw [cr_one (by omega), cr_one (by omega), c1, c0, u_at, u_at, ih]
    by_cases h1 : f = 45 ∧ k = 8 * 1 + m
    · rw [if_pos h1, if_pos ⟨h1.1, by omega, by omega⟩, h1.2]
    · rw [if_neg h1]
      by_cases h0 : f = 45 ∧ k = 8 * 0 + m
      · rw [if_pos h0, if_pos ⟨h0.1, by omega, by omega⟩, h0.2]
      · rw [if_neg h0]
        by_cases h2 : f = 45 ∧ k < 16 ∧ k % 8 < m
        · rw [if_pos h2, if_pos ⟨h2.1, h2.2.1, by omega⟩]
        · rw [if_neg h2, if_neg (by omega)]
def noteV (s : SD) (k : Nat) : Int32 := if s 30 k ≤ s 33 k then s 33 k else s 30 k
theorem tNote_eq (q : Nat) (s : SD) : tNote q s = u s 33 q (noteV s q) := rfl
theorem note_at {s : SD} (m : Nat) : ∀ (f k : Nat), itr tNote m s f k = if f = 33 ∧ k < m then noteV s k else s f k := by
  induction m with
  | zero =>
    intro f k
    rw [if_neg (by omega)]
    rfl
  | succ m ih =>
    intro f k
    have e : noteV (itr tNote m s) m = noteV s m := by
      unfold noteV
      rw [ih 30 m, ih 33 m, if_neg (show ¬ ((30 : Nat) = 33 ∧ m < m) by omega), if_neg (show ¬ ((33 : Nat) = 33 ∧ m < m) by omega)]
    show tNote m (itr tNote m s) f k = _
    rw [tNote_eq, e, u_at, ih]
    by_cases h1 : f = 33 ∧ k = m
    · rw [if_pos h1, if_pos ⟨h1.1, by omega⟩, h1.2]
    · rw [if_neg h1]
      by_cases h2 : f = 33 ∧ k < m
      · rw [if_pos h2, if_pos ⟨h2.1, by omega⟩]
      · rw [if_neg h2, if_neg (by omega)]
theorem send_33 {p : PD} {q k : Nat} {v : Int32} {s : SD} : tSend p q (u s 33 k v) = u (tSend p q s) 33 k v := by
  unfold tSend tWait
  rw [u_nf _ _ (show (32:Nat) ≠ 33 by decide), u_nf _ _ (show (30:Nat) ≠ 33 by decide), u_nf _ _ (show (34:Nat) ≠ 33 by decide), u_nf _ _ (show (5:Nat) ≠ 33 by decide)]
  split
  · split
    · rfl
    · rw [u_comm _ _ _ (show (33:Nat) ≠ 32 by decide)]
      split
      · rw [u_nf (f := 33) _ _ (show (5:Nat) ≠ 33 by decide), u_nf (f := 33) _ _ (show (36:Nat) ≠ 33 by decide), u_nf (f := 33) _ _ (show (44:Nat) ≠ 33 by decide)]
        split
        · rfl
        · rw [u_comm _ _ _ (show (33:Nat) ≠ 44 by decide)]
      · rfl
  · rfl
theorem send_f {p : PD} {q f k : Nat} {s : SD} (h : f ≠ 32 ∧ f ≠ 44) : tSend p q s f k = s f k := by
  unfold tSend tWait
  split
  · split
    · rfl
    · split
      · split
        · rw [u_nf _ _ h.1]
        · rw [u_nf _ _ h.2, u_nf _ _ h.1]
      · rw [u_nf _ _ h.1]
  · rfl
theorem send_notes (p : PD) (m n : Nat) : ∀ a : SD, tSend p m (itr tNote n a) = itr tNote n (tSend p m a) := by
  induction n with
  | zero => intro a; rfl
  | succ n ih =>
    intro a
    show tSend p m (tNote n (itr tNote n a)) = tNote n (itr tNote n (tSend p m a))
    rw [tNote_eq, send_33, ← ih a, tNote_eq]
    unfold noteV
    rw [send_f (f := 30) (by decide), send_f (f := 33) (by decide)]
theorem itr_succ {α : Type} (f : Nat → α → α) (n : Nat) (s : α) : itr f (n + 1) s = f n (itr f n s) := rfl
theorem sends_step (p : PD) (s : SD) (m : Nat) (F : Nat → SD → SD) (hF : ∀ q a, F q a = tNote q (tSend p q a)) (ih : itr F m s = itr tNote m (itr (tSend p) m s)) : itr F (m + 1) s = itr tNote (m + 1) (itr (tSend p) (m + 1) s) := by
  rw [itr_succ F, hF, ih, send_notes, itr_succ tNote, itr_succ (tSend p)]
theorem sends_notesF (p : PD) (s : SD) (F : Nat → SD → SD) (hF : ∀ q a, F q a = tNote q (tSend p q a)) (m : Nat) : itr F m s = itr tNote m (itr (tSend p) m s) := by
  induction m with
  | zero => rfl
  | succ m ih => exact sends_step p s m F hF ih
theorem sends_notes (p : PD) (s : SD) (m : Nat) : itr (fun q s => tNote q (tSend p q s)) m s = itr tNote m (itr (tSend p) m s) := sends_notesF p s _ (fun _ _ => rfl) m
theorem tSends_eq (p : PD) (s : SD) : tSends p s = itr tNote 32 (itr (tSend p) 32 s) := sends_notes p s 32
theorem inv_sendsK {p : PD} {t b : Nat} {s : SD} (hV : PV p) (h : Inv p t (fun _ => t + 1) b s) (k : Nat) (hk : k ≤ 32) : Inv p t (fun _ => t + 1) b (itr (tSend p) k s) :=
  itr_ind (P := fun _ a => Inv p t (fun _ => t + 1) b a) h k (fun j a hj ha => inv_send hV ha (by omega))
/-- after j ticks in which nothing came or went -/
noncomputable def qs (p : PD) (j : Nat) (s : SD) : SD := fun f k => if f = 5 ∧ k = 0 then s 5 0 + nI j else if f = 45 ∧ k < 16 ∧ k % 8 < nL p then crN p j s k else if f = 33 ∧ k < 32 ∧ 0 < j then noteV s k else s f k
theorem qs_at (p : PD) (j : Nat) (s : SD) (f k : Nat) : qs p j s f k = if f = 5 ∧ k = 0 then s 5 0 + nI j else if f = 45 ∧ k < 16 ∧ k % 8 < nL p then crN p j s k else if f = 33 ∧ k < 32 ∧ 0 < j then noteV s k else s f k := rfl
/-- until time v nothing comes or goes -/
def Still (p : PD) (s : SD) (v : Nat) : Prop := (∀ q, q < 32 → s 30 q = 0 ∨ ∃ d, v ≤ d ∧ d < 2 ^ 31 ∧ s 32 q = nI d) ∧ (∀ l, l < nL p → s 40 l ≤ 0 ∨ ∃ n, v ≤ n ∧ n < 2 ^ 31 ∧ s 41 l = nI n)
theorem qs_0 {p : PD} {t b : Nat} {lo : Nat → Nat} {s : SD} (hV : PV p) (h : Inv p t lo b s) : qs p 0 s = s := by
  funext f k
  rw [qs_at]
  by_cases h1 : f = 5 ∧ k = 0
  · rw [if_pos h1, h1.1, h1.2, show nI 0 = (0 : Int32) from rfl, Int32.add_zero]
  · rw [if_neg h1]
    by_cases h2 : f = 45 ∧ k < 16 ∧ k % 8 < nL p
    · rw [if_pos h2]
      obtain ⟨c, c1, c2⟩ := (h.2.2.1 (k % 8) h2.2.2).2.2.2 (k / 8) (by omega)
      rw [show 8 * (k / 8) + k % 8 = k by omega] at c2
      have hcl := cred_lt hV h2.2.2
      rw [crN_nat c2 (by omega) (by omega), h2.1, c2]
      refine congrArg nI ?_
      rw [Nat.mul_zero, Nat.add_zero]
      split <;> omega
    · rw [if_neg h2, if_neg (by omega)]
/-- the start of the tick behind j still ones: the same as j + 1 ticks' time and credit at once -/
theorem qs_grow {p : PD} {t b j : Nat} {lo : Nat → Nat} {s : SD} (hV : PV p) (ht : t + j < 2 ^ 30) (hj : j < 4000) (h : Inv p t lo b s) : ∀ f k, tGrow p (u (qs p j s) 5 0 (qs p j s 5 0 + 1)) f k = if f = 5 ∧ k = 0 then s 5 0 + nI (j + 1) else if f = 45 ∧ k < 16 ∧ k % 8 < nL p then crN p (j + 1) s k else if f = 33 ∧ k < 32 ∧ 0 < j then noteV s k else s f k := by
  intro f k
  unfold tGrow
  rw [grow_at _ hV.2.2.2.2.2.2.1]
  by_cases h1 : f = 5 ∧ k = 0
  · rw [if_neg (by omega), if_pos h1, u_at, if_pos h1, qs_at, if_pos ⟨rfl, rfl⟩, Int32.add_assoc]
    congr 1
    exact nI_1 j
  · rw [if_neg h1]
    by_cases h2 : f = 45 ∧ k < 16 ∧ k % 8 < nL p
    · rw [if_pos h2, if_pos h2]
      obtain ⟨c, c1, c2⟩ := (h.2.2.1 (k % 8) h2.2.2).2.2.2 (k / 8) (by omega)
      rw [show 8 * (k / 8) + k % 8 = k by omega] at c2
      have hcl := cred_lt hV h2.2.2
      have hln := (hV.2.2.2.2.2.2.2.2 (k % 8) h2.2.2).2.2.2.1
      have hm : ln p (k % 8) * j ≤ 40 * j := Nat.mul_le_mul_right _ hln
      have hm1 : ln p (k % 8) * (j + 1) = ln p (k % 8) * j + ln p (k % 8) := Nat.mul_succ _ _
      have eq : u (qs p j s) 5 0 (qs p j s 5 0 + 1) 45 k = nI (if c + ln p (k % 8) * j < cred p (k % 8) then c + ln p (k % 8) * j else cred p (k % 8)) := by
        rw [u_nf _ _ (by decide), qs_at, if_neg (by omega), if_pos ⟨rfl, h2.2.1, h2.2.2⟩, crN_nat c2 (by omega) (by omega)]
      rw [crN_nat eq (by split <;> omega) (by omega), crN_nat c2 (by omega) (by omega)]
      refine congrArg nI ?_
      rw [hm1, Nat.mul_one]
      split <;> split <;> (try split) <;> omega
    · rw [if_neg h2, if_neg h2, u_at, if_neg h1, qs_at, if_neg h1, if_neg h2]
theorem still_tick {p : PD} {t b j : Nat} {lo : Nat → Nat} {s : SD} (hV : PV p) (ht : t + j + 1 < 2 ^ 30) (hj : j < 4000) (h : Inv p t lo b s) (hS : Still p s (t + j + 2)) : tick p (qs p j s) = qs p (j + 1) s := by
  have hg := qs_grow hV (by omega) hj h
  have h5 := h.1
  unfold tick
  generalize tGrow p (u (qs p j s) 5 0 (qs p j s 5 0 + 1)) = s1 at *
  have e5 : s1 5 0 = nI (t + j + 1) := by rw [hg, if_pos ⟨rfl, rfl⟩, h5, add_nI]; rfl
  have e30 : ∀ q, s1 30 q = s 30 q := fun q => by rw [hg, if_neg (by omega), if_neg (by omega), if_neg (by omega)]
  have e32 : ∀ q, s1 32 q = s 32 q := fun q => by rw [hg, if_neg (by omega), if_neg (by omega), if_neg (by omega)]
  have e40 : ∀ q, s1 40 q = s 40 q := fun q => by rw [hg, if_neg (by omega), if_neg (by omega), if_neg (by omega)]
  have e41 : ∀ q, s1 41 q = s 41 q := fun q => by rw [hg, if_neg (by omega), if_neg (by omega), if_neg (by omega)]
  have hD : tDeliver p s1 = s1 := by
    unfold tDeliver
    refine itr_id 32 (fun q hq => ?_)
    unfold tDel1
    rw [if_neg]
    rw [e32, e5]
    obtain ⟨c, k1, k2, k3, k4⟩ := h.2.1 q hq
    rcases hS.1 q hq with z | ⟨d, d1, d2, d3⟩
    · rcases k4 with y | y
      · rw [y]
        intro w
        have w2 : nI (t + j + 1) = -nI 2 := w.symm
        rw [eq_neg (by omega) (by omega) (by omega)] at w2
        exact w2
      · exfalso
        have hr := hV.2.1
        rw [k2] at z
        exact nI_ne0 y.1 (by omega) z
    · rw [d3, eq_nI d2 (by omega)]
      omega
  have hR : tRelease p s1 = s1 := by
    unfold tRelease
    refine itr_id (nL p) (fun l hl => ?_)
    unfold tRel1
    rw [e40, e41, e5]
    rcases hS.2 l hl with z | ⟨n, n1, n2, n3⟩
    · rw [if_pos z]
    · by_cases y : s 40 l ≤ 0
      · rw [if_pos y]
      · rw [if_neg y, if_pos]
        rw [n3, lt_nI (by omega) n2]
        omega
  have hB : itr (tSend p) 32 s1 = s1 := by
    refine itr_id 32 (fun q hq => ?_)
    unfold tSend
    rw [e32, e30]
    rcases hS.1 q hq with z | ⟨d, d1, d2, d3⟩
    · by_cases y : s 32 q = -2
      · rw [if_pos y, if_pos z]
      · rw [if_neg y]
    · rw [if_neg]
      rw [d3]
      intro w
      have w2 : nI d = -nI 2 := w
      rw [eq_neg d2 (by omega) (by omega)] at w2
      exact w2
  rw [hD, hR, tSends_eq, hB]
  funext f k
  rw [note_at, hg, qs_at]
  by_cases h1 : f = 33 ∧ k < 32
  · rw [if_pos h1, if_neg (by omega), if_neg (by omega), if_pos ⟨h1.1, h1.2, by omega⟩]
    unfold noteV
    rw [e30]
    have e33 : s1 33 k = if 0 < j then noteV s k else s 33 k := by
      rw [hg, if_neg (by omega), if_neg (by omega)]
      by_cases y : 0 < j
      · rw [if_pos ⟨rfl, h1.2, y⟩, if_pos y]
      · rw [if_neg (by omega), if_neg y]
    rw [e33]
    by_cases y : 0 < j
    · rw [if_pos y]
      unfold noteV
      by_cases w : s 30 k ≤ s 33 k
      · rw [if_pos w, if_pos w]
      · rw [if_neg w, if_pos (Int32.le_refl _)]
    · rw [if_neg y]
  · rw [if_neg h1]
    by_cases h2 : f = 5 ∧ k = 0
    · rw [if_pos h2, if_pos h2]
    · rw [if_neg h2, if_neg h2]
      by_cases h3 : f = 45 ∧ k < 16 ∧ k % 8 < nL p
      · rw [if_pos h3, if_pos h3]
      · rw [if_neg h3, if_neg h3, if_neg (by omega), if_neg (by omega)]
theorem still_ticks {p : PD} {t b v : Nat} {lo : Nat → Nat} {s : SD} (hV : PV p) (h : Inv p t lo b s) (hv : v < 2 ^ 30) (hv2 : v < t + 4000) (hS : Still p s v) : ∀ j, t + j < v → tN p j s = qs p j s
  | 0, _ => (qs_0 hV h).symm
  | j + 1, hj => by
    have ih := still_ticks hV h hv hv2 hS j (by omega)
    rw [tN_succ, ih]
    refine still_tick hV (by omega) (by omega) h ⟨fun q hq => ?_, fun l hl => ?_⟩
    · rcases hS.1 q hq with z | ⟨d, d1, d2⟩
      · exact Or.inl z
      · exact Or.inr ⟨d, by omega, d2⟩
    · rcases hS.2 l hl with z | ⟨d, d1, d2⟩
      · exact Or.inl z
      · exact Or.inr ⟨d, by omega, d2⟩
