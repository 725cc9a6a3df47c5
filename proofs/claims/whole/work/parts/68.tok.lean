/-! ===== the text: bytes, tokens ===== -/
abbrev Tx : Type := Nat → Nat
def scF (f : Nat → Bool) (N : Nat) : Nat → Nat → Nat
  | 0, b => b
  | m + 1, b => if b < N ∧ f b = true then scF f N m (b + 1) else b
def scn (f : Nat → Bool) (N b : Nat) : Nat := scF f N (N - b) b
theorem scF_spec (f : Nat → Bool) (N : Nat) : ∀ (m b : Nat), m = N - b → b ≤ N → b ≤ scF f N m b ∧ scF f N m b ≤ N ∧ (∀ k, b ≤ k → k < scF f N m b → f k = true) ∧ (scF f N m b < N → f (scF f N m b) = false) := by
  intro m
  induction m with
  | zero =>
    intro b hm hb
    show b ≤ b ∧ b ≤ N ∧ (∀ k, b ≤ k → k < b → f k = true) ∧ (b < N → f b = false)
    exact ⟨Nat.le_refl _, hb, fun k h1 h2 => by omega, fun h => by omega⟩
  | succ m ih =>
    intro b hm hb
    unfold scF
    by_cases h : b < N ∧ f b = true
    · rw [if_pos h]
      obtain ⟨i1, i2, i3, i4⟩ := ih (b + 1) (by omega) (by omega)
      refine ⟨by omega, i2, fun k h1 h2 => ?_, i4⟩
      rcases Nat.lt_or_ge b k with q | q
      · exact i3 k (by omega) h2
      · rw [show k = b by omega]
        exact h.2
    · rw [if_neg h]
      refine ⟨Nat.le_refl _, hb, fun k h1 h2 => by omega, fun hl => ?_⟩
      cases e : f b with
      | false => rfl
      | true => exact absurd ⟨hl, e⟩ h
theorem scn_spec (f : Nat → Bool) {N b : Nat} (hb : b ≤ N) : b ≤ scn f N b ∧ scn f N b ≤ N ∧ (∀ k, b ≤ k → k < scn f N b → f k = true) ∧ (scn f N b < N → f (scn f N b) = false) := scF_spec f N (N - b) b rfl hb
def spB (T : Tx) (k : Nat) : Bool := decide (T k = 32)
def letB (T : Tx) (k : Nat) : Bool := decide (97 ≤ T k ∧ T k ≤ 122)
def digB (T : Tx) (k : Nat) : Bool := decide (48 ≤ T k ∧ T k ≤ 57)
/-- where the token behind a place begins, its kind, its end -/
def stT (T : Tx) (N b : Nat) : Nat := scn (spB T) N b
def kdT (T : Tx) (N b : Nat) : Nat := if N ≤ stT T N b then 0 else if T (stT T N b) = 59 then 3 else if letB T (stT T N b) = true then (if scn (letB T) N (stT T N b) - stT T N b ≤ 8 then 1 else 4) else if digB T (stT T N b) = true then (if scn (digB T) N (stT T N b) - stT T N b ≤ 3 then 2 else 4) else 4
def enT (T : Tx) (N b : Nat) : Nat := if N ≤ stT T N b then stT T N b else if T (stT T N b) = 59 then stT T N b + 1 else if letB T (stT T N b) = true then scn (letB T) N (stT T N b) else if digB T (stT T N b) = true then scn (digB T) N (stT T N b) else stT T N b + 1
theorem tk_cases (T : Tx) (N b : Nat) : (N ≤ stT T N b ∧ kdT T N b = 0 ∧ enT T N b = stT T N b) ∨ (stT T N b < N ∧ T (stT T N b) = 59 ∧ kdT T N b = 3 ∧ enT T N b = stT T N b + 1) ∨
    (stT T N b < N ∧ ¬ T (stT T N b) = 59 ∧ letB T (stT T N b) = true ∧ enT T N b = scn (letB T) N (stT T N b) ∧ ((enT T N b - stT T N b ≤ 8 ∧ kdT T N b = 1) ∨ (8 < enT T N b - stT T N b ∧ kdT T N b = 4))) ∨
    (stT T N b < N ∧ ¬ T (stT T N b) = 59 ∧ letB T (stT T N b) = false ∧ digB T (stT T N b) = true ∧ enT T N b = scn (digB T) N (stT T N b) ∧ ((enT T N b - stT T N b ≤ 3 ∧ kdT T N b = 2) ∨ (3 < enT T N b - stT T N b ∧ kdT T N b = 4))) ∨
    (stT T N b < N ∧ ¬ T (stT T N b) = 59 ∧ letB T (stT T N b) = false ∧ digB T (stT T N b) = false ∧ kdT T N b = 4 ∧ enT T N b = stT T N b + 1) := by
  unfold kdT enT
  by_cases h1 : N ≤ stT T N b
  · rw [if_pos h1, if_pos h1]
    exact Or.inl ⟨h1, rfl, rfl⟩
  · rw [if_neg h1, if_neg h1]
    by_cases h2 : T (stT T N b) = 59
    · rw [if_pos h2, if_pos h2]
      exact Or.inr (Or.inl ⟨by omega, h2, rfl, rfl⟩)
    · rw [if_neg h2, if_neg h2]
      cases h3 : letB T (stT T N b) with
      | true =>
        rw [if_pos rfl, if_pos rfl]
        refine Or.inr (Or.inr (Or.inl ⟨by omega, h2, rfl, rfl, ?_⟩))
        by_cases h4 : scn (letB T) N (stT T N b) - stT T N b ≤ 8
        · rw [if_pos h4]; exact Or.inl ⟨h4, rfl⟩
        · rw [if_neg h4]; exact Or.inr ⟨by omega, rfl⟩
      | false =>
        rw [if_neg (c := (false = true)) (by decide), if_neg (c := (false = true)) (by decide)]
        cases h5 : digB T (stT T N b) with
        | true =>
          rw [if_pos rfl, if_pos rfl]
          refine Or.inr (Or.inr (Or.inr (Or.inl ⟨by omega, h2, rfl, rfl, rfl, ?_⟩)))
          by_cases h4 : scn (digB T) N (stT T N b) - stT T N b ≤ 3
          · rw [if_pos h4]; exact Or.inl ⟨h4, rfl⟩
          · rw [if_neg h4]; exact Or.inr ⟨by omega, rfl⟩
        | false =>
          rw [if_neg (c := (false = true)) (by decide), if_neg (c := (false = true)) (by decide)]
          exact Or.inr (Or.inr (Or.inr (Or.inr ⟨by omega, h2, rfl, rfl, rfl, rfl⟩)))
theorem tk_le {T : Tx} {N b : Nat} (hb : b ≤ N) : b ≤ stT T N b ∧ stT T N b ≤ N ∧ stT T N b ≤ enT T N b ∧ enT T N b ≤ N ∧ (kdT T N b ≠ 0 → stT T N b < enT T N b) := by
  have s := scn_spec (spB T) hb
  have s1 : b ≤ stT T N b := s.1
  have s2 : stT T N b ≤ N := s.2.1
  have l := scn_spec (letB T) s2
  have d := scn_spec (digB T) s2
  have c := tk_cases T N b
  have l3 : letB T (stT T N b) = true → stT T N b < N → stT T N b < scn (letB T) N (stT T N b) := by
    intro h h2
    rcases Nat.lt_or_ge (stT T N b) (scn (letB T) N (stT T N b)) with q | q
    · exact q
    · have e : scn (letB T) N (stT T N b) = stT T N b := by omega
      have := l.2.2.2 (by omega)
      rw [e, h] at this
      exact absurd this (by decide)
  have d3 : digB T (stT T N b) = true → stT T N b < N → stT T N b < scn (digB T) N (stT T N b) := by
    intro h h2
    rcases Nat.lt_or_ge (stT T N b) (scn (digB T) N (stT T N b)) with q | q
    · exact q
    · have e : scn (digB T) N (stT T N b) = stT T N b := by omega
      have := d.2.2.2 (by omega)
      rw [e, h] at this
      exact absurd this (by decide)
  refine ⟨s1, s2, ?_⟩
  rcases c with c | c | c | c | c
  · exact ⟨by omega, by omega, fun q => absurd c.2.1 q⟩
  · exact ⟨by omega, by omega, fun _ => by omega⟩
  · have := l3 c.2.2.1 c.1
    rw [c.2.2.2.1]
    exact ⟨by omega, by omega, fun _ => by omega⟩
  · have := d3 c.2.2.2.1 c.1
    rw [c.2.2.2.2.1]
    exact ⟨by omega, by omega, fun _ => by omega⟩
  · exact ⟨by omega, by omega, fun _ => by omega⟩
def pkN (f : Nat → Nat) : Nat → Nat
  | 0 => 0
  | m + 1 => 256 * pkN f m + f m
theorem pkN_inj {f g : Nat → Nat} : ∀ (m : Nat), (∀ k, k < m → f k < 256) → (∀ k, k < m → g k < 256) → pkN f m = pkN g m → ∀ k, k < m → f k = g k := by
  intro m
  induction m with
  | zero => intro _ _ _ k hk; omega
  | succ m ih =>
    intro hf hg e k hk
    have e' : 256 * pkN f m + f m = 256 * pkN g m + g m := e
    have f1 := hf m (by omega)
    have g1 := hg m (by omega)
    have e1 : pkN f m = pkN g m := by omega
    rcases Nat.lt_or_ge k m with q | q
    · exact ih (fun k hk => hf k (by omega)) (fun k hk => hg k (by omega)) e1 k q
    · rw [show k = m by omega]
      omega
theorem pkN_lt {f : Nat → Nat} : ∀ (m : Nat), (∀ k, k < m → f k < 256) → pkN f m < 256 ^ m := by
  intro m
  induction m with
  | zero => intro _; exact Nat.one_pos
  | succ m ih =>
    intro hf
    have h1 := ih (fun k hk => hf k (by omega))
    have h2 := hf m (by omega)
    show 256 * pkN f m + f m < 256 ^ (m + 1)
    rw [Nat.pow_succ]
    omega
def dgT (T : Tx) (N b k : Nat) : Nat := if k < enT T N b - stT T N b then T (stT T N b + k) else 32
def wvT (T : Tx) (N b : Nat) : Nat := pkN (dgT T N b) 8
def dvF (T : Tx) (s : Nat) : Nat → Nat
  | 0 => 0
  | m + 1 => 10 * dvF T s m + (T (s + m) - 48)
def dvT (T : Tx) (N b : Nat) : Nat := dvF T (stT T N b) (enT T N b - stT T N b)
def cdg (j k : Nat) : Nat := if k < slen.getD j 0 then ix ((sbyt.getD j []).getD k 0) else 32
def cstN (j : Nat) : Nat := pkN (cdg j) 8
theorem cdg_ok : ∀ j, j < 13 → slen.getD j 0 ≤ 8 ∧ 1 ≤ slen.getD j 0 ∧ ∀ k, k < 8 → (k < slen.getD j 0 → 97 ≤ cdg j k ∧ cdg j k ≤ 122 ∧ (sbyt.getD j []).getD k 0 = nI (cdg j k)) ∧ (¬ k < slen.getD j 0 → cdg j k = 32) := by decide +kernel
theorem cst_val : (7094703369807208480 : Int64) = lN (cstN 0) ∧ (8320234785195189619 : Int64) = lN (cstN 1) ∧ (8245931957219762208 : Int64) = lN (cstN 2) ∧ (7667787883841986592 : Int64) = lN (cstN 3) ∧ (8604529940713906208 : Int64) = lN (cstN 4) ∧ (8316852699184242720 : Int64) = lN (cstN 5) ∧ (7308889334409601056 : Int64) = lN (cstN 6) ∧ (7811896435030368288 : Int64) = lN (cstN 7) ∧ (7022273041327464480 : Int64) = lN (cstN 8) ∧ (7382085253694758944 : Int64) = lN (cstN 9) ∧ (7449358541927751712 : Int64) = lN (cstN 10) ∧ (7810770519357661216 : Int64) = lN (cstN 11) ∧ (8389959953164541984 : Int64) = lN (cstN 12) := by decide +kernel
def isW (T : Tx) (N j b : Nat) : Prop := kdT T N b = 1 ∧ enT T N b - stT T N b = slen.getD j 0 ∧ ∀ k, k < slen.getD j 0 → nI (T (stT T N b + k)) = (sbyt.getD j []).getD k 0
def TxB (T : Tx) (N : Nat) : Prop := ∀ k, k < N → T k < 256
theorem kd1_let {T : Tx} {N b : Nat} (hb : b ≤ N) (h : kdT T N b = 1) : enT T N b - stT T N b ≤ 8 ∧ stT T N b < enT T N b ∧ (∀ k, k < enT T N b - stT T N b → 97 ≤ T (stT T N b + k) ∧ T (stT T N b + k) ≤ 122) := by
  have l := tk_le (T := T) hb
  rcases tk_cases T N b with c | c | c | c | c
  · omega
  · omega
  · have sp := scn_spec (letB T) l.2.1
    rw [← c.2.2.2.1] at sp
    refine ⟨by omega, l.2.2.2.2 (by omega), fun k hk => ?_⟩
    have := sp.2.2.1 (stT T N b + k) (by omega) (by omega)
    unfold letB at this
    exact of_decide_eq_true this
  · omega
  · omega
theorem isW_iff {T : Tx} {N b j : Nat} (hb : b ≤ N) (hj : j < 13) (h : kdT T N b = 1) : lg_cmp (lN (wvT T N b)) (lN (cstN j)) = 0 ↔ isW T N j b := by
  obtain ⟨s1, s2, s3⟩ := cdg_ok j hj
  obtain ⟨l8, lp, ll⟩ := kd1_let hb h
  have dlt : ∀ k, k < 8 → dgT T N b k < 256 := by
    intro k _
    unfold dgT
    split
    · next q => have := ll k q; omega
    · decide
  have clt : ∀ k, k < 8 → cdg j k < 256 := by
    intro k hk
    by_cases q : k < slen.getD j 0
    · have := ((s3 k hk).1 q); omega
    · rw [(s3 k hk).2 q]; decide
  have b1 : wvT T N b < 2 ^ 64 := pkN_lt 8 dlt
  have b2 : cstN j < 2 ^ 64 := pkN_lt 8 clt
  rw [lg_cmp_eq]
  refine ⟨fun e => ?_, fun e => ?_⟩
  · have e1 : wvT T N b = cstN j := by
      have := congrArg (fun x => x.toBitVec.toNat) e
      simp only [wb_tn b1, wb_tn b2] at this
      exact this
    have e2 := pkN_inj 8 dlt clt e1
    have e3 : enT T N b - stT T N b = slen.getD j 0 := by
      rcases Nat.lt_trichotomy (enT T N b - stT T N b) (slen.getD j 0) with q | q | q
      · have a1 := e2 (enT T N b - stT T N b) (by omega)
        have a2 := (s3 (enT T N b - stT T N b) (by omega)).1 q
        have a3 : dgT T N b (enT T N b - stT T N b) = 32 := by unfold dgT; rw [if_neg (by omega)]
        omega
      · exact q
      · have a1 := e2 (slen.getD j 0) (by omega)
        have a2 := (s3 (slen.getD j 0) (by omega)).2 (by omega)
        have a3 : dgT T N b (slen.getD j 0) = T (stT T N b + slen.getD j 0) := by unfold dgT; rw [if_pos q]
        have a4 := ll (slen.getD j 0) q
        omega
    refine ⟨h, e3, fun k hk => ?_⟩
    have a1 := e2 k (by omega)
    have a3 : dgT T N b k = T (stT T N b + k) := by unfold dgT; rw [if_pos (by omega)]
    rw [((s3 k (by omega)).1 hk).2.2, ← a1, a3]
  · obtain ⟨_, e3, e4⟩ := e
    have : wvT T N b = cstN j := by
      unfold wvT cstN
      have hc : ∀ m, m ≤ 8 → pkN (dgT T N b) m = pkN (cdg j) m := by
        intro m
        induction m with
        | zero => intro _; rfl
        | succ m ih =>
          intro hm
          show 256 * pkN _ m + dgT T N b m = 256 * pkN _ m + cdg j m
          rw [ih (by omega)]
          have : dgT T N b m = cdg j m := by
            by_cases q : m < slen.getD j 0
            · have a3 : dgT T N b m = T (stT T N b + m) := by unfold dgT; rw [if_pos (by omega)]
              have a4 := e4 m q
              have a5 := (s3 m (by omega)).1 q
              have a6 := ll m (by omega)
              rw [a5.2.2] at a4
              rw [a3]
              exact nI_inj31 (by omega) (by omega) a4
            · rw [(s3 m (by omega)).2 q]
              unfold dgT
              rw [if_neg (by omega)]
          rw [this]
      exact hc 8 (Nat.le_refl 8)
    rw [this]
theorem dv_lt {T : Tx} {N b : Nat} (hb : b ≤ N) (h : kdT T N b = 2) : dvT T N b ≤ 999 := by
  have l := tk_le (T := T) hb
  rcases tk_cases T N b with c | c | c | c | c
  · omega
  · omega
  · omega
  · have sp := scn_spec (digB T) l.2.1
    rw [← c.2.2.2.2.1] at sp
    have dd : ∀ k, k < enT T N b - stT T N b → T (stT T N b + k) - 48 ≤ 9 := by
      intro k hk
      have := sp.2.2.1 (stT T N b + k) (by omega) (by omega)
      unfold digB at this
      have := of_decide_eq_true this
      omega
    have : ∀ m, m ≤ enT T N b - stT T N b → dvF T (stT T N b) m < 10 ^ m := by
      intro m
      induction m with
      | zero => intro _; exact Nat.one_pos
      | succ m ih =>
        intro hm
        have h1 := ih (by omega)
        have h2 := dd m (by omega)
        show 10 * dvF T (stT T N b) m + _ < 10 ^ (m + 1)
        rw [Nat.pow_succ]
        omega
    have h3 := this _ (Nat.le_refl _)
    have h4 : 10 ^ (enT T N b - stT T N b) ≤ 10 ^ 3 := Nat.pow_le_pow_right (by decide) (by omega)
    unfold dvT
    omega
  · omega
