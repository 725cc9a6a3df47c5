/-! ===== a state copied ===== -/
def xl (f : Nat) : Nat := if f = 0 ∨ f = 3 then 1 else if f = 31 then 32 else vlen f
def cpX (y x : SD) (f L : Nat) : SD := fun a k => if a = f then va_cpy (y f) (x f) 0 0 L k else x a k
def Agr (y x : SD) (d : Nat → Bool) : Prop := ∀ f k, d f = true → k < xl f → x f k = y f k
theorem Agr.cp {y x : SD} {d : Nat → Bool} (h : Agr y x d) (f : Nat) : Agr y (cpX y x f (xl f)) (fun a => d a || a == f) := by
  intro a k ha hk
  unfold cpX
  by_cases e : a = f
  · subst e
    rw [if_pos rfl]
    exact sb_cpy0 hk
  · rw [if_neg e]
    refine h a k ?_ hk
    simpa [e] using ha
theorem Agr.one {y x : SD} {d : Nat → Bool} (h : Agr y x d) {f : Nat} (hf : xl f = 1) : Agr y (u x f 0 (y f 0)) (fun a => d a || a == f) := by
  intro a k ha hk
  by_cases e : a = f
  · subst e
    have : k = 0 := by omega
    subst this
    exact u_self _ _ _ _
  · rw [u_nf _ _ e]
    refine h a k ?_ hk
    simpa [e] using ha
theorem cpy_X {σ : Hp} {S D f L : Nat} {x : SD} (hSD : S ≠ D) (hf : stN f = true) : cpyI (stX σ D x) f S f D 0 0 L = stX σ D (cpX (xs σ S) x f L) := by
  refine Prod.ext ?_ rfl
  funext a b c
  have e1 : (stX σ D x).1 f S = xs σ S f := by
    funext k
    exact gXi hSD f k
  have e2 : (stX σ D x).1 f D = x f := by
    funext k
    exact gX hf k
  show (if a = f ∧ b = D then va_cpy ((stX σ D x).1 f S) ((stX σ D x).1 f D) 0 0 L c else (stX σ D x).1 a b c) = (stX σ D (cpX (xs σ S) x f L)).1 a b c
  rw [e1, e2]
  by_cases h1 : a = f ∧ b = D
  · obtain ⟨rfl, rfl⟩ := h1
    rw [if_pos ⟨rfl, rfl⟩]
    refine Eq.trans ?_ (gX hf c).symm
    unfold cpX
    rw [if_pos rfl]
  · rw [if_neg h1]
    show (if b = D ∧ stN a = true then x a c else σ.1 a b c) = if b = D ∧ stN a = true then cpX (xs σ S) x f L a c else σ.1 a b c
    by_cases h2 : b = D ∧ stN a = true
    · rw [if_pos h2, if_pos h2]
      unfold cpX
      rw [if_neg (fun e => h1 ⟨e, h2.1⟩)]
    · rw [if_neg h2, if_neg h2]
theorem c_copyAll {σ : Hp} {S D f : Nat} {x : SD} {d : Nat → Bool} {Q : Hp → Prop} (hSD : S ≠ D) (hf : stN f = true) (hL : aln f = xl f) (h31 : xl f < 2 ^ 31) (hA : Agr (xs σ S) x d) (k : ∀ x', Agr (xs σ S) x' (fun a => d a || a == f) → Q (stX σ D x')) : S_X7_copyAll f S f D (stX σ D x) Q := by
  unfold S_X7_copyAll
  rw [hL, ite_self]
  have e : ix (Int32.ofNat (xl f)) = xl f := ix_nI h31
  have z : ix 0 = 0 := rfl
  rw [e, z]
  have n0 : ¬ (0 : Int32) < 0 := by decide
  refine ⟨n0, n0, ?_, by omega, by omega, ?_⟩
  · show ¬ nI (xl f) < nI 0
    rw [lt_nI h31 (by decide)]
    omega
  · rintro _ rfl
    rw [cpy_X hSD hf]
    exact k _ (hA.cp f)
theorem c_one {σ : Hp} {S D f : Nat} {x : SD} {d : Nat → Bool} (hSD : S ≠ D) (hf : stN f = true) (h1 : xl f = 1) (hA : Agr (xs σ S) x d) : ∃ x', sI (stX σ D x) f D 0 (gI (stX σ D x) f S 0) = stX σ D x' ∧ Agr (xs σ S) x' (fun a => d a || a == f) := by
  refine ⟨u x f 0 (xs σ S f 0), ?_, hA.one h1⟩
  rw [gXi hSD, sX hf]
  rfl
theorem c_copy {σ : Hp} {S D : Nat} {x : SD} {Q : Hp → Prop} (hSD : S ≠ D) (hK : ∀ x', (∀ f k, stN f = true → k < xl f → x' f k = xs σ S f k) → Q (stX σ D x')) : S_X5_copy D S (stX σ D x) Q := by
  have a0 : Agr (xs σ S) x (fun _ => false) := fun f k h => absurd (show false = true from h) (by decide)
  unfold S_X5_copy
  rintro _ rfl
  obtain ⟨x0, e0, a1⟩ := c_one (D := D) (f := 5) hSD rfl rfl a0
  rw [e0]
  refine c_copyAll (f := 38) hSD rfl rfl (by decide) a1 (fun x1 a2 => ?_)
  refine c_copyAll (f := 39) hSD rfl rfl (by decide) a2 (fun x2 a3 => ?_)
  refine c_copyAll (f := 40) hSD rfl rfl (by decide) a3 (fun x3 a4 => ?_)
  refine c_copyAll (f := 41) hSD rfl rfl (by decide) a4 (fun x4 a5 => ?_)
  refine c_copyAll (f := 42) hSD rfl rfl (by decide) a5 (fun x5 a6 => ?_)
  refine c_copyAll (f := 43) hSD rfl rfl (by decide) a6 (fun x6 a7 => ?_)
  refine c_copyAll (f := 44) hSD rfl rfl (by decide) a7 (fun x7 a8 => ?_)
  refine c_copyAll (f := 45) hSD rfl rfl (by decide) a8 (fun x8 a9 => ?_)
  refine c_copyAll (f := 46) hSD rfl rfl (by decide) a9 (fun x9 a10 => ?_)
  unfold S_X3_copy
  rintro _ rfl
  obtain ⟨x10, e10, a11⟩ := c_one (D := D) (f := 3) hSD rfl rfl a10
  rw [e10]
  refine c_copyAll (f := 30) hSD rfl rfl (by decide) a11 (fun x11 a12 => ?_)
  refine c_copyAll (f := 31) hSD rfl rfl (by decide) a12 (fun x12 a13 => ?_)
  refine c_copyAll (f := 32) hSD rfl rfl (by decide) a13 (fun x13 a14 => ?_)
  refine c_copyAll (f := 33) hSD rfl rfl (by decide) a14 (fun x14 a15 => ?_)
  refine c_copyAll (f := 34) hSD rfl rfl (by decide) a15 (fun x15 a16 => ?_)
  refine c_copyAll (f := 35) hSD rfl rfl (by decide) a16 (fun x16 a17 => ?_)
  refine c_copyAll (f := 36) hSD rfl rfl (by decide) a17 (fun x17 a18 => ?_)
  unfold S_X0_copy
  rintro _ rfl
  obtain ⟨x18, e18, a19⟩ := c_one (D := D) (f := 0) hSD rfl rfl a18
  rw [e18]
  refine c_copyAll (f := 9) hSD rfl rfl (by decide) a19 (fun x19 a20 => ?_)
  refine c_copyAll (f := 10) hSD rfl rfl (by decide) a20 (fun x20 a21 => ?_)
  refine c_copyAll (f := 11) hSD rfl rfl (by decide) a21 (fun x21 a22 => ?_)
  refine c_copyAll (f := 12) hSD rfl rfl (by decide) a22 (fun x22 a23 => ?_)
  refine c_copyAll (f := 13) hSD rfl rfl (by decide) a23 (fun x23 a24 => ?_)
  refine c_copyAll (f := 14) hSD rfl rfl (by decide) a24 (fun x24 a25 => ?_)
  refine c_copyAll (f := 15) hSD rfl rfl (by decide) a25 (fun x25 a26 => ?_)
  refine c_copyAll (f := 16) hSD rfl rfl (by decide) a26 (fun x26 a27 => ?_)
  refine c_copyAll (f := 17) hSD rfl rfl (by decide) a27 (fun x27 a28 => ?_)
  refine c_copyAll (f := 18) hSD rfl rfl (by decide) a28 (fun x28 a29 => ?_)
  refine hK _ (fun f k hf hk => a29 f k ?_ hk)
  unfold stN at hf
  simp only [Bool.or_eq_true, Bool.and_eq_true, beq_iff_eq, decide_eq_true_eq] at hf ⊢
  omega
theorem pln_xl {f : Nat} (h : pln f = true) : vlen f = xl f := by
  have := pln_ne h
  unfold xl
  rw [if_neg (by omega), if_neg (by omega)]
theorem EX.ext2 {p : PD} {x x' s : SD} (h : EX p x s) (he : ∀ f k, stN f = true → k < xl f → x' f k = x f k) : EX p x' s := by
  refine ⟨fun f k hf hk => (he f k (pln_st (plk_pln hf)) (by rw [← pln_xl (plk_pln hf)]; exact hk)).trans (h.1 f k hf hk), (he 0 0 rfl (by decide)).trans h.2.1, fun q hq => ?_, fun e he' c hc hc2 k hk hkc => ?_, (he 3 0 rfl (by decide)).trans h.2.2.2.2⟩
  · obtain ⟨a, a1, a2, a3⟩ := h.2.2.1 q hq
    refine ⟨a, a1, (he 31 q rfl hq).trans a2, fun c hc hc2 i hi => ?_⟩
    have b : 12 * q + (a + i) % 12 < 384 := by omega
    rw [he 34 _ rfl b, he 35 _ rfl b, he 36 _ rfl b]
    exact a3 c hc hc2 i hi
  · rw [he 18 _ rfl (show _ < 240 by omega)]
    exact h.2.2.2.1 e he' c hc hc2 k hk hkc
