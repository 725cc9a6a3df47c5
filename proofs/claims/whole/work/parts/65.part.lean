/-! ===== a fraction in its lowest terms: by zeros behind, by Euclid (rows wb_ and pf_ begun from the kit's laws) ===== -/
theorem wb_tb (n : Nat) : (lN n).toBitVec = BitVec.ofNat 64 n := rfl
theorem wb_inj {a b : Int64} (h : a.toBitVec = b.toBitVec) : a = b := Int64.toBitVec_inj.mp h
theorem wb_tn {n : Nat} (h : n < 2 ^ 64) : (lN n).toBitVec.toNat = n := by rw [wb_tb, BitVec.toNat_ofNat, Nat.mod_eq_of_lt h]
theorem wb_c : ∀ k, k < 64 → ((nI k).toInt64 &&& 63) = lN k := by decide +kernel
theorem wb_cu : ∀ k, k < 64 → ((nI k).toInt64.toUInt64 &&& Int64.toUInt64 63) = UInt64.ofNat k := by decide +kernel
theorem wb_smd : ∀ k, k < 64 → (BitVec.ofNat 64 k).smod 64 = BitVec.ofNat 64 k := by decide +kernel
theorem wb_shr {n k : Nat} (hn : n < 2 ^ 64) (hk : k < 64) : ((lN n).toUInt64 >>> ((nI k).toInt64.toUInt64 &&& Int64.toUInt64 63)).toInt64 = lN (n / 2 ^ k) := by
  rw [wb_cu k hk]
  apply wb_inj
  apply BitVec.eq_of_toNat_eq
  show ((lN n).toUInt64 >>> UInt64.ofNat k).toNat = (BitVec.ofNat 64 _).toNat
  have h1 : (UInt64.ofNat k).toNat = k := by
    show (BitVec.ofNat 64 k).toNat = k
    rw [BitVec.toNat_ofNat, Nat.mod_eq_of_lt (by omega)]
  have h2 : (lN n).toUInt64.toNat = n := wb_tn hn
  rw [UInt64.toNat_shiftRight, h1, h2, Nat.mod_eq_of_lt hk, Nat.shiftRight_eq_div_pow, BitVec.toNat_ofNat, Nat.mod_eq_of_lt (Nat.lt_of_le_of_lt (Nat.div_le_self _ _) hn)]
theorem pf_shr {a d : Nat} {D : Int64} (hD : (D.toBitVec.smod 64).toNat = d) (h : a < 2 ^ 62) : lN a >>> D = lN (a / 2 ^ d) := by
  have hd : a / 2 ^ d ≤ a := Nat.div_le_self _ _
  apply Int64.toInt_inj.mp
  have e : (lN a >>> D).toInt = (lN a).toInt >>> d := by
    rw [← hD]
    exact BitVec.toInt_sshiftRight ..
  rw [e, Int.shiftRight_eq_div_pow, pk_lT (by omega), pk_lT (by omega)]
  rfl
theorem sh_N {a s : Nat} (h : a < 2 ^ 62) (hs : s < 64) : lN a >>> ((nI s).toInt64 &&& 63) = lN (a / 2 ^ s) := by
  rw [wb_c s hs]
  refine pf_shr ?_ h
  rw [wb_tb, wb_smd s hs, BitVec.toNat_ofNat, Nat.mod_eq_of_lt (by omega)]
theorem odd_part : ∀ (n : Nat), 0 < n → ∃ t q, n = 2 ^ t * (2 * q + 1) := by
  intro n
  induction n using Nat.strongRecOn with
  | ind n ih =>
    intro h
    rcases Nat.mod_two_eq_zero_or_one n with e | e
    · obtain ⟨t, q, hq⟩ := ih (n / 2) (by omega) (by omega)
      refine ⟨t + 1, q, ?_⟩
      rw [Nat.pow_succ, Nat.mul_comm (2 ^ t) 2, Nat.mul_assoc, ← hq]
      omega
    · exact ⟨0, n / 2, by rw [Nat.pow_zero]; omega⟩
theorem low_ones {t q n : Nat} (e : n = 2 ^ t * (2 * q + 1)) : (nI n ^^^ (-1)) &&& (nI n - 1) = nI (2 ^ t - 1) := by
  have h0 : 0 < 2 ^ t := Nat.pow_pos (by decide)
  have e1 : n = 2 ^ (t + 1) * q + 2 ^ t := by
    rw [e, Nat.mul_add, Nat.mul_one, Nat.pow_succ, Nat.mul_assoc]
  have h1 : 1 ≤ n := by omega
  have e2 : n - 1 = 2 ^ (t + 1) * q + (2 ^ t - 1) := by omega
  have l1 : 2 ^ t < 2 ^ (t + 1) := Nat.pow_lt_pow_right (by decide) (by omega)
  rw [show (1 : Int32) = nI 1 from rfl, sub_nI h1]
  apply Int32.toBitVec_inj.mp
  apply BitVec.eq_of_getLsbD_eq
  intro j hj
  show (((BitVec.ofNat 32 n) ^^^ (-nI 1).toBitVec) &&& BitVec.ofNat 32 (n - 1)).getLsbD j = (BitVec.ofNat 32 (2 ^ t - 1)).getLsbD j
  have ao : (-nI 1).toBitVec = BitVec.allOnes 32 := by decide +kernel
  rw [ao, BitVec.getLsbD_and, BitVec.getLsbD_xor, BitVec.getLsbD_ofNat, BitVec.getLsbD_ofNat, BitVec.getLsbD_ofNat, BitVec.getLsbD_allOnes, e2]
  rw [e1, Nat.testBit_two_pow_mul_add _ l1, Nat.testBit_two_pow_mul_add _ (by omega), Nat.testBit_two_pow_sub_one, Nat.testBit_two_pow]
  have hj' : decide (j < 32) = true := decide_eq_true hj
  rw [hj']
  by_cases hjt : j < t + 1
  · rw [if_pos hjt, if_pos hjt]
    by_cases h2 : j < t
    · rw [decide_eq_true h2, decide_eq_false (show ¬ t = j by omega)]
      rfl
    · rw [decide_eq_false h2]
      simp
  · rw [if_neg hjt, if_neg hjt, decide_eq_false (show ¬ j < t by omega)]
    cases q.testBit (j - (t + 1)) <;> rfl
def us32 (y : Int32) (k : Int32) : Int32 := (y.toUInt32 >>> (k.toUInt32 &&& Int32.toUInt32 31)).toInt32
def f62 (y0 y1 : Int32) : Int32 := if y0 ≤ 4 then y1 + us32 y0 1 else (y1 + 2) + us32 (us32 y0 2) 1
def f49 (y0 y1 : Int32) : Int32 := if y0 ≤ 16 then f62 y0 y1 else f62 (us32 y0 4) (y1 + 4)
def f34 (y0 y1 : Int32) : Int32 := if y0 ≤ 256 then f49 y0 y1 else f49 (us32 y0 8) (y1 + 8)
def fnt (y : Int32) : Int32 := if 0 < y then (if y ≤ 65536 then f34 y 1 else f34 (us32 y 16) (1 + 16)) else y &&& 32
theorem fnt_ok : ∀ t, t < 32 → fnt (nI (2 ^ t - 1)) = nI t := by decide +kernel
theorem fnt_0 : fnt ((nI 0 ^^^ (-1)) &&& (nI 0 - 1)) = nI 32 := by decide +kernel
section Part
variable {σ : Hp}
theorem S_fnt {x : Int32} {Q : Int32 → Hp → Prop} (h : Q (fnt ((x ^^^ (-1)) &&& (x - 1))) σ) : S_J6_numberOfTrailingZeros_0f7a4 x σ Q := by
  have a62 : ∀ y0 y1, Q (f62 y0 y1) σ → J_J6_numberOfTrailingZeros_0f7a4_62 Q y0 y1 σ := by
    intro y0 y1 h
    unfold f62 at h
    exact ⟨fun q => by rw [if_pos q] at h; exact h, fun q => by rw [if_neg q] at h; exact h⟩
  have a49 : ∀ y0 y1, Q (f49 y0 y1) σ → J_J6_numberOfTrailingZeros_0f7a4_49 Q y0 y1 σ := by
    intro y0 y1 h
    unfold f49 at h
    exact ⟨fun q => by rw [if_pos q] at h; exact a62 _ _ h, fun q => by rw [if_neg q] at h; exact a62 _ _ h⟩
  have a34 : ∀ y0 y1, Q (f34 y0 y1) σ → J_J6_numberOfTrailingZeros_0f7a4_34 Q y0 y1 σ := by
    intro y0 y1 h
    unfold f34 at h
    exact ⟨fun q => by rw [if_pos q] at h; exact a49 _ _ h, fun q => by rw [if_neg q] at h; exact a49 _ _ h⟩
  unfold S_J6_numberOfTrailingZeros_0f7a4
  unfold fnt at h
  generalize (x ^^^ (-1)) &&& (x - 1) = y at h ⊢
  refine ⟨fun q => ⟨fun q2 => ?_, fun q2 => ?_⟩, fun q => ?_⟩
  · rw [if_pos q, if_pos q2] at h
    exact a34 _ _ h
  · rw [if_pos q, if_neg q2] at h
    exact a34 _ _ h
  · rw [if_neg q] at h
    exact h
theorem nI_mod (n : Nat) : nI n = nI (n % 2 ^ 32) := by
  apply Int32.toBitVec_inj.mp
  apply BitVec.eq_of_toNat_eq
  show (BitVec.ofNat 32 n).toNat = (BitVec.ofNat 32 (n % 2 ^ 32)).toNat
  rw [BitVec.toNat_ofNat, BitVec.toNat_ofNat, Nat.mod_mod]
theorem nI_eq0 {n : Nat} : nI n = 0 ↔ n % 2 ^ 32 = 0 := by
  refine ⟨fun h => ?_, fun h => by rw [nI_mod, h]; rfl⟩
  have h1 : (nI n).toBitVec.toNat = (0 : Int32).toBitVec.toNat := by rw [h]
  have h2 : (nI n).toBitVec.toNat = n % 2 ^ 32 := by
    show (BitVec.ofNat 32 n).toNat = _
    rw [BitVec.toNat_ofNat]
  rw [h2] at h1
  exact h1
theorem lt24 {t : Nat} (ht : t < 2 ^ 31) : (if nI t < 24 then nI t else 24) = nI (if t < 24 then t else 24) := by
  rw [show (24 : Int32) = nI 24 from rfl]
  by_cases h : t < 24
  · rw [if_pos (nI_lt h (by decide)), if_pos h]
  · rw [if_neg (fun q => h ((nI_ltI ht (by decide)).mp q)), if_neg h]
theorem c_ntz {N : Nat} {Q : Int32 → Hp → Prop} (hN : N < 2 ^ 62) (h : ∀ r s m, N = 2 ^ s * m → s ≤ 24 → (m % 2 = 1 ∨ s = 24) → (if r < 24 then r else 24) = nI s → Q r σ) : S_J13_numberOfTrailingZeros_95d88 (lN N) σ Q := by
  unfold S_J13_numberOfTrailingZeros_95d88
  rw [lN_i]
  refine ⟨fun q => ?_, fun q => ?_⟩
  · rw [nI_eq0] at q
    obtain ⟨t, k, e⟩ := odd_part (N % 2 ^ 32) (by omega)
    have ht : t < 32 := by
      rcases Nat.lt_or_ge t 32 with a | a
      · exact a
      · have h1 : 2 ^ 32 ≤ 2 ^ t := Nat.pow_le_pow_right (by decide) a
        have h2 : 2 ^ t * 1 ≤ 2 ^ t * (2 * k + 1) := Nat.mul_le_mul_left _ (by omega)
        have h3 : N % 2 ^ 32 < 2 ^ 32 := Nat.mod_lt _ (by decide)
        omega
    rw [nI_mod]
    refine S_fnt ?_
    rw [low_ones e, fnt_ok t ht]
    have e2 : N = 2 ^ t * (2 ^ (32 - t) * (N / 2 ^ 32) + (2 * k + 1)) := by
      have e3 : 2 ^ t * 2 ^ (32 - t) = 2 ^ 32 := by rw [← Nat.pow_add]; congr 1; omega
      rw [Nat.mul_add, ← Nat.mul_assoc, e3, ← e]
      exact (Nat.div_add_mod N (2 ^ 32)).symm
    have od : (2 ^ (32 - t) * (N / 2 ^ 32) + (2 * k + 1)) % 2 = 1 := by
      rw [show 32 - t = (31 - t) + 1 by omega, Nat.pow_succ, Nat.mul_comm _ 2, Nat.mul_assoc]
      omega
    rcases Nat.lt_or_ge t 24 with a | a
    · exact h _ t _ e2 (by omega) (Or.inl od) (by rw [lt24 (by omega), if_pos a])
    · refine h _ 24 (2 ^ (t - 24) * (2 ^ (32 - t) * (N / 2 ^ 32) + (2 * k + 1))) ?_ (Nat.le_refl 24) (Or.inr rfl) (by rw [lt24 (by omega), if_neg (by omega)])
      rw [← Nat.mul_assoc, ← Nat.pow_add, show 24 + (t - 24) = t by omega]
      exact e2
  · rw [nI_eq0] at q
    rw [show (32 : Int32) = nI 32 from rfl, wb_shr (by omega) (by decide), lN_i]
    have fin : ∀ t, t ≤ 32 → Q (nI 32 + nI t) σ := by
      intro t ht
      rw [add_nI]
      refine h _ 24 (N / 2 ^ 24) ?_ (Nat.le_refl 24) (Or.inr rfl) (by rw [lt24 (by omega), if_neg (by omega)])
      omega
    refine S_fnt ?_
    have hh : N / 2 ^ 32 < 2 ^ 30 := by omega
    rcases Nat.eq_zero_or_pos (N / 2 ^ 32) with z | z
    · rw [z, fnt_0]
      exact fin 32 (Nat.le_refl 32)
    · obtain ⟨t, k, e⟩ := odd_part (N / 2 ^ 32) z
      have ht : t < 32 := by
        rcases Nat.lt_or_ge t 32 with a | a
        · exact a
        · have h1 : 2 ^ 32 ≤ 2 ^ t := Nat.pow_le_pow_right (by decide) a
          have h2 : 2 ^ t * 1 ≤ 2 ^ t * (2 * k + 1) := Nat.mul_le_mul_left _ (by omega)
          omega
      rw [low_ones e, fnt_ok t ht]
      exact fin t (by omega)
theorem gcd_pow {N s m : Nat} (e : N = 2 ^ s * m) (hs : s ≤ 24) (hm : m % 2 = 1 ∨ s = 24) : Nat.gcd N 16777216 = 2 ^ s := by
  have e2 : 16777216 = 2 ^ s * 2 ^ (24 - s) := by
    rw [← Nat.pow_add, show s + (24 - s) = 24 by omega]
  rw [e2, e, Nat.gcd_mul_left]
  have : Nat.gcd m (2 ^ (24 - s)) = 1 := by
    rcases hm with h | h
    · have c : Nat.Coprime m 2 := by
        show Nat.gcd m 2 = 1
        rw [Nat.gcd_comm, Nat.gcd_rec, h]; exact Nat.gcd_one_left 2
      exact Nat.Coprime.pow_right _ c
    · rw [h, Nat.sub_self, Nat.pow_zero, Nat.gcd_one_right]
  rw [this, Nat.mul_one]
def partN (N : Nat) (x : Int32) : Int64 := if x = 0 then lN (N / Nat.gcd N 16777216) else lN (16777216 / Nat.gcd N 16777216)
theorem c_part {N : Nat} {x : Int32} {Q : Int64 → Hp → Prop} (hN : N < 2 ^ 62) (h : Q (partN N x) (sI σ 7 0 7 0)) : S_X7_part (lN N) x σ Q := by
  unfold S_X7_part
  rintro _ rfl
  refine c_ntz hN (fun r s m e hs hm hr => ?_)
  unfold partN at h
  rw [gcd_pow e hs hm] at h
  rw [hr, show (16777216 : Int64) = lN 16777216 from rfl, sh_N hN (by omega), sh_N (by decide) (by omega)]
  exact ⟨fun q => by rw [if_pos q] at h; exact h, fun q => by rw [if_neg q] at h; exact h⟩
theorem m_part {N : Nat} {x : Int32} {Q : Int64 → Hp → Prop} (hN : N < 2 ^ 62) (h : Q (partN N x) σ) : S_X8_part (lN N) 16777216 x σ Q := by
  have go : ∀ (b a : Nat) (K : Int64 → Hp → Prop), a < 2 ^ 62 → b < 2 ^ 62 → K (lN (Nat.gcd a b)) σ → ∃ n, L_X8_part_6 Q K (lN N) 16777216 x n (lN a) (lN b) σ := by
    intro b
    induction b using Nat.strongRecOn with
    | ind b ih =>
      intro a K ha hb hK
      rcases Nat.eq_zero_or_pos b with z | z
      · subst z
        rw [Nat.gcd_zero_right] at hK
        refine ⟨1, ?_⟩
        unfold L_X8_part_6
        exact ⟨fun _ => hK, fun q => absurd ((lg_cmp_eq _ _).mpr rfl) q⟩
      · have hm : a % b < b := Nat.mod_lt _ z
        rw [Nat.gcd_comm, Nat.gcd_rec, Nat.gcd_comm] at hK
        obtain ⟨n, hn⟩ := ih (a % b) hm b K hb (by omega) hK
        refine ⟨n + 1, ?_⟩
        unfold L_X8_part_6
        have nz : ¬ lN b = 0 := fun q => by
          have := (pk_lEQ (a := b) (b := 0) (by omega) (by decide)).mp q
          omega
        refine ⟨fun q => absurd ((lg_cmp_eq _ _).mp q) nz, fun _ => ⟨nz, ?_⟩⟩
        unfold jlrem
        rw [pk_lRem (by omega) z (by omega)]
        exact hn
  have hg : 0 < Nat.gcd N 16777216 := Nat.gcd_pos_of_pos_right _ (by decide)
  have hg2 : Nat.gcd N 16777216 ≤ 16777216 := Nat.gcd_le_right _ (by decide)
  have nz : ¬ lN (Nat.gcd N 16777216) = 0 := fun q => by
    have := (pk_lEQ (a := Nat.gcd N 16777216) (b := 0) (by omega) (by decide)).mp q
    omega
  refine go 16777216 N _ hN (by decide) ?_
  unfold partN at h
  rw [show (16777216 : Int64) = lN 16777216 from rfl, pk_lDiv (by omega) hg (by omega), pk_lDiv (by decide) hg (by omega)]
  exact ⟨fun q => ⟨nz, by rw [if_pos q] at h; exact h⟩, fun q => ⟨nz, by rw [if_neg q] at h; exact h⟩⟩
end Part
