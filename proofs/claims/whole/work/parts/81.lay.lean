/-! ===== the ways laid (rows b_ begun from the kit's laws) ===== -/
def bt (x : Int32) (i : Nat) : Bool := x.toBitVec.getLsbD i
theorem b_ext {x y : Int32} (h : ∀ i, i < 32 → bt x i = bt y i) : x = y := Int32.toBitVec_inj.mp (BitVec.eq_of_getLsbD_eq (fun i hi => h i hi))
theorem b_or (x y : Int32) (i : Nat) : bt (x ||| y) i = (bt x i || bt y i) := by unfold bt; rw [Int32.toBitVec_or, BitVec.getLsbD_or]
theorem b_and (x y : Int32) (i : Nat) : bt (x &&& y) i = (bt x i && bt y i) := by unfold bt; rw [Int32.toBitVec_and, BitVec.getLsbD_and]
theorem s_l : ∀ n, n < 32 → ((nI n &&& 31).toBitVec.smod 32).toNat = n := by decide +kernel
theorem b_sshr (n : Nat) (hn : n < 32) (x : Int32) {i : Nat} (hi : i < 32) : bt (x >>> (nI n &&& 31)) i = if n + i < 32 then bt x (n + i) else bt x 31 := by
  unfold bt
  rw [Int32.toBitVec_shiftRight]
  show (x.toBitVec.sshiftRight ((nI n &&& 31).toBitVec.smod 32).toNat).getLsbD i = _
  rw [s_l n hn, BitVec.getLsbD_sshiftRight, BitVec.msb_eq_getLsbD_last]
  simp [hi]
theorem b_1 : ∀ i, i < 32 → bt 1 i = decide (i = 0) := by decide +kernel
theorem b_z : ∀ i, i < 32 → bt 0 i = false := by decide +kernel
theorem b_sh1 : ∀ m, m < 32 → ∀ i, i < 32 → bt (1 <<< (nI m &&& 31)) i = decide (i = m) := by decide +kernel
theorem bit_bt (x : Int32) {b : Nat} (hb : b < 32) : bitI x b ↔ bt x b = true := by
  unfold bitI
  have e0 : bt ((x >>> (nI b &&& 31)) &&& 1) 0 = bt x b := by
    rw [b_and, b_sshr b hb x (by decide), b_1 0 (by decide), if_pos (by omega), Nat.add_zero]
    cases bt x b <;> rfl
  refine ⟨fun h => ?_, fun h => b_ext (fun i hi => ?_)⟩
  · rw [← e0, h]
    rfl
  · rcases Nat.eq_zero_or_pos i with z | z
    · subst z
      rw [e0, h]
      rfl
    · rw [b_and, b_1 i hi, decide_eq_false (by omega)]
      cases bt (x >>> (nI b &&& 31)) i <;> rfl
theorem bit_or (x y : Int32) {b : Nat} (hb : b < 32) : bitI (x ||| y) b ↔ bitI x b ∨ bitI y b := by
  rw [bit_bt _ hb, bit_bt _ hb, bit_bt _ hb, b_or, Bool.or_eq_true]
theorem bit_sh {m b : Nat} (hm : m < 32) (hb : b < 32) : bitI (1 <<< (nI m &&& 31)) b ↔ b = m := by
  rw [bit_bt _ hb, b_sh1 m hm b hb, decide_eq_true_eq]
theorem bit_z {b : Nat} (hb : b < 32) : ¬ bitI 0 b := by
  rw [bit_bt _ hb, b_z b hb]
  decide
/-- a row filled -/
def flH (σ : Hp) (n i m : Nat) (v : Int32) : Hp := (fun a b c => if a = n ∧ b = i ∧ c < m then v else σ.1 a b c, σ.2)
theorem g_fl (σ : Hp) (n i m : Nat) (v : Int32) (a b c : Nat) : gI (flH σ n i m v) a b c = if a = n ∧ b = i ∧ c < m then v else gI σ a b c := rfl
theorem fl_succ (σ : Hp) (n i m : Nat) (v : Int32) : sI (flH σ n i m v) n i m v = flH σ n i (m + 1) v := by
  refine Prod.ext ?_ rfl
  funext a b c
  show (if a = n ∧ b = i ∧ c = m then v else if a = n ∧ b = i ∧ c < m then v else σ.1 a b c) = if a = n ∧ b = i ∧ c < m + 1 then v else σ.1 a b c
  by_cases h : a = n ∧ b = i
  · by_cases h1 : c = m
    · rw [if_pos ⟨h.1, h.2, h1⟩, if_pos ⟨h.1, h.2, by omega⟩]
    · rw [if_neg (fun q => h1 q.2.2)]
      by_cases h2 : c < m
      · rw [if_pos ⟨h.1, h.2, h2⟩, if_pos ⟨h.1, h.2, by omega⟩]
      · rw [if_neg (fun q => h2 q.2.2), if_neg (fun q => by omega)]
  · rw [if_neg (fun q => h ⟨q.1, q.2.1⟩), if_neg (fun q => h ⟨q.1, q.2.1⟩), if_neg (fun q => h ⟨q.1, q.2.1⟩)]
theorem fl_zero (σ : Hp) (n i : Nat) (v : Int32) : flH σ n i 0 v = σ := by
  refine Prod.ext ?_ rfl
  funext a b c
  show (if a = n ∧ b = i ∧ c < 0 then v else σ.1 a b c) = σ.1 a b c
  rw [if_neg (by omega)]
theorem c_fill {σ : Hp} {n i : Nat} {v : Int32} {Q : Hp → Prop} (hn : aln n < 2 ^ 31) (k : Q (flH σ n i (aln n) v)) : S_J7_fill_53178 n i v σ Q := by
  have go : ∀ j m, m + j = aln n → L_J7_fill_53178_5 Q (fun σ3 => Q σ3) n i v (Int32.ofNat (aln n)) (j + 1) (nI m) (flH σ n i m v) := by
    intro j
    induction j with
    | zero =>
      intro m hm
      have : m = aln n := by omega
      subst this
      unfold L_J7_fill_53178_5
      rw [show Int32.ofNat (aln n) = nI (aln n) from rfl, le_nI hn hn]
      exact ⟨fun _ => k, fun q => absurd (Nat.le_refl _) q⟩
    | succ j ih =>
      intro m hm
      unfold L_J7_fill_53178_5
      rw [show Int32.ofNat (aln n) = nI (aln n) from rfl, le_nI hn (by omega), ix_nI (by omega)]
      refine ⟨fun q => by omega, fun _ => ⟨vp_in_nI (by omega) hn, ?_⟩⟩
      rintro _ rfl
      rw [fl_succ, show nI m + 1 = nI (m + 1) from add_nI m 1]
      exact ih (m + 1) (by omega)
  have := go (aln n) 0 (by omega)
  rw [fl_zero] at this
  exact ⟨aln n + 1, this⟩
/-- the users' word of the ports laid so far -/
noncomputable def usX (p : PD) (D : Nat → Nat → Nat → Prop) (pt : Nat) : Nat → Int32
  | 0 => 0
  | m + 1 => usX p D pt m ||| cif (∃ i k, D m i k ∧ wp p m i k = pt) (1 <<< (nI m &&& 31)) 0
theorem usX_succ (p : PD) (D : Nat → Nat → Nat → Prop) (pt m : Nat) : usX p D pt (m + 1) = usX p D pt m ||| cif (∃ i k, D m i k ∧ wp p m i k = pt) (1 <<< (nI m &&& 31)) 0 := rfl
theorem usX_congr {p : PD} {D D' : Nat → Nat → Nat → Prop} {pt : Nat} : ∀ (m : Nat), (∀ l, l < m → ((∃ i k, D l i k ∧ wp p l i k = pt) ↔ ∃ i k, D' l i k ∧ wp p l i k = pt)) → usX p D pt m = usX p D' pt m
  | 0, _ => rfl
  | m + 1, h => by rw [usX_succ, usX_succ, usX_congr m (fun l hl => h l (by omega)), cif_iff (h m (by omega))]
theorem or_idem (x y : Int32) : x ||| y ||| y = x ||| y := b_ext (fun i _ => by rw [b_or, b_or]; cases bt x i <;> cases bt y i <;> rfl)
theorem or_swap (x y z : Int32) : x ||| y ||| z = x ||| z ||| y := b_ext (fun i _ => by rw [b_or, b_or, b_or, b_or]; cases bt x i <;> cases bt y i <;> cases bt z i <;> rfl)
theorem or_zero (x : Int32) : x ||| 0 = x := b_ext (fun i hi => by rw [b_or, b_z i hi]; cases bt x i <;> rfl)
theorem zero_or (x : Int32) : 0 ||| x = x := b_ext (fun i hi => by rw [b_or, b_z i hi]; cases bt x i <;> rfl)
theorem usX_add {p : PD} {D D' : Nat → Nat → Nat → Prop} {pt l : Nat} (h1 : ∀ m, m ≠ l → ((∃ i k, D m i k ∧ wp p m i k = pt) ↔ ∃ i k, D' m i k ∧ wp p m i k = pt)) (h2 : ∃ i k, D' l i k ∧ wp p l i k = pt) : ∀ m, l < m → usX p D' pt m = usX p D pt m ||| (1 <<< (nI l &&& 31))
  | 0, h => by omega
  | m + 1, h => by
    rw [usX_succ, usX_succ]
    by_cases q : m = l
    · subst q
      rw [usX_congr (D := D') (D' := D) m (fun l' hl' => (h1 l' (by omega)).symm), cif_pos h2]
      by_cases c : ∃ i k, D m i k ∧ wp p m i k = pt
      · rw [cif_pos c, or_idem]
      · rw [cif_neg c, or_zero]
    · rw [usX_add h1 h2 m (by omega), cif_iff (h1 m q), or_swap]
/-- the ways laid so far: D tells which ports -/
def LYs (σ : Hp) (P : Nat) (p : PD) (D : Nat → Nat → Nat → Prop) : Prop :=
  (∀ l i k, D l i k → l < nL p ∧ i < rc p l ∧ k < wl p l i) ∧
  (∀ l i k, D l i k → gI σ 47 P (4 * (3 * l + i) + k) = nI (wp p l i k)) ∧
  (∀ l i, l < nL p → i < rc p l → ∃ m, m ≤ wl p l i ∧ gI σ 48 P (3 * l + i) = nI m ∧ ∀ k, D l i k ↔ k < m) ∧
  (∀ pt, pt < 16 → gI σ 49 P pt = usX p D pt (nL p)) ∧
  (∀ l fp to, l < nL p → fp < 16 → to < 16 → (bitI (gI σ 50 P (16 * l + fp)) to ↔ ∃ i k, D l i (k + 1) ∧ wp p l i k = fp ∧ wp p l i (k + 1) = to)) ∧
  (∀ l i k, D l i (k + 1) → gI σ 51 P (16 * l + wp p l i (k + 1)) = nI (ahN p l (wp p l i (k + 1))))
def FW (P : Nat) (σ σ' : Hp) : Prop := (∀ a b c, ¬ (b = P ∧ 47 ≤ a ∧ a ≤ 51) → gI σ' a b c = gI σ a b c) ∧ (∀ a b c, gL σ' a b c = gL σ a b c) ∧ (∀ a, gR σ' a = gR σ a)
theorem FW.refl (P : Nat) (σ : Hp) : FW P σ σ := ⟨fun _ _ _ _ => rfl, fun _ _ _ => rfl, fun _ => rfl⟩
theorem FW.trans {P : Nat} {σ σ' σ'' : Hp} (h : FW P σ σ') (h2 : FW P σ' σ'') : FW P σ σ'' := ⟨fun a b c q => (h2.1 a b c q).trans (h.1 a b c q), fun a b c => (h2.2.1 a b c).trans (h.2.1 a b c), fun a => (h2.2.2 a).trans (h.2.2 a)⟩
theorem FW.s {P : Nat} {σ σ' : Hp} (h : FW P σ σ') {a : Nat} (ha : 47 ≤ a ∧ a ≤ 51) (c : Nat) (v : Int32) : FW P σ (sI σ' a P c v) := by
  refine ⟨fun x y z q => ?_, h.2.1, h.2.2⟩
  rw [gI_sI, if_neg (by omega)]
  exact h.1 x y z q
theorem FW.f {P : Nat} {σ σ' : Hp} (h : FW P σ σ') {a : Nat} (ha : 47 ≤ a ∧ a ≤ 51) (m : Nat) (v : Int32) : FW P σ (flH σ' a P m v) := by
  refine ⟨fun x y z q => ?_, h.2.1, h.2.2⟩
  rw [g_fl, if_neg (by omega)]
  exact h.1 x y z q
theorem PX.fw {P : Nat} {σ σ' : Hp} {p : PD} (h : PX σ P p) (hd : FW P σ σ') : PX σ' P p := by
  have g : ∀ a c, a < 47 → gI σ' a P c = gI σ a P c := fun a c q => hd.1 a P c (by omega)
  unfold PX at h ⊢
  simp only [g 2 _ (by decide), g 22 _ (by decide), g 25 _ (by decide), g 26 _ (by decide), g 27 _ (by decide), g 28 _ (by decide), g 29 _ (by decide)]
  exact h
theorem LYs.congr {σ : Hp} {P : Nat} {p : PD} {D D' : Nat → Nat → Nat → Prop} (h : LYs σ P p D) (e : ∀ l i k, D l i k ↔ D' l i k) : LYs σ P p D' := by
  have : D = D' := by
    funext l i k
    exact propext (e l i k)
  rw [← this]
  exact h
def addD (D : Nat → Nat → Nat → Prop) (l i k : Nat) : Nat → Nat → Nat → Prop := fun a b c => D a b c ∨ (a = l ∧ b = i ∧ c = k)
section Lay
variable {P : Nat} {p : PD}
theorem c_lengthen {σ : Hp} {D : Nat → Nat → Nat → Prop} {l i k : Nat} {Q : Hp → Prop} (hV : PV p) (hl : l < nL p) (hi : i < rc p l) (hk : k < wl p l i) (hD : ∀ k', D l i k' ↔ k' < k) (h : LYs σ P p D) (kk : ∀ σ', FW P σ σ' → LYs σ' P p (addD D l i k) → Q σ') : S_X6_lengthen P (nI l) (nI (3 * l + i)) (nI (wp p l i k)) σ Q := by
  obtain ⟨h1, h2, h3, h4, h5, h6⟩ := h
  have l8 : nL p ≤ 8 := hV.2.2.2.2.2.2.1
  have hr := (hV.2.2.2.2.2.2.2.2 l hl).2.2.2.2.2.2.1
  have w4 : ∀ l i, l < nL p → i < rc p l → wl p l i ≤ 4 := by
    intro l i hl hi
    have hLV := hV.2.2.2.2.2.2.2.2 l hl
    have e1 := hV.2.2.2.2.2.2.2.1 _ hLV.1
    have e2 := hV.2.2.2.2.2.2.2.1 _ (hLV.2.2.2.2.2.2.2.1 i hi).1
    have h3 := hV.1
    have := wl_cases p l i
    omega
  have w4' := w4 l i hl hi
  have p16 := (on_pt hV hl (wp_on hi hk)).1
  obtain ⟨m, m1, m2, m3⟩ := h3 l i hl hi
  have em : m = k := by
    rcases Nat.lt_trichotomy m k with q | q | q
    · exact absurd ((m3 m).mp ((hD m).mpr q)) (by omega)
    · exact q
    · exact absurd ((hD k).mp ((m3 k).mpr q)) (by omega)
  subst em
  have rcb : ∀ l', l' < nL p → rc p l' ≤ 3 := fun l' hl' => (hV.2.2.2.2.2.2.2.2 l' hl').2.2.2.2.2.2.1
  -- the new state
  have fin : ∀ σ1, FW P σ σ1 → (∀ c, gI σ1 47 P c = gI σ 47 P c) → (∀ c, gI σ1 48 P c = gI σ 48 P c) → (∀ c, gI σ1 49 P c = gI σ 49 P c) →
      (∀ l' fp to, l' < nL p → fp < 16 → to < 16 → (bitI (gI σ1 50 P (16 * l' + fp)) to ↔ ∃ i' k', addD D l i m l' i' (k' + 1) ∧ wp p l' i' k' = fp ∧ wp p l' i' (k' + 1) = to)) →
      (∀ l' i' k', addD D l i m l' i' (k' + 1) → gI σ1 51 P (16 * l' + wp p l' i' (k' + 1)) = nI (ahN p l' (wp p l' i' (k' + 1)))) → J_X6_lengthen_62 Q P (nI l) (nI (3 * l + i)) (nI (wp p l i m)) (nI m) σ1 := by
    intro σ1 hF e47 e48 e49 e50 e51
    unfold J_X6_lengthen_62
    rw [show (4 : Int32) = nI 4 from rfl, mul_nI, add_nI, Nat.mul_comm _ 4, ix_nI (by omega), ix_nI (by omega), ix_nI (by omega), show nI m + 1 = nI (m + 1) from add_nI m 1]
    refine ⟨vp_in_nI (by omega) (by decide), ?_⟩
    rintro _ rfl
    refine ⟨vp_in_nI (by omega) (by decide), ?_⟩
    rintro _ rfl
    refine ⟨vp_in_nI p16 (by decide), vp_in_nI p16 (by decide), ?_⟩
    rintro _ rfl
    rw [gI_sI, if_neg (by omega), gI_sI, if_neg (by omega), e49]
    refine kk _ (((hF.s (a := 47) (by omega) _ _).s (a := 48) (by omega) _ _).s (a := 49) (by omega) _ _) ⟨fun l' i' k' q => ?_, fun l' i' k' q => ?_, fun l' i' hl' hi' => ?_, fun pt hpt => ?_, fun l' fp to a1 a2 a3 => ?_, fun l' i' k' q => ?_⟩
    · rcases q with q | ⟨rfl, rfl, rfl⟩
      · exact h1 l' i' k' q
      · exact ⟨hl, hi, hk⟩
    · rw [gI_sI, if_neg (by omega), gI_sI, if_neg (by omega), gI_sI]
      rcases q with q | ⟨rfl, rfl, rfl⟩
      · have v := h1 l' i' k' q
        have r' := rcb l' v.1
        have w' := w4 l' i' v.1 v.2.1
        rw [if_neg, e47]
        · exact h2 l' i' k' q
        · intro z
          have z2 := z.2.2
          have a1 : 3 * l' + i' = 3 * l + i := by omega
          have a2 : l' = l := by omega
          have a3 : i' = i := by omega
          have a4 : k' = m := by omega
          subst a2
          subst a3
          subst a4
          exact absurd ((hD k').mp q) (by omega)
      · rw [if_pos ⟨rfl, rfl, rfl⟩]
    · have r' := rcb l' hl'
      rw [gI_sI, if_neg (by omega), gI_sI]
      by_cases z : 3 * l' + i' = 3 * l + i
      · have a2 : l' = l := by omega
        have a3 : i' = i := by omega
        subst a2
        subst a3
        refine ⟨m + 1, by omega, by rw [if_pos ⟨rfl, rfl, rfl⟩], fun k' => ?_⟩
        unfold addD
        rw [hD k']
        omega
      · rw [if_neg (by omega), gI_sI, if_neg (by omega), e48]
        obtain ⟨m', b1, b2, b3⟩ := h3 l' i' hl' hi'
        refine ⟨m', b1, b2, fun k' => ?_⟩
        unfold addD
        rw [← b3 k']
        refine ⟨fun q => q.resolve_right (fun c => ?_), Or.inl⟩
        omega
    · rw [gI_sI]
      by_cases z : pt = wp p l i m
      · subst z
        rw [if_pos ⟨rfl, rfl, rfl⟩, h4 _ hpt, usX_add (D := D) (D' := addD D l i m) (l := l) (fun l' nl' => ?_) ⟨i, m, Or.inr ⟨rfl, rfl, rfl⟩, rfl⟩ (nL p) hl]
        refine ⟨fun ⟨a, c, d, e⟩ => ⟨a, c, Or.inl d, e⟩, fun ⟨a, c, d, e⟩ => ⟨a, c, d.resolve_right (fun y => nl' y.1), e⟩⟩
      · rw [if_neg (by omega), gI_sI, if_neg (by omega), gI_sI, if_neg (by omega), e49, h4 pt hpt]
        refine usX_congr (nL p) (fun l' _ => ⟨fun ⟨a, c, d, e⟩ => ⟨a, c, Or.inl d, e⟩, fun ⟨a, c, d, e⟩ => ⟨a, c, d.resolve_right (fun y => ?_), e⟩⟩)
        obtain ⟨rfl, rfl, rfl⟩ := y
        exact z e.symm
    · rw [gI_sI, if_neg (by omega), gI_sI, if_neg (by omega), gI_sI, if_neg (by omega)]
      exact e50 l' fp to a1 a2 a3
    · rw [gI_sI, if_neg (by omega), gI_sI, if_neg (by omega), gI_sI, if_neg (by omega)]
      exact e51 l' i' k' q
  unfold S_X6_lengthen
  rw [ix_nI (by omega), m2, show (4 : Int32) = nI 4 from rfl, lt_nI (by omega) (by decide), show (nI m ≤ (0 : Int32)) = (nI m ≤ nI 0) from rfl, le_nI (by omega) (by decide)]
  refine ⟨vp_in_nI (by omega) (by decide), fun _ => ⟨fun z => ?_, fun z => ?_⟩, fun z => by omega⟩
  · have m0 : m = 0 := by omega
    subst m0
    refine fin σ (FW.refl P σ) (fun _ => rfl) (fun _ => rfl) (fun _ => rfl) (fun l' fp to a1 a2 a3 => (h5 l' fp to a1 a2 a3).trans ?_) (fun l' i' k' q => h6 l' i' k' (q.resolve_right (fun y => by omega)))
    exact ⟨fun ⟨a, c, d, e⟩ => ⟨a, c, Or.inl d, e⟩, fun ⟨a, c, d, e⟩ => ⟨a, c, d.resolve_right (fun y => by omega), e⟩⟩
  · have pv := wp_prev hV hl hi (show 1 ≤ m by omega) hk
    have o1 := wp_on (p := p) hi (show m - 1 < wl p l i by omega)
    have q16 := (on_pt hV hl o1).1
    have e47 := h2 l i (m - 1) ((hD (m - 1)).mpr (by omega))
    unfold S_X6_portAt
    dsimp only
    rw [show nI m - 1 = nI (m - 1) from sub_nI (a := m) (b := 1) (by omega), show (4 : Int32) = nI 4 from rfl, mul_nI, add_nI, Nat.mul_comm _ 4, ix_nI (k := 4 * (3 * l + i) + (m - 1)) (by omega), e47, show (16 : Int32) = nI 16 from rfl, mul_nI, add_nI, add_nI, Nat.mul_comm l 16, ix_nI (k := 16 * l + wp p l i (m - 1)) (by omega), ix_nI (k := 16 * l + wp p l i m) (by omega)]
    refine ⟨vp_in_nI (by omega) (by decide), vp_in_nI (by omega) (by decide), vp_in_nI (by omega) (by decide), ?_⟩
    rintro _ rfl
    refine ⟨vp_in_nI (by omega) (by decide), ?_⟩
    rintro _ rfl
    refine fin _ (((FW.refl P σ).s (a := 50) (by omega) _ _).s (a := 51) (by omega) _ _) (fun c => ?_) (fun c => ?_) (fun c => ?_) (fun l' fp to a1 a2 a3 => ?_) (fun l' i' k' q => ?_)
    · rw [gI_sI, if_neg (by omega), gI_sI, if_neg (by omega)]
    · rw [gI_sI, if_neg (by omega), gI_sI, if_neg (by omega)]
    · rw [gI_sI, if_neg (by omega), gI_sI, if_neg (by omega)]
    · rw [gI_sI, if_neg (by omega), gI_sI]
      by_cases z : 16 * l' + fp = 16 * l + wp p l i (m - 1)
      · have b1 : l' = l := by omega
        have b2 : fp = wp p l i (m - 1) := by omega
        subst b1
        subst b2
        rw [if_pos ⟨rfl, rfl, rfl⟩, bit_or _ _ (by omega), bit_sh (by omega) (by omega), h5 l' _ to a1 a2 a3]
        refine ⟨fun c => ?_, fun ⟨a, c, d, e⟩ => ?_⟩
        · rcases c with ⟨a, c, d, e⟩ | c
          · exact ⟨a, c, Or.inl d, e⟩
          · refine ⟨i, m - 1, Or.inr ⟨rfl, rfl, by omega⟩, rfl, ?_⟩
            rw [show m - 1 + 1 = m by omega]
            exact c.symm
        · rcases d with d | ⟨y1, y2, y3⟩
          · exact Or.inl ⟨a, c, d, e⟩
          · subst y2
            right
            rw [← e.2, y3]
      · rw [if_neg (by omega), h5 l' fp to a1 a2 a3]
        refine ⟨fun ⟨a, c, d, e⟩ => ⟨a, c, Or.inl d, e⟩, fun ⟨a, c, d, e⟩ => ⟨a, c, d.resolve_right (fun ⟨y1, y2, y3⟩ => z ?_), e⟩⟩
        subst y1
        subst y2
        have : c = m - 1 := by omega
        subst this
        rw [e.1]
    · rw [gI_sI]
      have v : l' < nL p ∧ i' < rc p l' ∧ k' + 1 < wl p l' i' := by
        rcases q with q | ⟨y1, y2, y3⟩
        · exact h1 l' i' (k' + 1) q
        · subst y1
          subst y2
          exact ⟨hl, hi, by omega⟩
      have v16 := (on_pt hV v.1 (wp_on v.2.1 v.2.2)).1
      by_cases z : 16 * l' + wp p l' i' (k' + 1) = 16 * l + wp p l i m
      · have b1 : l' = l := by omega
        subst b1
        have b2 : wp p l' i' (k' + 1) = wp p l' i m := by omega
        rw [if_pos ⟨rfl, rfl, z⟩, b2, pv.1]
      · rw [if_neg (by omega), gI_sI, if_neg (by omega)]
        refine h6 l' i' k' (q.resolve_right (fun ⟨y1, y2, y3⟩ => z ?_))
        subst y1
        subst y2
        rw [y3]
end Lay
