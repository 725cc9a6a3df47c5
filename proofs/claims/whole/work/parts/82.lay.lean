def DpL (p : PD) (l i k : Nat) : Nat → Nat → Nat → Prop := fun a b c => (a < nL p ∧ b < rc p a ∧ c < wl p a b) ∧ (a < l ∨ (a = l ∧ (b < i ∨ (b = i ∧ c < k))))
section Lay2
variable {P : Nat} {p : PD} {Q : Hp → Prop}
theorem c_len1 {σ : Hp} {l i k : Nat} (hV : PV p) (hl : l < nL p) (hi : i < rc p l) (hk : k < wl p l i) (h : LYs σ P p (DpL p l i k)) {v : Int32} (hv : v = nI (wp p l i k)) (kk : ∀ σ', FW P σ σ' → LYs σ' P p (DpL p l i (k + 1)) → Q σ') : S_X6_lengthen P (nI l) (nI (3 * l + i)) v σ Q := by
  subst hv
  refine c_lengthen hV hl hi hk (fun k' => ?_) h (fun σ' hF h' => kk σ' hF (h'.congr (fun a b c => ?_)))
  · unfold DpL
    omega
  · unfold addD DpL
    refine ⟨fun q => ?_, fun q => ?_⟩
    · rcases q with q | ⟨rfl, rfl, rfl⟩
      · exact ⟨q.1, by omega⟩
      · exact ⟨⟨hl, hi, hk⟩, by omega⟩
    · rcases Nat.lt_or_ge c k with z | z
      · exact Or.inl ⟨q.1, by omega⟩
      · by_cases z2 : a = l ∧ b = i ∧ c = k
        · exact Or.inr z2
        · exact Or.inl ⟨q.1, by omega⟩
theorem c_layOne {σ : Hp} {l i : Nat} (hV : PV p) (hl : l < nL p) (hi : i < rc p l) (hX : PX σ P p) (h : LYs σ P p (DpL p l i 0)) (kk : ∀ σ', FW P σ σ' → LYs σ' P p (DpL p l i (wl p l i)) → Q σ') : S_X6_layOne P P (nI l) (nI (3 * l + i)) σ Q := by
  have hLV := hV.2.2.2.2.2.2.2.2 l hl
  have hf := hLV.1
  have hre := (hLV.2.2.2.2.2.2.2.1 i hi).1
  have e1 := hV.2.2.2.2.2.2.2.1 _ hf
  have e2 := hV.2.2.2.2.2.2.2.1 _ hre
  have h3 := hV.1
  have h6 := hV.2.2.2.2.2.1
  have l8 := hV.2.2.2.2.2.2.1
  have hr := hLV.2.2.2.2.2.2.1
  have wc := wl_cases p l i
  have x25 := (hX.2.2.2.2.2.2.2.2.1 l hl).1
  have x29 := hX.2.2.2.2.2.2.2.2.2 l i hl hi
  have x22a := hX.2.2.2.2.2.2.2.1 _ hf
  have x22b := hX.2.2.2.2.2.2.2.1 _ hre
  have wpc := wp_cases p l i
  unfold S_X6_layOne
  rw [ix_nI (k := l) (by omega), ix_nI (k := 3 * l + i) (by omega), x25, x29, ix_nI (k := fr p l) (by omega), ix_nI (k := re p l i) (by omega), x22a, x22b]
  refine ⟨vp_in_nI (by omega) (by decide), vp_in_nI (by omega) (by decide), vp_in_nI (by omega) (by decide), vp_in_nI (by omega) (by decide), vp_in_nI (by omega) (by decide), ?_⟩
  refine c_len1 hV hl hi (by omega) h (by rw [show wp p l i 0 = fr p l by have := wpc 0; omega]) (fun σ1 F1 h1 => ?_)
  have last : ∀ σ8, FW P σ σ8 → LYs σ8 P p (DpL p l i (wl p l i - 1)) → S_X6_lengthen P (nI l) (nI (3 * l + i)) (6 + nI (re p l i)) σ8 (fun σ9 => Q σ9) := by
    intro σ8 F8 h8
    refine c_len1 hV hl hi (by omega) h8 ?_ (fun σ9 F9 h9 => kk σ9 (F8.trans F9) ?_)
    · rw [show wp p l i (wl p l i - 1) = 6 + re p l i by have := wpc (wl p l i - 1); omega]
      exact add_nI 6 _
    · rw [show wl p l i - 1 + 1 = wl p l i by omega] at h9
      exact h9
  obtain ⟨a, ha⟩ : ∃ a, eS p (fr p l) = a := ⟨_, rfl⟩
  obtain ⟨b, hb⟩ : ∃ b, eS p (re p l i) = b := ⟨_, rfl⟩
  simp only [ha, hb] at e1 e2 wc wpc ⊢
  rcases Nat.lt_or_ge a b with q | q
  · have go : ∀ j t σ4, t + j = b - a → FW P σ σ4 → LYs σ4 P p (DpL p l i (t + 1)) → L_X6_layOne_42 Q (fun w5 σ4 => (∃ n7, L_X6_layOne_66 Q (fun σ8 => S_X6_lengthen P (nI l) (nI (3 * l + i)) (6 + (nI (re p l i))) σ8 (fun σ9 => Q σ9)) P P (nI l) (nI (3 * l + i)) (nI (re p l i)) (nI b) n7 w5 σ4)) P P (nI l) (nI (3 * l + i)) (nI (re p l i)) (nI b) (j + 1) (nI (a + t)) σ4 := by
      intro j
      induction j with
      | zero =>
        intro t σ4 ht F4 h4
        unfold L_X6_layOne_42
        rw [le_nI (by omega) (by omega)]
        refine ⟨fun _ => ⟨1, ?_⟩, fun z => by omega⟩
        unfold L_X6_layOne_66
        rw [le_nI (by omega) (by omega)]
        refine ⟨fun _ => last σ4 F4 ?_, fun z => by omega⟩
        rw [show wl p l i - 1 = t + 1 by omega]
        exact h4
      | succ j ih =>
        intro t σ4 ht F4 h4
        unfold L_X6_layOne_42
        rw [le_nI (by omega) (by omega)]
        refine ⟨fun z => by omega, fun _ => ?_⟩
        refine c_len1 hV hl hi (by omega) h4 ?_ (fun σ5 F5 h5 => ?_)
        · rw [show wp p l i (t + 1) = 12 + (a + t) by have := wpc (t + 1); omega]
          exact add_nI 12 _
        · rw [show nI (a + t) + 1 = nI (a + (t + 1)) from add_nI _ 1]
          exact ih (t + 1) σ5 (by omega) (F4.trans F5) h5
    have := go (b - a) 0 σ1 (by omega) F1 h1
    exact ⟨b - a + 1, this⟩
  · refine ⟨1, ?_⟩
    unfold L_X6_layOne_42
    rw [le_nI (by omega) (by omega)]
    refine ⟨fun _ => ?_, fun z => absurd q z⟩
    have go : ∀ j t σ4, t + j = a - b → FW P σ σ4 → LYs σ4 P p (DpL p l i (t + 1)) → L_X6_layOne_66 Q (fun σ8 => S_X6_lengthen P (nI l) (nI (3 * l + i)) (6 + (nI (re p l i))) σ8 (fun σ9 => Q σ9)) P P (nI l) (nI (3 * l + i)) (nI (re p l i)) (nI b) (j + 1) (nI (a - t)) σ4 := by
      intro j
      induction j with
      | zero =>
        intro t σ4 ht F4 h4
        unfold L_X6_layOne_66
        rw [le_nI (by omega) (by omega)]
        refine ⟨fun _ => last σ4 F4 ?_, fun z => by omega⟩
        rw [show wl p l i - 1 = t + 1 by omega]
        exact h4
      | succ j ih =>
        intro t σ4 ht F4 h4
        unfold L_X6_layOne_66
        rw [le_nI (by omega) (by omega)]
        refine ⟨fun z => by omega, fun _ => ?_⟩
        refine c_len1 hV hl hi (by omega) h4 ?_ (fun σ5 F5 h5 => ?_)
        · rw [show wp p l i (t + 1) = 14 + (a - t) - 1 by have := wpc (t + 1); omega, show (14 : Int32) + nI (a - t) = nI (14 + (a - t)) from add_nI 14 _]
          exact sub_nI (a := 14 + (a - t)) (b := 1) (by omega)
        · rw [show nI (a - t) + (-1) = nI (a - (t + 1)) from m1_nI (n := a - t) (by omega)]
          exact ih (t + 1) σ5 (by omega) (F4.trans F5) h5
    have := go (a - b) 0 σ1 (by omega) F1 h1
    exact ⟨a - b + 1, this⟩
theorem usX_none {pt : Nat} {D : Nat → Nat → Nat → Prop} (h : ∀ l i k, ¬ D l i k) : ∀ m, usX p D pt m = 0
  | 0 => rfl
  | m + 1 => by rw [usX_succ, usX_none h m, cif_neg (fun ⟨i, k, a, _⟩ => h m i k a), or_zero]
theorem usX_all {pt : Nat} {D : Nat → Nat → Nat → Prop} (h : ∀ l i k, l < nL p → (D l i k ↔ i < rc p l ∧ k < wl p l i)) : ∀ m, m ≤ nL p → usX p D pt m = usN p pt m
  | 0, _ => rfl
  | m + 1, hm => by
    rw [usX_succ, usN_succ, usX_all h m (by omega), cif_iff (c := ∃ i k, D m i k ∧ wp p m i k = pt) (d := on p m pt)]
    exact ⟨fun ⟨i, k, a, b⟩ => ⟨i, k, ((h m i k (by omega)).mp a).1, ((h m i k (by omega)).mp a).2, b⟩, fun ⟨i, k, a, b, c⟩ => ⟨i, k, (h m i k (by omega)).mpr ⟨a, b⟩, c⟩⟩
theorem usN_bit {pt l : Nat} (hl : l < 32) : ∀ m, m ≤ 32 → (bitI (usN p pt m) l ↔ l < m ∧ on p l pt)
  | 0, _ => ⟨fun q => absurd q (bit_z hl), fun q => by omega⟩
  | m + 1, hm => by
    rw [usN_succ, bit_or _ _ hl, usN_bit hl m (by omega)]
    by_cases o : on p m pt
    · rw [cif_pos o, bit_sh (by omega) hl]
      refine ⟨fun q => ?_, fun q => ?_⟩
      · rcases q with q | q
        · exact ⟨by omega, q.2⟩
        · subst q
          exact ⟨by omega, o⟩
      · rcases Nat.lt_or_ge l m with z | z
        · exact Or.inl ⟨z, q.2⟩
        · exact Or.inr (by omega)
    · rw [cif_neg o]
      refine ⟨fun q => ?_, fun q => ?_⟩
      · rcases q with q | q
        · exact ⟨by omega, q.2⟩
        · exact absurd q (bit_z hl)
      · rcases Nat.lt_or_ge l m with z | z
        · exact Or.inl ⟨z, q.2⟩
        · rw [show l = m by omega] at q
          exact absurd q.2 o
/-- what a laid way holds -/
def WL (σ : Hp) (P : Nat) (p : PD) : Prop := (∀ l i, l < nL p → i < rc p l → gI σ 48 P (3 * l + i) = nI (wl p l i)) ∧ (∀ l i k, l < nL p → i < rc p l → k < wl p l i → gI σ 47 P (4 * (3 * l + i) + k) = nI (wp p l i k)) ∧ UB σ P p ∧ (∀ pt, pt < 16 → gI σ 49 P pt = usN p pt (nL p)) ∧ OW σ P p ∧ (∀ l pt, l < nL p → on p l pt → 6 ≤ pt → gI σ 51 P (16 * l + pt) = nI (ahN p l pt))
theorem c_lay {σ : Hp} (hV : PV p) (hX : PX σ P p) (kk : ∀ σ', FW P σ σ' → WL σ' P p → Q σ') : S_X6_lay P P σ Q := by
  have l8 := hV.2.2.2.2.2.2.1
  unfold S_X6_lay
  refine c_fill (by decide) (c_fill (by decide) (c_fill (by decide) (c_fill (by decide) ?_)))
  have F0 := ((((FW.refl P σ).f (a := 48) (by omega) (aln 48) 0).f (a := 49) (by omega) (aln 49) 0).f (a := 50) (by omega) (aln 50) 0).f (a := 51) (by omega) (aln 51) (-1)
  have L0 : LYs (flH (flH (flH (flH σ 48 P (aln 48) 0) 49 P (aln 49) 0) 50 P (aln 50) 0) 51 P (aln 51) (-1)) P p (DpL p 0 0 0) := by
    have no : ∀ l i k, ¬ DpL p 0 0 0 l i k := fun l i k q => by unfold DpL at q; omega
    refine ⟨fun l i k q => absurd q (no l i k), fun l i k q => absurd q (no l i k), fun l i hl hi => ⟨0, Nat.zero_le _, ?_, fun k => ⟨fun q => absurd q (no l i k), fun q => absurd q (Nat.not_lt_zero k)⟩⟩, fun pt hpt => ?_, fun l fp to hl hfp hto => ?_, fun l i k q => absurd q (no l i (k + 1))⟩
    · have hr := (hV.2.2.2.2.2.2.2.2 l hl).2.2.2.2.2.2.1
      rw [g_fl, if_neg (by omega), g_fl, if_neg (by omega), g_fl, if_neg (by omega), g_fl, if_pos ⟨rfl, rfl, by show _ < 24; omega⟩]
      rfl
    · rw [usX_none no, g_fl, if_neg (by omega), g_fl, if_neg (by omega), g_fl, if_pos ⟨rfl, rfl, hpt⟩]
    · rw [g_fl, if_neg (by omega), g_fl, if_pos ⟨rfl, rfl, by show _ < 128; omega⟩]
      exact ⟨fun q => absurd q (bit_z (by omega)), fun ⟨i, k, a, _⟩ => absurd a (no l i (k + 1))⟩
  have X0 := hX.fw F0
  have inner : ∀ (K : Hp → Prop) (l : Nat), l < nL p → (∀ σ', FW P σ σ' → LYs σ' P p (DpL p (l + 1) 0 0) → K σ') → ∀ σ1, FW P σ σ1 → LYs σ1 P p (DpL p l 0 0) → ∃ n8, L_X6_lay_44 Q K P P (nI l) n8 0 σ1 := by
    intro K l hl hK σ1 F1 h1
    have hr := (hV.2.2.2.2.2.2.2.2 l hl).2.2.2.2.2.2.1
    have go : ∀ j i σ2, i + j = rc p l → FW P σ σ2 → LYs σ2 P p (DpL p l i 0) → L_X6_lay_44 Q K P P (nI l) (j + 1) (nI i) σ2 := by
      intro j
      induction j with
      | zero =>
        intro i σ2 hi F2 h2
        unfold L_X6_lay_44
        rw [ix_nI (by omega), ((hX.fw F2).2.2.2.2.2.2.2.2.1 l hl).2.2.2, le_nI (by omega) (by omega)]
        refine ⟨vp_in_nI (by omega) (by decide), fun _ => hK σ2 F2 (h2.congr (fun a b c => ?_)), fun z => by omega⟩
        unfold DpL
        have hi' : i = rc p l := by omega
        refine ⟨fun q => ⟨q.1, by omega⟩, fun q => ⟨q.1, ?_⟩⟩
        rcases Nat.lt_or_ge a l with z | z
        · exact Or.inl z
        · have : a = l := by omega
          subst this
          exact Or.inr ⟨rfl, Or.inl (by have := q.1.2.1; omega)⟩
      | succ j ih =>
        intro i σ2 hi F2 h2
        unfold L_X6_lay_44
        rw [ix_nI (by omega), ((hX.fw F2).2.2.2.2.2.2.2.2.1 l hl).2.2.2, le_nI (by omega) (by omega)]
        refine ⟨vp_in_nI (by omega) (by decide), fun z => by omega, fun _ => ear_i ?_⟩
        refine c_layOne hV hl (by omega) (hX.fw F2) h2 (fun σ3 F3 h3 => ?_)
        rw [show nI i + 1 = nI (i + 1) from add_nI i 1]
        refine ih (i + 1) σ3 (by omega) (F2.trans F3) (h3.congr (fun a b c => ?_))
        unfold DpL
        refine ⟨fun q => ⟨q.1, by omega⟩, fun q => ⟨q.1, ?_⟩⟩
        by_cases z : a = l ∧ b = i
        · obtain ⟨rfl, rfl⟩ := z
          exact Or.inr ⟨rfl, Or.inr ⟨rfl, q.1.2.2⟩⟩
        · omega
    exact ⟨rc p l + 1, go (rc p l) 0 σ1 (by omega) F1 h1⟩
  have outer : ∀ j l σ1, l + j = nL p → FW P σ σ1 → LYs σ1 P p (DpL p l 0 0) → L_X6_lay_34 Q (fun σ11 => Q σ11) P P (j + 1) (nI l) σ1 := by
    intro j
    induction j with
    | zero =>
      intro l σ1 hl F1 h1
      unfold L_X6_lay_34
      rw [(hX.fw F1).2.2.2.2.2.2.1, le_nI (by omega) (by omega)]
      refine ⟨fun _ => kk σ1 F1 ?_, fun z => by omega⟩
      have el : l = nL p := by omega
      subst el
      obtain ⟨a1, a2, a3, a4, a5, a6⟩ := h1
      have full : ∀ l i k, l < nL p → (DpL p (nL p) 0 0 l i k ↔ i < rc p l ∧ k < wl p l i) := by
        intro l i k hl
        unfold DpL
        exact ⟨fun q => q.1.2, fun q => ⟨⟨hl, q.1, q.2⟩, Or.inl hl⟩⟩
      have us : ∀ pt, pt < 16 → gI σ1 49 P pt = usN p pt (nL p) := fun pt hpt => by rw [a4 pt hpt, usX_all full (nL p) (Nat.le_refl _)]
      refine ⟨fun l i hl hi => ?_, fun l i k hl hi hk => a2 l i k ((full l i k hl).mpr ⟨hi, hk⟩), fun l pt hl hpt => ?_, us, fun l fp to hl hfp hto => ?_, fun l pt hl ho h6 => ?_⟩
      · obtain ⟨m, m1, m2, m3⟩ := a3 l i hl hi
        have : m = wl p l i := by
          rcases Nat.lt_or_ge m (wl p l i) with z | z
          · exact absurd ((m3 m).mp ((full l i m hl).mpr ⟨hi, z⟩)) (by omega)
          · omega
        rw [m2, this]
      · rw [us pt hpt, usN_bit (by omega) (nL p) (by omega)]
        exact ⟨fun q => q.2, fun q => ⟨hl, q⟩⟩
      · rw [a5 l fp to hl hfp hto]
        exact ⟨fun ⟨i, k, a, b, c⟩ => ⟨i, k, ((full l i (k + 1) hl).mp a).1, ((full l i (k + 1) hl).mp a).2, b, c⟩, fun ⟨i, k, a, b, c, d⟩ => ⟨i, k, (full l i (k + 1) hl).mpr ⟨a, b⟩, c, d⟩⟩
      · obtain ⟨_, _, _, i, k, hi, k1, hk, e, _⟩ := on_prev hV hl ho h6
        have := a6 l i (k - 1) ((full l i (k - 1 + 1) hl).mpr ⟨hi, by omega⟩)
        rw [show k - 1 + 1 = k by omega, e] at this
        exact this
    | succ j ih =>
      intro l σ1 hl F1 h1
      unfold L_X6_lay_34
      rw [(hX.fw F1).2.2.2.2.2.2.1, le_nI (by omega) (by omega)]
      refine ⟨fun z => by omega, fun _ => inner _ l (by omega) (fun σ' F' h' => ?_) σ1 F1 h1⟩
      rw [show nI l + 1 = nI (l + 1) from add_nI l 1]
      exact ih (l + 1) σ' (by omega) F' h'
  exact ⟨nL p + 1, outer (nL p) 0 _ (by omega) F0 L0⟩
end Lay2
