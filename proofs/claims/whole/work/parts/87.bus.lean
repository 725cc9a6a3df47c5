/-! ===== bus: the reference ===== -/
def cpL (σ : Hp) (S D m : Nat) : Hp := (σ.1, fun a b c => if a = D ∧ b = 0 ∧ c < m then σ.2.1 S 0 c else σ.2.1 a b c, σ.2.2)
theorem gcpL (σ : Hp) (S D m a b c : Nat) : gL (cpL σ S D m) a b c = if a = D ∧ b = 0 ∧ c < m then gL σ S 0 c else gL σ a b c := rfl
theorem cpL_zero (σ : Hp) (S D : Nat) : cpL σ S D 0 = σ := by
  refine Prod.ext rfl (Prod.ext ?_ rfl)
  funext a b c
  show (if a = D ∧ b = 0 ∧ c < 0 then _ else σ.2.1 a b c) = _
  rw [if_neg (by omega)]
theorem cpL_step (σ : Hp) {S D : Nat} (h : S ≠ D) (k : Nat) : sL (cpL σ S D k) D 0 k (gL (cpL σ S D k) S 0 k) = cpL σ S D (k + 1) := by
  have eS : gL (cpL σ S D k) S 0 k = σ.2.1 S 0 k := by
    rw [gcpL, if_neg (fun q => h q.1)]
    rfl
  refine Prod.ext rfl (Prod.ext ?_ rfl)
  funext a b c
  show (if a = D ∧ b = 0 ∧ c = k then gL (cpL σ S D k) S 0 k else (if a = D ∧ b = 0 ∧ c < k then σ.2.1 S 0 c else σ.2.1 a b c)) = if a = D ∧ b = 0 ∧ c < k + 1 then σ.2.1 S 0 c else σ.2.1 a b c
  rw [eS]
  by_cases q : a = D ∧ b = 0
  · by_cases q1 : c = k
    · rw [if_pos ⟨q.1, q.2, q1⟩, if_pos ⟨q.1, q.2, by omega⟩, q1]
    · rw [if_neg (fun z => q1 z.2.2)]
      by_cases q2 : c < k
      · rw [if_pos ⟨q.1, q.2, q2⟩, if_pos ⟨q.1, q.2, by omega⟩]
      · rw [if_neg (fun z => q2 z.2.2), if_neg (fun z => by omega)]
  · rw [if_neg (fun z => q ⟨z.1, z.2.1⟩), if_neg (fun z => q ⟨z.1, z.2.1⟩), if_neg (fun z => q ⟨z.1, z.2.1⟩)]
section CopyM
variable {σ : Hp} {Q : Int32 → Hp → Prop} {K : Hp → Prop}
theorem m_cp65 (h : K (cpR σ 54 53 7)) : ∃ m, L_X8_bus_65 Q K m 0 σ := by
  have go : ∀ j k, k + j = 7 → L_X8_bus_65 Q K (j + 1) (nI k) (cpR σ 54 53 k) := by
    intro j
    induction j with
    | zero =>
      intro k hk
      have : k = 7 := by omega
      subst this
      exact ⟨fun _ => h, fun q => absurd (by decide) q⟩
    | succ j ih =>
      intro k hk
      unfold L_X8_bus_65
      rw [show (7 : Int32) = nI 7 from rfl, le_nI (by decide) (by omega), ix_nI (by omega), show nI k + 1 = nI (k + 1) from add_nI k 1]
      refine ⟨fun q => by omega, fun _ => ⟨vp_in_nI (by omega) (by decide), vp_in_nI (by omega) (by decide), ?_⟩⟩
      rintro _ rfl
      rw [cpR_step σ (by decide) k]
      exact ih (k + 1) (by omega)
  have := go 7 0 (by omega)
  rw [cpR_zero] at this
  exact ⟨8, this⟩
theorem m_cp91 (h : K (cpR σ 56 55 6)) : ∃ m, L_X8_bus_91 Q K m 0 σ := by
  have go : ∀ j k, k + j = 6 → L_X8_bus_91 Q K (j + 1) (nI k) (cpR σ 56 55 k) := by
    intro j
    induction j with
    | zero =>
      intro k hk
      have : k = 6 := by omega
      subst this
      exact ⟨fun _ => h, fun q => absurd (by decide) q⟩
    | succ j ih =>
      intro k hk
      unfold L_X8_bus_91
      rw [show (6 : Int32) = nI 6 from rfl, le_nI (by decide) (by omega), ix_nI (by omega), show nI k + 1 = nI (k + 1) from add_nI k 1]
      refine ⟨fun q => by omega, fun _ => ⟨vp_in_nI (by omega) (by decide), vp_in_nI (by omega) (by decide), ?_⟩⟩
      rintro _ rfl
      rw [cpR_step σ (by decide) k]
      exact ih (k + 1) (by omega)
  have := go 6 0 (by omega)
  rw [cpR_zero] at this
  exact ⟨7, this⟩
theorem m_cp117 (h : K (cpR σ 58 57 56)) : ∃ m, L_X8_bus_117 Q K m 0 σ := by
  have go : ∀ j k, k + j = 56 → L_X8_bus_117 Q K (j + 1) (nI k) (cpR σ 58 57 k) := by
    intro j
    induction j with
    | zero =>
      intro k hk
      have : k = 56 := by omega
      subst this
      exact ⟨fun _ => h, fun q => absurd (by decide) q⟩
    | succ j ih =>
      intro k hk
      unfold L_X8_bus_117
      rw [show (56 : Int32) = nI 56 from rfl, le_nI (by decide) (by omega), ix_nI (by omega), show nI k + 1 = nI (k + 1) from add_nI k 1]
      refine ⟨fun q => by omega, fun _ => ⟨vp_in_nI (by omega) (by decide), vp_in_nI (by omega) (by decide), ?_⟩⟩
      rintro _ rfl
      rw [cpR_step σ (by decide) k]
      exact ih (k + 1) (by omega)
  have := go 56 0 (by omega)
  rw [cpR_zero] at this
  exact ⟨57, this⟩
theorem m_cp143 (h : K (cpL σ 60 59 14)) : ∃ m, L_X8_bus_143 Q K m 0 σ := by
  have go : ∀ j k, k + j = 14 → L_X8_bus_143 Q K (j + 1) (nI k) (cpL σ 60 59 k) := by
    intro j
    induction j with
    | zero =>
      intro k hk
      have : k = 14 := by omega
      subst this
      exact ⟨fun _ => h, fun q => absurd (by decide) q⟩
    | succ j ih =>
      intro k hk
      unfold L_X8_bus_143
      rw [show (14 : Int32) = nI 14 from rfl, le_nI (by decide) (by omega), ix_nI (by omega), show nI k + 1 = nI (k + 1) from add_nI k 1]
      refine ⟨fun q => by omega, fun _ => ⟨vp_in_nI (by omega) (by decide), vp_in_nI (by omega) (by decide), ?_⟩⟩
      rintro _ rfl
      rw [cpL_step σ (by decide) k]
      exact ih (k + 1) (by omega)
  have := go 14 0 (by omega)
  rw [cpL_zero] at this
  exact ⟨15, this⟩
end CopyM
section BusM
variable {σ : Hp} {T : Tx} {N M : Nat} {Q : Int32 → Hp → Prop}
theorem m_busE {f pl : Nat} (hM : M ≤ 900) (hN : N ≤ M) (h5 : gI σ 8 0 5 = nI M) (hT : MT σ T N) (h : erO f pl = linsO T N (N + 1) p0N nm0 0 0) (hf : 1 ≤ f) (k : ∀ σ', (∀ a b c, ¬ (a = 8 ∧ b = 0 ∧ c ≠ 14 ∧ c ≠ 27) → a ≠ 54 → a ≠ 56 → a ≠ 58 → gI σ' a b c = gI σ a b c) → (∀ a b c, a ≠ 8 → a ≠ 60 → gL σ' a b c = gL σ a b c) → (∀ a, gR σ' a = gR σ a) → gI σ' 8 0 1 = 4 → gI σ' 8 0 2 = nI f → gI σ' 8 0 3 = nI pl → gI σ' 8 0 5 = 0 → Q (-1) σ') : S_X8_bus (nI N) σ Q := by
  unfold S_X8_bus S_X8_fresh
  rintro _ rfl _ rfl _ rfl
  rw [← stG_self 8 20 σ, sG, sG, sG]
  have e5 : gI (stG 8 20 σ (upd (upd (upd (fun k => gI σ 8 0 k) 0 0) 1 0) 3 (-1)) (gL σ 8 0 20)) 8 0 5 = nI M := by
    rw [gG, pk_un (by decide), pk_un (by decide), pk_un (by decide)]
    exact h5
  rw [e5]
  refine rng3 (a := 0) (b := M) (by omega) (Nat.zero_le _) (fun _ => b1 ?_) (fun q => absurd ⟨N, Nat.zero_le _, hN, rfl⟩ q)
  rintro _ rfl _ rfl
  rw [sG, sG]
  refine m_readAll (OK := fun o => o = linsO T N (N + 1) p0N nm0 0 0) (by omega) hT rfl (fun f' pl' o a1 a6 σ' r' w' hF e => ⟨fun z => absurd rfl z, fun _ => ?_⟩) (fun p' nm' o hl σ' r' w' hF hfr hI hD => ?_)
  · have e0 : erO f' pl' = erO f pl := o.trans h.symm
    have ef : f' = f := congrArg Prod.fst e0
    have ep : pl' = pl := congrArg (fun z => z.2.1) e0
    subst ef
    subst ep
    rintro _ rfl _ rfl
    rw [gG, e.2.1, sG, gG, pk_un (by decide), e.2.2, sG]
    unfold S_X8_no
    rintro _ rfl
    rw [sG]
    refine k _ (fun a b c q1 q2 q3 q4 => ?_) (fun a b c q1 q2 => ?_) (fun a => ?_) ?_ ?_ ?_ ?_
    · by_cases z : a = 8 ∧ b = 0
      · obtain ⟨rfl, rfl⟩ := z
        have hc : c = 14 ∨ c = 27 := by omega
        rw [gG]
        have ec := e.1 c (by omega)
        rcases hc with z | z <;> subst z
        · rw [pk_un (by decide), pk_un (by decide), pk_un (by decide), ec, pk_un (by decide), pk_un (by decide), pk_un (by decide), pk_un (by decide), pk_un (by decide)]
        · rw [pk_un (by decide), pk_un (by decide), pk_un (by decide), ec, pk_un (by decide), pk_un (by decide), pk_un (by decide), pk_un (by decide), pk_un (by decide)]
      · show (if a = 8 ∧ b = 0 then _ else gI σ' a b c) = _
        rw [if_neg z]
        exact hF.1 a b c q2 q3 q4
    · rw [gGLn q1]
      exact hF.2.1 a b c q2
    · exact hF.2.2 a
    · rw [gG, pk_us]
    · rw [gG, pk_un (by decide), pk_un (by decide), pk_us]
    · rw [gG, pk_un (by decide), pk_us]
    · rw [gG, pk_un (by decide), pk_un (by decide), pk_un (by decide), e.1 5 (by omega), pk_un (by decide), pk_us]
  · have e0 : (0, 0, p', nm') = erO f pl := o.trans h.symm
    have ef : 0 = f := congrArg Prod.fst e0
    omega
theorem m_busK {p' : PD} {nm' : Nat → Int64} (hM : M ≤ 900) (hN : N ≤ M) (h5 : gI σ 8 0 5 = nI M) (hT : MT σ T N) (h : ((0, 0, p', nm') : OT) = linsO T N (N + 1) p0N nm0 0 0) (k : ∀ σ', (∀ a b c, a ≠ 8 → a < 53 → gI σ' a b c = gI σ a b c) → (∀ a b c, a ≠ 8 → a < 59 → gL σ' a b c = gL σ a b c) → (∀ a, gR σ' a = gR σ a) → gI σ' 8 0 1 = 0 → gI σ' 8 0 2 = 0 → gI σ' 8 0 5 = 0 → gI σ' 8 0 14 = 1 → gI σ' 8 0 27 = 0 → PM σ' p' → (∀ e, e < nE p' → gL σ' 59 0 e = nm' e) → (∀ l, l < nL p' → gL σ' 59 0 (6 + l) = nm' (6 + l)) → ER (fun k => gI σ' 61 0 k) (s0N p') → Q (nI (nL p')) σ') : S_X8_bus (nI N) σ Q := by
  unfold S_X8_bus S_X8_fresh
  rintro _ rfl _ rfl _ rfl
  rw [← stG_self 8 20 σ, sG, sG, sG]
  have e5 : gI (stG 8 20 σ (upd (upd (upd (fun k => gI σ 8 0 k) 0 0) 1 0) 3 (-1)) (gL σ 8 0 20)) 8 0 5 = nI M := by
    rw [gG, pk_un (by decide), pk_un (by decide), pk_un (by decide)]
    exact h5
  rw [e5]
  refine rng3 (a := 0) (b := M) (by omega) (Nat.zero_le _) (fun _ => b1 ?_) (fun q => absurd ⟨N, Nat.zero_le _, hN, rfl⟩ q)
  rintro _ rfl _ rfl
  rw [sG, sG]
  refine m_readAll (OK := fun o => o = linsO T N (N + 1) p0N nm0 0 0) (by omega) hT rfl (fun f' pl' o a1 a6 σ' r' w' hF e => ?_) (fun p'' nm'' o hl σ' r' w' hF hfr hI hD => ?_)
  · have e0 : erO f' pl' = (0, 0, p', nm') := o.trans h.symm
    have ef : f' = 0 := congrArg Prod.fst e0
    omega
  · have e0 : ((0, 0, p'', nm'') : OT) = (0, 0, p', nm') := o.trans h.symm
    have ep : p'' = p' := congrArg (fun z : OT => z.2.2.1) e0
    have en : nm'' = nm' := congrArg (fun z : OT => z.2.2.2) e0
    subst ep
    subst en
    have hV := hI.1
    have h8 : nL p'' ≤ 8 := hV.2.2.2.2.2.2.1
    have h6 : nE p'' ≤ 6 := hV.2.2.2.2.2.1
    refine ⟨fun _ => m_cp65 (m_cp91 (m_cp117 (m_cp143 ?_))), fun z => absurd z (ne_m1 (by omega))⟩
    rintro _ rfl _ rfl
    obtain ⟨σa, hσa⟩ : ∃ σa, sI (sI (cpL (cpR (cpR (cpR (stG 8 20 σ' r' w') 54 53 7) 56 55 6) 58 57 56) 60 59 14) 8 0 14 1) 8 0 27 0 = σa := ⟨_, rfl⟩
    have aI : ∀ a b c, a ≠ 8 → gI σa a b c = if a = 57 ∧ b = 0 ∧ c < 56 then gI σ' 58 0 c else if a = 55 ∧ b = 0 ∧ c < 6 then gI σ' 56 0 c else if a = 53 ∧ b = 0 ∧ c < 7 then gI σ' 54 0 c else gI σ' a b c := by
      intro a b c q
      rw [← hσa, gI_sI, if_neg (fun z => q z.1), gI_sI, if_neg (fun z => q z.1)]
      show gI (cpR (cpR (cpR (stG 8 20 σ' r' w') 54 53 7) 56 55 6) 58 57 56) a b c = _
      rw [gcpR, gcpR, gcpR, gcpR, gcpR, gcpR, gcpR, gGn q, gGn (by decide), gGn (by decide), gGn (by decide)]
      simp
    have a8 : ∀ c, gI σa 8 0 c = if c = 27 then 0 else if c = 14 then 1 else r' c := by
      intro c
      have base : gI (cpL (cpR (cpR (cpR (stG 8 20 σ' r' w') 54 53 7) 56 55 6) 58 57 56) 60 59 14) 8 0 c = r' c := by
        show gI (cpR (cpR (cpR (stG 8 20 σ' r' w') 54 53 7) 56 55 6) 58 57 56) 8 0 c = r' c
        rw [gcpR, if_neg (by omega), gcpR, if_neg (by omega), gcpR, if_neg (by omega), gG]
      rw [← hσa, gI_sI, gI_sI, base]
      simp
    have aL : ∀ a b c, a ≠ 8 → gL σa a b c = if a = 59 ∧ b = 0 ∧ c < 14 then gL σ' 60 0 c else gL σ' a b c := by
      intro a b c q
      rw [← hσa]
      show gL (cpL (cpR (cpR (cpR (stG 8 20 σ' r' w') 54 53 7) 56 55 6) 58 57 56) 60 59 14) a b c = _
      rw [gcpL]
      show (if _ then gL (stG 8 20 σ' r' w') 60 0 c else gL (stG 8 20 σ' r' w') a b c) = _
      rw [gGLn q, gGLn (by decide)]
    have aR : ∀ a, gR σa a = gR σ' a := by
      intro a
      rw [← hσa]
      rfl
    rw [hσa, ← stM_self σa]
    have hPM : PM σa p'' := by
      obtain ⟨d1, d2, d3, d4, d5, d6⟩ := hD
      refine ⟨fun c hc => ?_, fun e he => ?_, fun l hl' j hj => ?_, fun l hl' i hi => ?_⟩
      · rw [aI 53 0 c (by decide), if_neg (by omega), if_neg (by omega), if_pos ⟨rfl, rfl, hc⟩]
        rcases Nat.lt_or_ge c 5 with z | z
        · exact d3 rfl c z
        · rcases Nat.lt_or_ge c 6 with z2 | z2
          · rw [show c = 5 by omega]; exact d1
          · rw [show c = 6 by omega]; exact d2
      · rw [aI 55 0 e (by decide), if_neg (by omega), if_pos ⟨rfl, rfl, by omega⟩]
        exact (d4 e he).1
      · rw [aI 57 0 _ (by decide), if_pos ⟨rfl, rfl, by omega⟩]
        exact (d5 l hl').1 j hj
      · have hr := (hV.2.2.2.2.2.2.2.2 l hl').2.2.2.2.2.2.1
        rw [aI 57 0 _ (by decide), if_pos ⟨rfl, rfl, by omega⟩]
        exact d6 l i hl' hi
    refine m_begins hV hPM (fun r2 hR => ⟨vp_in_nI (n := 6) (by decide) (by decide), ?_⟩)
    rw [show ix 6 = 6 from rfl, gM53, hPM.1 6 (by decide)]
    have bI : ∀ a b c, a ≠ 61 → gI (stM σa r2 (gI σa 8 0 28)) a b c = gI σa a b c := by
      intro a b c q
      show (if a = 61 ∧ b = 0 then r2 c else if a = 8 ∧ b = 0 ∧ c = 28 then σa.1 8 0 28 else σa.1 a b c) = σa.1 a b c
      rw [if_neg (fun z => q z.1)]
      by_cases z : a = 8 ∧ b = 0 ∧ c = 28
      · rw [if_pos z, z.1, z.2.1, z.2.2]
      · rw [if_neg z]
    have b8 : ∀ c, gI (stM σa r2 (gI σa 8 0 28)) 8 0 c = if c = 27 then 0 else if c = 14 then 1 else r' c := fun c => (bI 8 0 c (by decide)).trans (a8 c)
    refine k _ (fun a b c q1 q2 => ?_) (fun a b c q1 q2 => ?_) (fun a => ?_) ?_ ?_ ?_ ?_ ?_ ?_ (fun e he => ?_) (fun l hl' => ?_) ?_
    · rw [bI a b c (by omega), aI a b c q1, if_neg (by omega), if_neg (by omega), if_neg (by omega)]
      exact hF.1 a b c (by omega) (by omega) (by omega)
    · show gL σa a b c = gL σ a b c
      rw [aL a b c q1, if_neg (by omega)]
      exact hF.2.1 a b c (by omega)
    · show gR σa a = gR σ a
      rw [aR]
      exact hF.2.2 a
    · rw [b8, if_neg (by decide), if_neg (by decide), hfr 1 (by omega), pk_un (by decide), pk_un (by decide), pk_un (by decide), pk_us]
    · rw [b8, if_neg (by decide), if_neg (by decide), hfr 2 (by omega), pk_us]
    · rw [b8, if_neg (by decide), if_neg (by decide), hfr 5 (by omega), pk_un (by decide), pk_us]
    · rw [b8, if_neg (by decide), if_pos rfl]
    · rw [b8, if_pos rfl]
    · unfold PM at hPM ⊢
      simp only [gM53, gM55, gM57]
      exact hPM
    · show gL σa 59 0 e = nm'' e
      rw [aL 59 0 e (by decide), if_pos ⟨rfl, rfl, by omega⟩]
      exact (hD.2.2.2.1 e he).2
    · show gL σa 59 0 (6 + l) = nm'' (6 + l)
      rw [aL 59 0 _ (by decide), if_pos ⟨rfl, rfl, by omega⟩]
      exact (hD.2.2.2.2.1 l hl').2
    · exact hR.congr (fun _ _ _ => rfl) |> fun q f c hc => (gM61 σa r2 (gI σa 8 0 28) _).trans (q f c hc)
end BusM
