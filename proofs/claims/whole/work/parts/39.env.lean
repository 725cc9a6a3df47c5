/-! ===== the envelope on numbers ===== -/
/-- the links that go through a port, as a word -/
noncomputable def usN (p : PD) (pt : Nat) : Nat → Int32
  | 0 => 0
  | m + 1 => usN p pt m ||| cif (on p m pt) (1 <<< (nI m &&& 31)) 0
theorem usN_succ (p : PD) (pt m : Nat) : usN p pt (m + 1) = usN p pt m ||| cif (on p m pt) (1 <<< (nI m &&& 31)) 0 := rfl
def smN (f : Nat → Nat) : Nat → Nat
  | 0 => 0
  | m + 1 => smN f m + f m
theorem smN_succ (f : Nat → Nat) (m : Nat) : smN f (m + 1) = smN f m + f m := rfl
theorem smN_le {f : Nat → Nat} {B : Nat} : ∀ (m : Nat), (∀ l, l < m → f l ≤ B) → smN f m ≤ m * B
  | 0, _ => Nat.zero_le _
  | m + 1, h => by
    have h1 := smN_le m (fun l hl => h l (by omega))
    have h2 := h m (by omega)
    rw [smN_succ, Nat.succ_mul]
    omega
theorem smN_congr {f g : Nat → Nat} : ∀ (m : Nat), (∀ l, l < m → f l = g l) → smN f m = smN g m
  | 0, _ => rfl
  | m + 1, h => by rw [smN_succ, smN_succ, smN_congr m (fun l hl => h l (by omega)), h m (by omega)]
theorem smN_dvd {f : Nat → Nat} {d : Nat} : ∀ (m : Nat), (∀ l, l < m → d ∣ f l) → d ∣ smN f m
  | 0, _ => Nat.dvd_zero d
  | m + 1, h => by
    rw [smN_succ]
    exact Nat.dvd_add (smN_dvd m (fun l hl => h l (by omega))) (h m (by omega))
theorem smN_mono {f : Nat → Nat} {a : Nat} : ∀ (b : Nat), a ≤ b → smN f a ≤ smN f b
  | 0, h => by rw [show a = 0 by omega]; exact Nat.le_refl _
  | b + 1, h => by
    rcases Nat.lt_or_ge b a with q | q
    · rw [show a = b + 1 by omega]; exact Nat.le_refl _
    · have := smN_mono (f := f) b q
      rw [smN_succ]
      omega
theorem cif_le {c : Prop} {a B : Nat} (h : c → a ≤ B) : cif c a 0 ≤ B := by
  by_cases q : c
  · rw [cif_pos q]; exact h q
  · rw [cif_neg q]; exact Nat.zero_le _
theorem cif_dvd {c : Prop} {a d : Nat} (h : d ∣ a) : d ∣ cif c a 0 := by
  by_cases q : c
  · rw [cif_pos q]; exact h
  · rw [cif_neg q]; exact Nat.dvd_zero d
/-- the load of a port, in parts of 256 -/
noncomputable def ldN (p : PD) (pt : Nat) : Nat := smN (fun l => cif (on p l pt) (ln p l * (256 / gp p l)) 0) (nL p)
/-- the port ahead of one on a link's way -/
def ahN (p : PD) (l pt : Nat) : Nat := if pt < 12 then (if eS p (fr p l) = eS p (pt - 6) then fr p l else if eS p (fr p l) < eS p (pt - 6) then 11 + eS p (pt - 6) else 14 + eS p (pt - 6)) else if pt < 14 then (if eS p (fr p l) = pt - 12 then fr p l else pt - 1) else (if eS p (fr p l) = pt - 13 then fr p l else pt + 1)
theorem ahN_cases (p : PD) (l pt : Nat) : (pt < 12 ∧ eS p (fr p l) = eS p (pt - 6) ∧ ahN p l pt = fr p l) ∨ (pt < 12 ∧ eS p (fr p l) < eS p (pt - 6) ∧ ahN p l pt = 11 + eS p (pt - 6)) ∨ (pt < 12 ∧ eS p (pt - 6) < eS p (fr p l) ∧ ahN p l pt = 14 + eS p (pt - 6)) ∨ (12 ≤ pt ∧ pt < 14 ∧ eS p (fr p l) = pt - 12 ∧ ahN p l pt = fr p l) ∨ (12 ≤ pt ∧ pt < 14 ∧ eS p (fr p l) ≠ pt - 12 ∧ ahN p l pt = pt - 1) ∨ (14 ≤ pt ∧ eS p (fr p l) = pt - 13 ∧ ahN p l pt = fr p l) ∨ (14 ≤ pt ∧ eS p (fr p l) ≠ pt - 13 ∧ ahN p l pt = pt + 1) := by
  unfold ahN
  by_cases h1 : pt < 12
  · rw [if_pos h1]
    by_cases h2 : eS p (fr p l) = eS p (pt - 6)
    · rw [if_pos h2]; exact Or.inl ⟨h1, h2, rfl⟩
    · rw [if_neg h2]
      by_cases h3 : eS p (fr p l) < eS p (pt - 6)
      · rw [if_pos h3]; exact Or.inr (Or.inl ⟨h1, h3, rfl⟩)
      · rw [if_neg h3]; exact Or.inr (Or.inr (Or.inl ⟨h1, by omega, rfl⟩))
  · rw [if_neg h1]
    by_cases h4 : pt < 14
    · rw [if_pos h4]
      by_cases h2 : eS p (fr p l) = pt - 12
      · rw [if_pos h2]; exact Or.inr (Or.inr (Or.inr (Or.inl ⟨by omega, h4, h2, rfl⟩)))
      · rw [if_neg h2]; exact Or.inr (Or.inr (Or.inr (Or.inr (Or.inl ⟨by omega, h4, h2, rfl⟩))))
    · rw [if_neg h4]
      by_cases h2 : eS p (fr p l) = pt - 13
      · rw [if_pos h2]; exact Or.inr (Or.inr (Or.inr (Or.inr (Or.inr (Or.inl ⟨by omega, h2, rfl⟩)))))
      · rw [if_neg h2]; exact Or.inr (Or.inr (Or.inr (Or.inr (Or.inr (Or.inr ⟨by omega, h2, rfl⟩)))))
def dpN (pt : Nat) : Nat := if pt < 12 then 3 else if pt = 12 ∨ pt = 15 then 1 else 2
theorem dpN_cases (pt : Nat) : (pt < 12 ∧ dpN pt = 3) ∨ ((pt = 12 ∨ pt = 15) ∧ dpN pt = 1) ∨ (12 ≤ pt ∧ pt ≠ 12 ∧ pt ≠ 15 ∧ dpN pt = 2) := by
  unfold dpN
  by_cases h1 : pt < 12
  · rw [if_pos h1]; exact Or.inl ⟨h1, rfl⟩
  · rw [if_neg h1]
    by_cases h2 : pt = 12 ∨ pt = 15
    · rw [if_pos h2]; exact Or.inr (Or.inl ⟨h2, rfl⟩)
    · rw [if_neg h2]; exact Or.inr (Or.inr ⟨by omega, by omega, by omega, rfl⟩)
theorem wp_prev {p : PD} {l i k : Nat} (hV : PV p) (hl : l < nL p) (hi : i < rc p l) (hk : 1 ≤ k) (hw : k < wl p l i) : wp p l i (k - 1) = ahN p l (wp p l i k) ∧ 6 ≤ wp p l i k ∧ wp p l i k < 16 := by
  have hLV := hV.2.2.2.2.2.2.2.2 l hl
  have e1 := hV.2.2.2.2.2.2.2.1 _ hLV.1
  have hre := (hLV.2.2.2.2.2.2.2.1 i hi).1
  have e2 := hV.2.2.2.2.2.2.2.1 _ hre
  have h3 := hV.1
  have h6 := hV.2.2.2.2.2.1
  have hf := hLV.1
  have c1 := wl_cases p l i
  have c2 := wp_cases p l i k
  have c3 := wp_cases p l i (k - 1)
  have c4 := ahN_cases p l (wp p l i k)
  by_cases hk2 : k = wl p l i - 1
  · have e : wp p l i k = 6 + re p l i := by omega
    rw [e, show 6 + re p l i - 6 = re p l i by omega] at c4
    rw [e]
    refine ⟨?_, by omega, by omega⟩
    omega
  · refine ⟨?_, by omega, by omega⟩
    omega
theorem on_prev {p : PD} {l pt : Nat} (hV : PV p) (hl : l < nL p) (ho : on p l pt) (h6 : 6 ≤ pt) : pt < 16 ∧ on p l (ahN p l pt) ∧ (ahN p l pt < 6 ∨ (12 ≤ ahN p l pt ∧ ahN p l pt < 16 ∧ dpN (ahN p l pt) < dpN pt)) ∧ ∃ i k, i < rc p l ∧ 1 ≤ k ∧ k < wl p l i ∧ wp p l i k = pt ∧ wp p l i (k - 1) = ahN p l pt := by
  obtain ⟨i, k, hi, hk, e⟩ := ho
  have hLV := hV.2.2.2.2.2.2.2.2 l hl
  have hf := hLV.1
  have e1 := hV.2.2.2.2.2.2.2.1 _ hf
  have hre := (hLV.2.2.2.2.2.2.2.1 i hi).1
  have e2 := hV.2.2.2.2.2.2.2.1 _ hre
  have h3 := hV.1
  have hn6 := hV.2.2.2.2.2.1
  have c2 := wp_cases p l i k
  have k1 : 1 ≤ k := by omega
  have w := wp_prev hV hl hi k1 hk
  rw [e] at w
  refine ⟨w.2.2, ⟨i, k - 1, hi, by omega, w.1⟩, ?_, i, k, hi, k1, hk, e, w.1⟩
  have c1 := wl_cases p l i
  have c3 := wp_cases p l i (k - 1)
  have c5 := dpN_cases pt
  have c6 := dpN_cases (ahN p l pt)
  rw [w.1] at c3
  rw [e] at c2
  omega
theorem on_pt {p : PD} {l pt : Nat} (hV : PV p) (hl : l < nL p) (ho : on p l pt) : pt < 16 ∧ ((pt < 12 ∧ pt % 6 < nE p) ∨ (12 ≤ pt ∧ (pt - 12) % 2 + 1 < pSw p)) := by
  obtain ⟨i, k, hi, hk, e⟩ := ho
  have hLV := hV.2.2.2.2.2.2.2.2 l hl
  have hf := hLV.1
  have e1 := hV.2.2.2.2.2.2.2.1 _ hf
  have hre := (hLV.2.2.2.2.2.2.2.1 i hi).1
  have e2 := hV.2.2.2.2.2.2.2.1 _ hre
  have h3 := hV.1
  have hn6 := hV.2.2.2.2.2.1
  have c1 := wl_cases p l i
  have c2 := wp_cases p l i k
  omega
theorem on_lt6 {p : PD} {l pt : Nat} (hV : PV p) (hl : l < nL p) (ho : on p l pt) (h6 : pt < 6) : pt = fr p l := by
  obtain ⟨i, k, hi, hk, e⟩ := ho
  have hLV := hV.2.2.2.2.2.2.2.2 l hl
  have hre := (hLV.2.2.2.2.2.2.2.1 i hi).1
  have e2 := hV.2.2.2.2.2.2.2.1 _ hre
  have e1 := hV.2.2.2.2.2.2.2.1 _ hLV.1
  have c1 := wl_cases p l i
  have c2 := wp_cases p l i k
  omega
def b0N (p : PD) (l : Nat) : Nat := 16777216 * ln p l + 16777216 / gp p l * ln p l * pJit p
noncomputable def bFN (p : PD) : Nat → Nat → Nat → Nat
  | 0, _, _ => 0
  | d + 1, l, pt => if ahN p l pt < 6 then b0N p l else bFN p d l (ahN p l pt) + smN (fun l' => cif (on p l' (ahN p l pt)) (bFN p d l' (ahN p l pt)) 0) (nL p) / gp p l * ln p l
theorem bFN_succ (p : PD) (d l pt : Nat) : bFN p (d + 1) l pt = if ahN p l pt < 6 then b0N p l else bFN p d l (ahN p l pt) + smN (fun l' => cif (on p l' (ahN p l pt)) (bFN p d l' (ahN p l pt)) 0) (nL p) / gp p l * ln p l := rfl
noncomputable def buN (p : PD) (l pt : Nat) : Nat := bFN p (dpN pt) l pt
noncomputable def deN (p : PD) (pt : Nat) : Nat := if pt < 6 then smN (fun l => cif (on p l pt) (16777216 * ln p l) 0) (nL p) else smN (fun l => cif (on p l pt) (buN p l pt) 0) (nL p)
theorem bFN_stab {p : PD} (hV : PV p) : ∀ (d : Nat) (l pt : Nat), l < nL p → on p l pt → 6 ≤ pt → dpN pt ≤ d → bFN p d l pt = buN p l pt := by
  intro d
  induction d using Nat.strongRecOn with
  | ind d ih =>
    intro l pt hl ho h6 hd
    have c := dpN_cases pt
    obtain ⟨h16, ho2, hc, _⟩ := on_prev hV hl ho h6
    obtain ⟨e, he⟩ : ∃ e, dpN pt = e + 1 := ⟨dpN pt - 1, by omega⟩
    obtain ⟨d', rfl⟩ : ∃ d', d = d' + 1 := ⟨d - 1, by omega⟩
    unfold buN
    rw [he, bFN_succ, bFN_succ]
    by_cases q : ahN p l pt < 6
    · rw [if_pos q, if_pos q]
    · rw [if_neg q, if_neg q]
      have hc' := hc.resolve_left q
      have a : ∀ l', l' < nL p → on p l' (ahN p l pt) → bFN p d' l' (ahN p l pt) = bFN p e l' (ahN p l pt) := by
        intro l' hl' ho'
        rw [ih d' (by omega) l' _ hl' ho' (by omega) (by omega)]
        rcases Nat.lt_or_ge e (d' + 1) with q2 | q2
        · rw [ih e (by omega) l' _ hl' ho' (by omega) (by omega)]
        · omega
      rw [a l hl ho2, smN_congr (f := fun l' => cif (on p l' (ahN p l pt)) (bFN p d' l' (ahN p l pt)) 0) (g := fun l' => cif (on p l' (ahN p l pt)) (bFN p e l' (ahN p l pt)) 0) (nL p) (fun l' hl' => ?_)]
      by_cases ho' : on p l' (ahN p l pt)
      · rw [cif_pos ho', cif_pos ho']
        exact a l' hl' ho'
      · rw [cif_neg ho', cif_neg ho']
theorem buN_eq {p : PD} (hV : PV p) {l pt : Nat} (hl : l < nL p) (ho : on p l pt) (h6 : 6 ≤ pt) : (ahN p l pt < 6 → buN p l pt = b0N p l) ∧ (6 ≤ ahN p l pt → buN p l pt = buN p l (ahN p l pt) + deN p (ahN p l pt) / gp p l * ln p l) := by
  have c := dpN_cases pt
  obtain ⟨h16, ho2, hc, _⟩ := on_prev hV hl ho h6
  obtain ⟨e, he⟩ : ∃ e, dpN pt = e + 1 := ⟨dpN pt - 1, by omega⟩
  refine ⟨fun q => ?_, fun q => ?_⟩
  · unfold buN
    rw [he, bFN_succ, if_pos q]
  · have hc' := hc.resolve_left (by omega)
    have e1 : buN p l pt = bFN p (e + 1) l pt := by rw [← he]; rfl
    rw [e1, bFN_succ, if_neg (by omega), bFN_stab hV e l _ hl ho2 q (by omega)]
    have e2 : deN p (ahN p l pt) = smN (fun l' => cif (on p l' (ahN p l pt)) (buN p l' (ahN p l pt)) 0) (nL p) := by unfold deN; rw [if_neg (by omega)]
    rw [e2, smN_congr (f := fun l' => cif (on p l' (ahN p l pt)) (bFN p e l' (ahN p l pt)) 0) (g := fun l' => cif (on p l' (ahN p l pt)) (buN p l' (ahN p l pt)) 0) (nL p) (fun l' hl' => ?_)]
    by_cases ho' : on p l' (ahN p l pt)
    · rw [cif_pos ho', cif_pos ho']
      exact bFN_stab hV e l' _ hl' ho' q (by omega)
    · rw [cif_neg ho', cif_neg ho']
theorem gap_div {g s : Nat} (hg : isGap g) (h : 65536 ∣ s) : 256 ∣ s / g := by
  obtain ⟨q, rfl⟩ := h
  rcases hg with h | h | h | h | h | h <;> subst h <;> omega
theorem gap_256 {g : Nat} (hg : isGap g) : g ∣ 256 ∧ 8 ≤ g ∧ g ≤ 256 := by
  rcases hg with h | h | h | h | h | h <;> subst h <;> decide
theorem b0N_dvd {p : PD} {l : Nat} (hg : isGap (gp p l)) : 65536 ∣ b0N p l := by
  unfold b0N
  refine Nat.dvd_add (Nat.dvd_trans (by decide) (Nat.dvd_mul_right _ _)) ?_
  refine Nat.dvd_trans ?_ (Nat.dvd_mul_right _ _)
  refine Nat.dvd_trans ?_ (Nat.dvd_mul_right _ _)
  rcases hg with h | h | h | h | h | h <;> rw [h] <;> decide
theorem mul_div_le {a g b : Nat} (hg : 8 ≤ g) (hb : b ≤ 40) : a / g * b ≤ a * 5 := by
  have h1 : a / g ≤ a / 8 := Nat.div_le_div_left hg (by decide)
  have h2 : a / g * b ≤ a / 8 * 40 := Nat.mul_le_mul h1 hb
  omega
theorem b0N_le {p : PD} {l : Nat} (hV : PV p) (hl : l < nL p) : b0N p l ≤ 2040 * 16777216 := by
  have hLV := hV.2.2.2.2.2.2.2.2 l hl
  have hj := hV.2.2.1
  have h40 := hLV.2.2.2.1
  have h8 := (gap_256 hLV.2.1).2.1
  unfold b0N
  have h1 := mul_div_le (a := 16777216) h8 h40
  have h2 := Nat.mul_le_mul h1 hj
  omega
def cBd : Nat → Nat
  | 0 => 0
  | d + 1 => 2040 * 16777216 + 41 * cBd d
theorem bFN_le {p : PD} (hV : PV p) : ∀ (d l pt : Nat), l < nL p → bFN p d l pt ≤ cBd d := by
  intro d
  induction d with
  | zero => intro l pt _; exact Nat.le_refl _
  | succ d ih =>
    intro l pt hl
    have hLV := hV.2.2.2.2.2.2.2.2 l hl
    have h8 := (gap_256 hLV.2.1).2.1
    have hn8 := hV.2.2.2.2.2.2.1
    rw [bFN_succ]
    show _ ≤ 2040 * 16777216 + 41 * cBd d
    by_cases q : ahN p l pt < 6
    · rw [if_pos q]
      have := b0N_le hV hl
      omega
    · rw [if_neg q]
      have h1 := ih l (ahN p l pt) hl
      have h2 := smN_le (f := fun l' => cif (on p l' (ahN p l pt)) (bFN p d l' (ahN p l pt)) 0) (B := cBd d) (nL p) (fun l' hl' => cif_le (fun _ => ih l' _ hl'))
      have h3 := mul_div_le (a := smN (fun l' => cif (on p l' (ahN p l pt)) (bFN p d l' (ahN p l pt)) 0) (nL p)) h8 hLV.2.2.2.1
      have h4 : nL p * cBd d ≤ 8 * cBd d := Nat.mul_le_mul_right _ hn8
      omega
theorem dpN_le (pt : Nat) : dpN pt ≤ 3 := by
  have := dpN_cases pt
  omega
theorem buN_le {p : PD} (hV : PV p) {l : Nat} (pt : Nat) (hl : l < nL p) : buN p l pt ≤ 3514920 * 16777216 := by
  have h := bFN_le hV (dpN pt) l pt hl
  have c := dpN_cases pt
  have c1 : cBd 1 = 2040 * 16777216 := rfl
  have c2 : cBd 2 = 85680 * 16777216 := rfl
  have c3 : cBd 3 = 3514920 * 16777216 := rfl
  unfold buN
  rcases c with c | c | c
  · rw [c.2] at h ⊢; omega
  · rw [c.2] at h ⊢; omega
  · rw [c.2.2.2] at h ⊢; omega
theorem deN_le {p : PD} (hV : PV p) (pt : Nat) : deN p pt ≤ 28119360 * 16777216 := by
  have hn8 := hV.2.2.2.2.2.2.1
  unfold deN
  split
  · have h2 := smN_le (f := fun l => cif (on p l pt) (16777216 * ln p l) 0) (B := 671088640) (nL p) (fun l' hl' => cif_le (fun _ => by have := (hV.2.2.2.2.2.2.2.2 l' hl').2.2.2.1; omega))
    exact Nat.le_trans h2 (Nat.le_trans (Nat.mul_le_mul_right _ hn8) (Nat.le_of_ble_eq_true rfl))
  · have h2 := smN_le (f := fun l => cif (on p l pt) (buN p l pt) 0) (B := 3514920 * 16777216) (nL p) (fun l' hl' => cif_le (fun _ => buN_le hV pt hl'))
    exact Nat.le_trans h2 (Nat.le_trans (Nat.mul_le_mul_right _ hn8) (Nat.le_of_ble_eq_true rfl))
theorem bFN1_dvd {p : PD} (hV : PV p) {l : Nat} (pt : Nat) (hl : l < nL p) : 65536 ∣ bFN p 1 l pt := by
  have hg := (hV.2.2.2.2.2.2.2.2 l hl).2.1
  rw [bFN_succ]
  split
  · exact b0N_dvd hg
  · have : smN (fun l' => cif (on p l' (ahN p l pt)) (bFN p 0 l' (ahN p l pt)) 0) (nL p) = 0 := by
      have := smN_le (f := fun l' => cif (on p l' (ahN p l pt)) (bFN p 0 l' (ahN p l pt)) 0) (B := 0) (nL p) (fun l' hl' => cif_le (fun _ => Nat.le_refl _))
      omega
    rw [this, Nat.zero_div, Nat.zero_mul]
    exact Nat.dvd_zero _
theorem bFN2_dvd {p : PD} (hV : PV p) {l : Nat} (pt : Nat) (hl : l < nL p) : 256 ∣ bFN p 2 l pt := by
  have hg := (hV.2.2.2.2.2.2.2.2 l hl).2.1
  rw [bFN_succ]
  split
  · exact Nat.dvd_trans (by decide) (b0N_dvd hg)
  · refine Nat.dvd_add (Nat.dvd_trans (by decide) (bFN1_dvd hV _ hl)) (Nat.dvd_trans (gap_div hg ?_) (Nat.dvd_mul_right _ _))
    exact smN_dvd (nL p) (fun l' hl' => cif_dvd (bFN1_dvd hV _ hl'))
theorem deN_dvd {p : PD} (hV : PV p) {pt : Nat} (h12 : 12 ≤ pt) : 256 ∣ deN p pt := by
  unfold deN
  rw [if_neg (by omega)]
  refine smN_dvd (nL p) (fun l hl => cif_dvd ?_)
  unfold buN
  rcases dpN_cases pt with c | c | c
  · omega
  · rw [c.2]; exact Nat.dvd_trans (by decide) (bFN1_dvd hV _ hl)
  · rw [c.2.2.2]; exact bFN2_dvd hV _ hl
theorem per_gap {g a s : Nat} (hg : isGap g) (h : 256 ∣ s) : a * s / g = s / g * a := by
  rw [Nat.mul_div_assoc a (Nat.dvd_trans (gap_256 hg).1 h), Nat.mul_comm]
theorem ldN_le {p : PD} (hV : PV p) (pt : Nat) : ldN p pt ≤ 10240 := by
  have hn8 := hV.2.2.2.2.2.2.1
  have h2 := smN_le (f := fun l => cif (on p l pt) (ln p l * (256 / gp p l)) 0) (B := 1280) (nL p) (fun l hl => cif_le (fun _ => by
    have hLV := hV.2.2.2.2.2.2.2.2 l hl
    have h1 := Nat.mul_le_mul hLV.2.2.2.1 (Nat.div_le_div_left (a := 256) (gap_256 hLV.2.1).2.1 (by decide))
    omega))
  have h4 : nL p * 1280 ≤ 8 * 1280 := Nat.mul_le_mul_right _ hn8
  show smN _ _ ≤ _
  omega
/-- what the class's envelope holds -/
def EVn (σ : Hp) (p : PD) : Prop := (∀ pt, pt < 16 → gI σ 19 0 pt = nI (ldN p pt)) ∧ (∀ pt, pt < 16 → gL σ 20 0 pt = lN (deN p pt)) ∧ (∀ l pt, l < nL p → on p l pt → 6 ≤ pt → gL σ 21 0 (16 * l + pt) = lN (buN p l pt)) ∧ ((gI σ 1 0 0 = 0 ∧ ∀ pt, pt < 16 → ldN p pt ≤ 256) ∨ (gI σ 1 0 0 = 1 ∧ ∃ pt, pt < 16 ∧ 256 < ldN p pt))
