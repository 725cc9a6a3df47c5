/-! ===== pure layer: numbers ===== -/
theorem litI (n : Nat) : (OfNat.ofNat n : Int32) = nI (OfNat.ofNat n) := rfl
theorem ix_nI {k : Nat} (h : k < 2 ^ 31) : ix (nI k) = k := nI_clamp h
theorem vpin_nI {k N : Nat} (h : k < N) (hN : N < 2 ^ 31) : vp_in (nI k) N = True := eq_true (vp_in_nI h hN)
theorem le_nI {a b : Nat} (ha : a < 2 ^ 31) (hb : b < 2 ^ 31) : (nI a ≤ nI b) = (a ≤ b) := propext (nI_leI ha hb)
theorem lt_nI {a b : Nat} (ha : a < 2 ^ 31) (hb : b < 2 ^ 31) : (nI a < nI b) = (a < b) := propext (nI_ltI ha hb)
theorem eq_nI {a b : Nat} (ha : a < 2 ^ 31) (hb : b < 2 ^ 31) : (nI a = nI b) = (a = b) := propext (nI_eq ha hb)
theorem sub_nI {a b : Nat} (h : b ≤ a) : nI a - nI b = nI (a - b) := pk_sub h
theorem mul_nI (a b : Nat) : nI a * nI b = nI (a * b) := pk_mul a b
theorem add_nI (a b : Nat) : nI a + nI b = nI (a + b) := nI_add a b
theorem div_nI {a d : Nat} (ha : a < 2 ^ 31) (h0 : 0 < d) (hd : d < 2 ^ 31) : nI a / nI d = nI (a / d) := pk_div ha h0 hd
theorem rem_nI {a d : Nat} (ha : a < 2 ^ 31) (h0 : 0 < d) (hd : d < 2 ^ 31) : jrem (nI a) (nI d) = nI (a % d) := pk_rem ha h0 hd
theorem m1_nI {n : Nat} (h : 0 < n) : nI n + (-nI 1) = nI (n - 1) := sb_m1 h
theorem neg_toInt {b : Nat} (hb : b < 2 ^ 31) : (-nI b).toInt = -(b : Int) := sb_negT hb
theorem eq_neg {a b : Nat} (ha : a < 2 ^ 31) (hb : b < 2 ^ 31) (h0 : 0 < b) : (nI a = -nI b) = False := by
  refine eq_false (fun h => ?_)
  have := congrArg Int32.toInt h
  rw [nI_toInt ha, neg_toInt hb] at this
  omega
theorem le_neg {a b : Nat} (ha : a < 2 ^ 31) (hb : b < 2 ^ 31) (h0 : 0 < b) : (nI a ≤ -nI b) = False := by
  refine eq_false (fun h => ?_)
  rw [Int32.le_iff_toInt_le, nI_toInt ha, neg_toInt hb] at h
  omega
theorem neg_lt {a b : Nat} (ha : a < 2 ^ 31) (hb : b < 2 ^ 31) (h0 : 0 < b) : (-nI b < nI a) = True := by
  refine eq_true ?_
  rw [Int32.lt_iff_toInt_lt, nI_toInt ha, neg_toInt hb]
  omega
theorem neg_le {a b : Nat} (ha : a < 2 ^ 31) (hb : b < 2 ^ 31) : (-nI b ≤ nI a) = True := by
  refine eq_true ?_
  rw [Int32.le_iff_toInt_le, nI_toInt ha, neg_toInt hb]
  omega
/-! ===== reads and writes of the logical heap ===== -/
theorem gI_sI (σ : Hp) (n i k a b c : Nat) (v : Int32) : gI (sI σ n i k v) a b c = if a = n ∧ b = i ∧ c = k then v else gI σ a b c := rfl
theorem gL_sI (σ : Hp) (n i k a b c : Nat) (v : Int32) : gL (sI σ n i k v) a b c = gL σ a b c := rfl
theorem gR_sI (σ : Hp) (n i k r : Nat) (v : Int32) : gR (sI σ n i k v) r = gR σ r := rfl
theorem gL_sL (σ : Hp) (n i k a b c : Nat) (v : Int64) : gL (sL σ n i k v) a b c = if a = n ∧ b = i ∧ c = k then v else gL σ a b c := rfl
theorem gI_sL (σ : Hp) (n i k a b c : Nat) (v : Int64) : gI (sL σ n i k v) a b c = gI σ a b c := rfl
theorem gR_sL (σ : Hp) (n i k r : Nat) (v : Int64) : gR (sL σ n i k v) r = gR σ r := rfl
theorem gI_sR (σ : Hp) (r v a b c : Nat) : gI (sR σ r v) a b c = gI σ a b c := rfl
theorem gL_sR (σ : Hp) (r v a b c : Nat) : gL (sR σ r v) a b c = gL σ a b c := rfl
theorem gR_sR (σ : Hp) (r v a : Nat) : gR (sR σ r v) a = if a = r then v else gR σ a := rfl
/-! ===== the plan as numbers: p 0 k: is[k]; p 1 e: the end's switch; p 2: the links' rows ===== -/
abbrev PD : Type := Nat → Nat → Nat
def pSw (p : PD) : Nat := p 0 0
def pRoom (p : PD) : Nat := p 0 1
def pJit (p : PD) : Nat := p 0 2
def pWin (p : PD) : Nat := p 0 3
def pSkew (p : PD) : Nat := p 0 4
def nE (p : PD) : Nat := p 0 5
def nL (p : PD) : Nat := p 0 6
def eS (p : PD) (e : Nat) : Nat := p 1 e
def fr (p : PD) (l : Nat) : Nat := p 2 (7 * l)
def gp (p : PD) (l : Nat) : Nat := p 2 (7 * l + 1)
def ln (p : PD) (l : Nat) : Nat := p 2 (7 * l + 2)
def rc (p : PD) (l : Nat) : Nat := p 2 (7 * l + 3)
def re (p : PD) (l i : Nat) : Nat := p 2 (7 * l + 4 + i)
def isGap (g : Nat) : Prop := g = 8 ∨ g = 16 ∨ g = 32 ∨ g = 64 ∨ g = 128 ∨ g = 256
/-- a link's row is right -/
def LV (p : PD) (l : Nat) : Prop := fr p l < nE p ∧ isGap (gp p l) ∧ 1 ≤ ln p l ∧ ln p l ≤ 40 ∧ ln p l ≤ gp p l ∧ 1 ≤ rc p l ∧ rc p l ≤ 3 ∧ (∀ i, i < rc p l → re p l i < nE p ∧ re p l i ≠ fr p l) ∧ (∀ i j, i < rc p l → j < rc p l → re p l i = re p l j → i = j)
/-- a bus: all right; no bus: no ends, no links, no switches -/
def PV (p : PD) : Prop := pSw p ≤ 3 ∧ pRoom p ≤ 12 ∧ pJit p ≤ 400 ∧ pWin p ≤ 100 ∧ pSkew p ≤ 999 ∧ nE p ≤ 6 ∧ nL p ≤ 8 ∧ (∀ e, e < nE p → eS p e < pSw p) ∧ (∀ l, l < nL p → LV p l)
def cred (p : PD) (l : Nat) : Nat := ln p l * (gp p l + pJit p)
/-- the reference's rows hold the plan -/
def PM (σ : Hp) (p : PD) : Prop := (∀ k, k < 7 → gI σ 53 0 k = nI (p 0 k)) ∧ (∀ e, e < nE p → gI σ 55 0 e = nI (eS p e)) ∧ (∀ l, l < nL p → ∀ j, j < 4 → gI σ 57 0 (7 * l + j) = nI (p 2 (7 * l + j))) ∧ (∀ l, l < nL p → ∀ i, i < rc p l → gI σ 57 0 (7 * l + 4 + i) = nI (re p l i))
/-! ===== the state as numbers: s f k, f the name of the class's row ===== -/
abbrev SD : Type := Nat → Nat → Int32
def u (s : SD) (f k : Nat) (v : Int32) : SD := fun a b => if a = f ∧ b = k then v else s a b
theorem u_at (s : SD) (f k a b : Nat) (v : Int32) : u s f k v a b = if a = f ∧ b = k then v else s a b := rfl
theorem u_self (s : SD) (f k : Nat) (v : Int32) : u s f k v f k = v := if_pos ⟨rfl, rfl⟩
theorem u_nf (s : SD) {f k a b : Nat} (v : Int32) (h : a ≠ f) : u s f k v a b = s a b := if_neg (fun q => h q.1)
theorem u_nk (s : SD) {f k a b : Nat} (v : Int32) (h : b ≠ k) : u s f k v a b = s a b := if_neg (fun q => h q.2)
def itr {α : Type} (f : Nat → α → α) : Nat → α → α
  | 0, s => s
  | n + 1, s => f n (itr f n s)
def vlen (f : Nat) : Nat := match f with
  | 5 => 1 | 40 => 8 | 41 => 8 | 42 => 8 | 43 => 8 | 44 => 8 | 45 => 16 | 46 => 16 | 39 => 6 | 38 => 2 | 30 => 32 | 32 => 32 | 33 => 32 | 34 => 384 | 35 => 384 | 36 => 384
  | 9 => 24 | 10 => 24 | 11 => 24 | 12 => 24 | 13 => 24 | 14 => 24 | 15 => 24 | 16 => 24 | 17 => 48 | 18 => 240 | _ => 0
def mi (f k : Nat) : Nat := match f with
  | 5 => k | 40 => 1 + 5 * k | 41 => 1 + 5 * k + 1 | 42 => 1 + 5 * k + 2 | 43 => 1 + 5 * k + 3 | 44 => 1 + 5 * k + 4 | 45 => 41 + k | 46 => 57 + k | 39 => 73 + k | 38 => 79 + k
  | 30 => 81 + 39 * k | 32 => 81 + 39 * k + 1 | 33 => 81 + 39 * k + 2 | 34 => 81 + 39 * (k / 12) + 3 + 3 * (k % 12) | 35 => 81 + 39 * (k / 12) + 3 + 3 * (k % 12) + 1 | 36 => 81 + 39 * (k / 12) + 3 + 3 * (k % 12) + 2
  | 9 => 1329 + 20 * k | 10 => 1329 + 20 * k + 1 | 11 => 1329 + 20 * k + 2 | 12 => 1329 + 20 * k + 3 | 13 => 1329 + 20 * k + 4 | 14 => 1329 + 20 * k + 5 | 15 => 1329 + 20 * k + 6 | 16 => 1329 + 20 * k + 7
  | 17 => 1329 + 20 * (k / 2) + 8 + k % 2 | 18 => 1329 + 20 * (k / 10) + 10 + k % 10 | _ => 0
def mdec (x : Nat) : Nat × Nat :=
  if x < 1 then (5, x) else if x < 41 then (40 + (x - 1) % 5, (x - 1) / 5) else if x < 57 then (45, x - 41) else if x < 73 then (46, x - 57) else if x < 79 then (39, x - 73) else if x < 81 then (38, x - 79)
  else if x < 1329 then (let q := (x - 81) / 39; let j := (x - 81) % 39; if j = 0 then (30, q) else if j = 1 then (32, q) else if j = 2 then (33, q) else (34 + (j - 3) % 3, 12 * q + (j - 3) / 3))
  else (let e := (x - 1329) / 20; let j := (x - 1329) % 20; if j < 8 then (9 + j, e) else if j < 10 then (17, 2 * e + (j - 8)) else (18, 10 * e + (j - 10)))
theorem mdec_mi : ((List.range 47).all fun f => (List.range (vlen f)).all fun k => decide (mdec (mi f k) = (f, k)) && decide (mi f k < 1809)) = true := by decide +kernel
theorem vlen_big {f : Nat} (h : 47 ≤ f) : vlen f = 0 := by
  unfold vlen
  split <;> first | omega | rfl
theorem mi_dec {f k : Nat} (h : k < vlen f) : mdec (mi f k) = (f, k) ∧ mi f k < 1809 := by
  have hf : f < 47 := by
    rcases Nat.lt_or_ge f 47 with q | q
    · exact q
    · rw [vlen_big q] at h; omega
  have h1 := List.all_eq_true.mp (List.all_eq_true.mp mdec_mi f (List.mem_range.mpr hf)) k (List.mem_range.mpr h)
  rw [Bool.and_eq_true] at h1
  exact ⟨of_decide_eq_true h1.1, of_decide_eq_true h1.2⟩
theorem mi_inj {f k a b : Nat} (h : k < vlen f) (h2 : b < vlen a) (e : mi f k = mi a b) : f = a ∧ k = b := by
  have := (mi_dec h).1
  rw [e, (mi_dec h2).1] at this
  exact ⟨(congrArg Prod.fst this).symm, (congrArg Prod.snd this).symm⟩
/-- the reference's row holds the state -/
def ER (r : Nat → Int32) (s : SD) : Prop := ∀ f k, k < vlen f → r (mi f k) = s f k
theorem ER.set {r : Nat → Int32} {s : SD} (h : ER r s) {f k : Nat} (hk : k < vlen f) {x : Nat} (hx : x = mi f k) (v : Int32) : ER (upd r x v) (u s f k v) := by
  subst hx
  intro a b hb
  by_cases hab : a = f ∧ b = k
  · obtain ⟨rfl, rfl⟩ := hab
    rw [u_self]
    exact pk_us
  · have : mi a b ≠ mi f k := fun e => hab (mi_inj hb hk e)
    rw [pk_un this, u_at, if_neg hab]
    exact h a b hb
/-- the heap while the reference goes on: its row and its count of frames taken -/
def stM (σ : Hp) (r : Nat → Int32) (t : Int32) : Hp := (fun n i k => if n = 61 ∧ i = 0 then r k else if n = 8 ∧ i = 0 ∧ k = 28 then t else σ.1 n i k, σ.2)
theorem gM61 (σ : Hp) (r : Nat → Int32) (t : Int32) (k : Nat) : gI (stM σ r t) 61 0 k = r k := by simp [gI, stM]
theorem gM28 (σ : Hp) (r : Nat → Int32) (t : Int32) : gI (stM σ r t) 8 0 28 = t := by simp [gI, stM]
theorem gM53 (σ : Hp) (r : Nat → Int32) (t : Int32) (i k : Nat) : gI (stM σ r t) 53 i k = gI σ 53 i k := by simp [gI, stM]
theorem gM55 (σ : Hp) (r : Nat → Int32) (t : Int32) (i k : Nat) : gI (stM σ r t) 55 i k = gI σ 55 i k := by simp [gI, stM]
theorem gM57 (σ : Hp) (r : Nat → Int32) (t : Int32) (i k : Nat) : gI (stM σ r t) 57 i k = gI σ 57 i k := by simp [gI, stM]
theorem sM61 (σ : Hp) (r : Nat → Int32) (t : Int32) (k : Nat) (v : Int32) : sI (stM σ r t) 61 0 k v = stM σ (upd r k v) t := by
  refine Prod.ext ?_ rfl
  funext a b c
  show (if a = 61 ∧ b = 0 ∧ c = k then v else if a = 61 ∧ b = 0 then r c else _) = if a = 61 ∧ b = 0 then (if c = k then v else r c) else _
  by_cases h1 : a = 61 ∧ b = 0
  · obtain ⟨rfl, rfl⟩ := h1
    by_cases h2 : c = k <;> simp [h2]
  · rw [if_neg (fun q => h1 ⟨q.1, q.2.1⟩), if_neg h1, if_neg h1]
theorem sM28 (σ : Hp) (r : Nat → Int32) (t v : Int32) : sI (stM σ r t) 8 0 28 v = stM σ r v := by
  refine Prod.ext ?_ rfl
  funext a b c
  show (if a = 8 ∧ b = 0 ∧ c = 28 then v else if a = 61 ∧ b = 0 then r c else if a = 8 ∧ b = 0 ∧ c = 28 then t else _) = if a = 61 ∧ b = 0 then r c else if a = 8 ∧ b = 0 ∧ c = 28 then v else _
  by_cases h1 : a = 8 ∧ b = 0 ∧ c = 28
  · obtain ⟨rfl, rfl, rfl⟩ := h1
    simp
  · rw [if_neg h1, if_neg h1, if_neg h1]
theorem stM_self (σ : Hp) : stM σ (fun k => gI σ 61 0 k) (gI σ 8 0 28) = σ := by
  refine Prod.ext ?_ rfl
  funext a b c
  show (if a = 61 ∧ b = 0 then σ.1 61 0 c else if a = 8 ∧ b = 0 ∧ c = 28 then σ.1 8 0 28 else σ.1 a b c) = σ.1 a b c
  by_cases h1 : a = 61 ∧ b = 0
  · obtain ⟨rfl, rfl⟩ := h1
    simp
  · rw [if_neg h1]
    by_cases h2 : a = 8 ∧ b = 0 ∧ c = 28
    · obtain ⟨rfl, rfl, rfl⟩ := h2
      simp
    · rw [if_neg h2]
