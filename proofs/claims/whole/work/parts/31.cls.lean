/-! ===== the class: a state's rows, inst S ===== -/
def stN (n : Nat) : Bool := n == 0 || n == 3 || n == 5 || (decide (9 ≤ n) && decide (n ≤ 18)) || (decide (30 ≤ n) && decide (n ≤ 36)) || (decide (38 ≤ n) && decide (n ≤ 46))
def stX (σ : Hp) (S : Nat) (x : SD) : Hp := (fun n i k => if i = S ∧ stN n = true then x n k else σ.1 n i k, σ.2)
theorem sX {σ : Hp} {S : Nat} {x : SD} {n : Nat} (hn : stN n = true) (k : Nat) (v : Int32) : sI (stX σ S x) n S k v = stX σ S (u x n k v) := by
  refine Prod.ext ?_ rfl
  funext a b c
  show (if a = n ∧ b = S ∧ c = k then v else if b = S ∧ stN a = true then x a c else _) = if b = S ∧ stN a = true then (if a = n ∧ c = k then v else x a c) else _
  by_cases h1 : b = S ∧ stN a = true
  · rw [if_pos h1, if_pos h1]
    by_cases h2 : a = n ∧ c = k
    · rw [if_pos ⟨h2.1, h1.1, h2.2⟩, if_pos h2]
    · rw [if_neg (fun q => h2 ⟨q.1, q.2.2⟩), if_neg h2]
  · rw [if_neg h1, if_neg h1, if_neg (fun q => h1 ⟨q.2.1, by rw [q.1]; exact hn⟩)]
theorem gX {σ : Hp} {S : Nat} {x : SD} {n : Nat} (hn : stN n = true) (k : Nat) : gI (stX σ S x) n S k = x n k := if_pos ⟨rfl, hn⟩
theorem gXn {σ : Hp} {S : Nat} {x : SD} {n : Nat} (hn : stN n = false) (i k : Nat) : gI (stX σ S x) n i k = gI σ n i k := if_neg (fun q => by rw [hn] at q; exact absurd q.2 (by decide))
theorem gXi {σ : Hp} {S : Nat} {x : SD} {i : Nat} (hi : i ≠ S) (n k : Nat) : gI (stX σ S x) n i k = gI σ n i k := if_neg (fun q => hi q.1)
theorem gLX (σ : Hp) (S : Nat) (x : SD) (n i k : Nat) : gL (stX σ S x) n i k = gL σ n i k := rfl
theorem gRX (σ : Hp) (S : Nat) (x : SD) (r : Nat) : gR (stX σ S x) r = gR σ r := rfl
def xs (σ : Hp) (S : Nat) : SD := fun n k => gI σ n S k
theorem stX_self (σ : Hp) (S : Nat) : stX σ S (xs σ S) = σ := by
  refine Prod.ext ?_ rfl
  funext a b c
  show (if b = S ∧ stN a = true then σ.1 a S c else σ.1 a b c) = σ.1 a b c
  by_cases h : b = S ∧ stN a = true
  · rw [if_pos h, h.1]
  · rw [if_neg h]
theorem stX_stX (σ : Hp) (S : Nat) (x y : SD) : stX (stX σ S x) S y = stX σ S y := by
  refine Prod.ext ?_ rfl
  funext a b c
  show (if b = S ∧ stN a = true then y a c else if b = S ∧ stN a = true then x a c else _) = if b = S ∧ stN a = true then y a c else _
  by_cases h : b = S ∧ stN a = true
  · rw [if_pos h, if_pos h]
  · rw [if_neg h, if_neg h, if_neg h]
theorem gX0 (σ : Hp) (S : Nat) (x : SD) (k : Nat) : gI (stX σ S x) 0 S k = x 0 k := gX rfl k
theorem sX0 (σ : Hp) (S : Nat) (x : SD) (k : Nat) (v : Int32) : sI (stX σ S x) 0 S k v = stX σ S (u x 0 k v) := sX rfl k v
theorem gX3 (σ : Hp) (S : Nat) (x : SD) (k : Nat) : gI (stX σ S x) 3 S k = x 3 k := gX rfl k
theorem sX3 (σ : Hp) (S : Nat) (x : SD) (k : Nat) (v : Int32) : sI (stX σ S x) 3 S k v = stX σ S (u x 3 k v) := sX rfl k v
theorem gX5 (σ : Hp) (S : Nat) (x : SD) (k : Nat) : gI (stX σ S x) 5 S k = x 5 k := gX rfl k
theorem sX5 (σ : Hp) (S : Nat) (x : SD) (k : Nat) (v : Int32) : sI (stX σ S x) 5 S k v = stX σ S (u x 5 k v) := sX rfl k v
theorem gX9 (σ : Hp) (S : Nat) (x : SD) (k : Nat) : gI (stX σ S x) 9 S k = x 9 k := gX rfl k
theorem sX9 (σ : Hp) (S : Nat) (x : SD) (k : Nat) (v : Int32) : sI (stX σ S x) 9 S k v = stX σ S (u x 9 k v) := sX rfl k v
theorem gX10 (σ : Hp) (S : Nat) (x : SD) (k : Nat) : gI (stX σ S x) 10 S k = x 10 k := gX rfl k
theorem sX10 (σ : Hp) (S : Nat) (x : SD) (k : Nat) (v : Int32) : sI (stX σ S x) 10 S k v = stX σ S (u x 10 k v) := sX rfl k v
theorem gX11 (σ : Hp) (S : Nat) (x : SD) (k : Nat) : gI (stX σ S x) 11 S k = x 11 k := gX rfl k
theorem sX11 (σ : Hp) (S : Nat) (x : SD) (k : Nat) (v : Int32) : sI (stX σ S x) 11 S k v = stX σ S (u x 11 k v) := sX rfl k v
theorem gX12 (σ : Hp) (S : Nat) (x : SD) (k : Nat) : gI (stX σ S x) 12 S k = x 12 k := gX rfl k
theorem sX12 (σ : Hp) (S : Nat) (x : SD) (k : Nat) (v : Int32) : sI (stX σ S x) 12 S k v = stX σ S (u x 12 k v) := sX rfl k v
theorem gX13 (σ : Hp) (S : Nat) (x : SD) (k : Nat) : gI (stX σ S x) 13 S k = x 13 k := gX rfl k
theorem sX13 (σ : Hp) (S : Nat) (x : SD) (k : Nat) (v : Int32) : sI (stX σ S x) 13 S k v = stX σ S (u x 13 k v) := sX rfl k v
theorem gX14 (σ : Hp) (S : Nat) (x : SD) (k : Nat) : gI (stX σ S x) 14 S k = x 14 k := gX rfl k
theorem sX14 (σ : Hp) (S : Nat) (x : SD) (k : Nat) (v : Int32) : sI (stX σ S x) 14 S k v = stX σ S (u x 14 k v) := sX rfl k v
theorem gX15 (σ : Hp) (S : Nat) (x : SD) (k : Nat) : gI (stX σ S x) 15 S k = x 15 k := gX rfl k
theorem sX15 (σ : Hp) (S : Nat) (x : SD) (k : Nat) (v : Int32) : sI (stX σ S x) 15 S k v = stX σ S (u x 15 k v) := sX rfl k v
theorem gX16 (σ : Hp) (S : Nat) (x : SD) (k : Nat) : gI (stX σ S x) 16 S k = x 16 k := gX rfl k
theorem sX16 (σ : Hp) (S : Nat) (x : SD) (k : Nat) (v : Int32) : sI (stX σ S x) 16 S k v = stX σ S (u x 16 k v) := sX rfl k v
theorem gX17 (σ : Hp) (S : Nat) (x : SD) (k : Nat) : gI (stX σ S x) 17 S k = x 17 k := gX rfl k
theorem sX17 (σ : Hp) (S : Nat) (x : SD) (k : Nat) (v : Int32) : sI (stX σ S x) 17 S k v = stX σ S (u x 17 k v) := sX rfl k v
theorem gX18 (σ : Hp) (S : Nat) (x : SD) (k : Nat) : gI (stX σ S x) 18 S k = x 18 k := gX rfl k
theorem sX18 (σ : Hp) (S : Nat) (x : SD) (k : Nat) (v : Int32) : sI (stX σ S x) 18 S k v = stX σ S (u x 18 k v) := sX rfl k v
theorem gX30 (σ : Hp) (S : Nat) (x : SD) (k : Nat) : gI (stX σ S x) 30 S k = x 30 k := gX rfl k
theorem sX30 (σ : Hp) (S : Nat) (x : SD) (k : Nat) (v : Int32) : sI (stX σ S x) 30 S k v = stX σ S (u x 30 k v) := sX rfl k v
theorem gX31 (σ : Hp) (S : Nat) (x : SD) (k : Nat) : gI (stX σ S x) 31 S k = x 31 k := gX rfl k
theorem sX31 (σ : Hp) (S : Nat) (x : SD) (k : Nat) (v : Int32) : sI (stX σ S x) 31 S k v = stX σ S (u x 31 k v) := sX rfl k v
theorem gX32 (σ : Hp) (S : Nat) (x : SD) (k : Nat) : gI (stX σ S x) 32 S k = x 32 k := gX rfl k
theorem sX32 (σ : Hp) (S : Nat) (x : SD) (k : Nat) (v : Int32) : sI (stX σ S x) 32 S k v = stX σ S (u x 32 k v) := sX rfl k v
theorem gX33 (σ : Hp) (S : Nat) (x : SD) (k : Nat) : gI (stX σ S x) 33 S k = x 33 k := gX rfl k
theorem sX33 (σ : Hp) (S : Nat) (x : SD) (k : Nat) (v : Int32) : sI (stX σ S x) 33 S k v = stX σ S (u x 33 k v) := sX rfl k v
theorem gX34 (σ : Hp) (S : Nat) (x : SD) (k : Nat) : gI (stX σ S x) 34 S k = x 34 k := gX rfl k
theorem sX34 (σ : Hp) (S : Nat) (x : SD) (k : Nat) (v : Int32) : sI (stX σ S x) 34 S k v = stX σ S (u x 34 k v) := sX rfl k v
theorem gX35 (σ : Hp) (S : Nat) (x : SD) (k : Nat) : gI (stX σ S x) 35 S k = x 35 k := gX rfl k
theorem sX35 (σ : Hp) (S : Nat) (x : SD) (k : Nat) (v : Int32) : sI (stX σ S x) 35 S k v = stX σ S (u x 35 k v) := sX rfl k v
theorem gX36 (σ : Hp) (S : Nat) (x : SD) (k : Nat) : gI (stX σ S x) 36 S k = x 36 k := gX rfl k
theorem sX36 (σ : Hp) (S : Nat) (x : SD) (k : Nat) (v : Int32) : sI (stX σ S x) 36 S k v = stX σ S (u x 36 k v) := sX rfl k v
theorem gX38 (σ : Hp) (S : Nat) (x : SD) (k : Nat) : gI (stX σ S x) 38 S k = x 38 k := gX rfl k
theorem sX38 (σ : Hp) (S : Nat) (x : SD) (k : Nat) (v : Int32) : sI (stX σ S x) 38 S k v = stX σ S (u x 38 k v) := sX rfl k v
theorem gX39 (σ : Hp) (S : Nat) (x : SD) (k : Nat) : gI (stX σ S x) 39 S k = x 39 k := gX rfl k
theorem sX39 (σ : Hp) (S : Nat) (x : SD) (k : Nat) (v : Int32) : sI (stX σ S x) 39 S k v = stX σ S (u x 39 k v) := sX rfl k v
theorem gX40 (σ : Hp) (S : Nat) (x : SD) (k : Nat) : gI (stX σ S x) 40 S k = x 40 k := gX rfl k
theorem sX40 (σ : Hp) (S : Nat) (x : SD) (k : Nat) (v : Int32) : sI (stX σ S x) 40 S k v = stX σ S (u x 40 k v) := sX rfl k v
theorem gX41 (σ : Hp) (S : Nat) (x : SD) (k : Nat) : gI (stX σ S x) 41 S k = x 41 k := gX rfl k
theorem sX41 (σ : Hp) (S : Nat) (x : SD) (k : Nat) (v : Int32) : sI (stX σ S x) 41 S k v = stX σ S (u x 41 k v) := sX rfl k v
theorem gX42 (σ : Hp) (S : Nat) (x : SD) (k : Nat) : gI (stX σ S x) 42 S k = x 42 k := gX rfl k
theorem sX42 (σ : Hp) (S : Nat) (x : SD) (k : Nat) (v : Int32) : sI (stX σ S x) 42 S k v = stX σ S (u x 42 k v) := sX rfl k v
theorem gX43 (σ : Hp) (S : Nat) (x : SD) (k : Nat) : gI (stX σ S x) 43 S k = x 43 k := gX rfl k
theorem sX43 (σ : Hp) (S : Nat) (x : SD) (k : Nat) (v : Int32) : sI (stX σ S x) 43 S k v = stX σ S (u x 43 k v) := sX rfl k v
theorem gX44 (σ : Hp) (S : Nat) (x : SD) (k : Nat) : gI (stX σ S x) 44 S k = x 44 k := gX rfl k
theorem sX44 (σ : Hp) (S : Nat) (x : SD) (k : Nat) (v : Int32) : sI (stX σ S x) 44 S k v = stX σ S (u x 44 k v) := sX rfl k v
theorem gX45 (σ : Hp) (S : Nat) (x : SD) (k : Nat) : gI (stX σ S x) 45 S k = x 45 k := gX rfl k
theorem sX45 (σ : Hp) (S : Nat) (x : SD) (k : Nat) (v : Int32) : sI (stX σ S x) 45 S k v = stX σ S (u x 45 k v) := sX rfl k v
theorem gX46 (σ : Hp) (S : Nat) (x : SD) (k : Nat) : gI (stX σ S x) 46 S k = x 46 k := gX rfl k
theorem sX46 (σ : Hp) (S : Nat) (x : SD) (k : Nat) (v : Int32) : sI (stX σ S x) 46 S k v = stX σ S (u x 46 k v) := sX rfl k v
theorem gX1 (σ : Hp) (S : Nat) (x : SD) (i k : Nat) : gI (stX σ S x) 1 i k = gI σ 1 i k := gXn rfl i k
theorem gX2 (σ : Hp) (S : Nat) (x : SD) (i k : Nat) : gI (stX σ S x) 2 i k = gI σ 2 i k := gXn rfl i k
theorem gX4 (σ : Hp) (S : Nat) (x : SD) (i k : Nat) : gI (stX σ S x) 4 i k = gI σ 4 i k := gXn rfl i k
theorem gX6 (σ : Hp) (S : Nat) (x : SD) (i k : Nat) : gI (stX σ S x) 6 i k = gI σ 6 i k := gXn rfl i k
theorem gX7 (σ : Hp) (S : Nat) (x : SD) (i k : Nat) : gI (stX σ S x) 7 i k = gI σ 7 i k := gXn rfl i k
theorem gX8 (σ : Hp) (S : Nat) (x : SD) (i k : Nat) : gI (stX σ S x) 8 i k = gI σ 8 i k := gXn rfl i k
theorem gX19 (σ : Hp) (S : Nat) (x : SD) (i k : Nat) : gI (stX σ S x) 19 i k = gI σ 19 i k := gXn rfl i k
theorem gX22 (σ : Hp) (S : Nat) (x : SD) (i k : Nat) : gI (stX σ S x) 22 i k = gI σ 22 i k := gXn rfl i k
theorem gX25 (σ : Hp) (S : Nat) (x : SD) (i k : Nat) : gI (stX σ S x) 25 i k = gI σ 25 i k := gXn rfl i k
theorem gX26 (σ : Hp) (S : Nat) (x : SD) (i k : Nat) : gI (stX σ S x) 26 i k = gI σ 26 i k := gXn rfl i k
theorem gX27 (σ : Hp) (S : Nat) (x : SD) (i k : Nat) : gI (stX σ S x) 27 i k = gI σ 27 i k := gXn rfl i k
theorem gX28 (σ : Hp) (S : Nat) (x : SD) (i k : Nat) : gI (stX σ S x) 28 i k = gI σ 28 i k := gXn rfl i k
theorem gX29 (σ : Hp) (S : Nat) (x : SD) (i k : Nat) : gI (stX σ S x) 29 i k = gI σ 29 i k := gXn rfl i k
theorem gX37 (σ : Hp) (S : Nat) (x : SD) (i k : Nat) : gI (stX σ S x) 37 i k = gI σ 37 i k := gXn rfl i k
theorem gX47 (σ : Hp) (S : Nat) (x : SD) (i k : Nat) : gI (stX σ S x) 47 i k = gI σ 47 i k := gXn rfl i k
theorem gX48 (σ : Hp) (S : Nat) (x : SD) (i k : Nat) : gI (stX σ S x) 48 i k = gI σ 48 i k := gXn rfl i k
theorem gX49 (σ : Hp) (S : Nat) (x : SD) (i k : Nat) : gI (stX σ S x) 49 i k = gI σ 49 i k := gXn rfl i k
theorem gX50 (σ : Hp) (S : Nat) (x : SD) (i k : Nat) : gI (stX σ S x) 50 i k = gI σ 50 i k := gXn rfl i k
theorem gX51 (σ : Hp) (S : Nat) (x : SD) (i k : Nat) : gI (stX σ S x) 51 i k = gI σ 51 i k := gXn rfl i k
def PX (σ : Hp) (P : Nat) (p : PD) : Prop := gI σ 2 P 0 = nI (pSw p) ∧ gI σ 2 P 1 = nI (pRoom p) ∧ gI σ 2 P 2 = nI (pJit p) ∧ gI σ 2 P 3 = nI (pWin p) ∧ gI σ 2 P 4 = nI (pSkew p) ∧ gI σ 2 P 5 = nI (nE p) ∧ gI σ 2 P 6 = nI (nL p) ∧
  (∀ e, e < nE p → gI σ 22 P e = nI (eS p e)) ∧ (∀ l, l < nL p → gI σ 25 P l = nI (fr p l) ∧ gI σ 26 P l = nI (gp p l) ∧ gI σ 27 P l = nI (ln p l) ∧ gI σ 28 P l = nI (rc p l)) ∧ (∀ l i, l < nL p → i < rc p l → gI σ 29 P (3 * l + i) = nI (re p l i))
def bitI (x : Int32) (b : Nat) : Prop := ((x >>> (nI b &&& 31)) &&& 1) = 1
def OW (σ : Hp) (P : Nat) (p : PD) : Prop := ∀ l fp to, l < nL p → fp < 16 → to < 16 → (bitI (gI σ 50 P (16 * l + fp)) to ↔ ∃ j k, j < rc p l ∧ k + 1 < wl p l j ∧ wp p l j k = fp ∧ wp p l j (k + 1) = to)
def pln (f : Nat) : Bool := f == 5 || (decide (9 ≤ f) && decide (f ≤ 17)) || f == 30 || f == 32 || f == 33 || (decide (38 ≤ f) && decide (f ≤ 46))
/-- how many frames are in the first n ports -/
def cs (s : SD) : Nat → Nat
  | 0 => 0
  | n + 1 => cs s n + ix (s 30 n)
def EXr (x s : SD) : Prop := ∀ q, q < 32 → ∃ a, a < 12 ∧ x 31 q = nI a ∧ ∀ c, s 30 q = nI c → c ≤ 12 → ∀ i, i < c → x 34 (12 * q + (a + i) % 12) = s 34 (12 * q + i) ∧ x 35 (12 * q + (a + i) % 12) = s 35 (12 * q + i) ∧ x 36 (12 * q + (a + i) % 12) = s 36 (12 * q + i)
def EXm (x s : SD) : Prop := ∀ e, e < 24 → ∀ c, s 9 e = nI c → c < 2 ^ 31 → ∀ k, k < 10 → k < c → x 18 (10 * e + (c - 1 - k) % 10) = s 18 (10 * e + k)
/-- cells of links that aren't there may differ -/
def lvk (p : PD) (f k : Nat) : Bool := match f with
  | 44 => decide (k < nL p) | 45 => decide (k % 8 < nL p) | 12 => decide (k < 3 * nL p) | 13 => decide (k < 3 * nL p) | 14 => decide (k < 3 * nL p) | 15 => decide (k < 3 * nL p) | 16 => decide (k < 3 * nL p) | 17 => decide (k < 6 * nL p) | _ => true
def plk (p : PD) (f k : Nat) : Bool := pln f && lvk p f k
theorem plk_pln {p : PD} {f k : Nat} (h : plk p f k = true) : pln f = true := (Bool.and_eq_true _ _ ▸ h : pln f = true ∧ lvk p f k = true).1
theorem lv3 {p : PD} {k : Nat} (h : k < 3 * nL p) : plk p 12 k = true ∧ plk p 13 k = true ∧ plk p 14 k = true ∧ plk p 15 k = true ∧ plk p 16 k = true := ⟨decide_eq_true h, decide_eq_true h, decide_eq_true h, decide_eq_true h, decide_eq_true h⟩
theorem lv17 {p : PD} {k : Nat} (h : k < 6 * nL p) : plk p 17 k = true := decide_eq_true h
theorem lv44 {p : PD} {k : Nat} (h : k < nL p) : plk p 44 k = true := decide_eq_true h
theorem lv45 {p : PD} {k : Nat} (h : k % 8 < nL p) : plk p 45 k = true := decide_eq_true h
def EX (p : PD) (x s : SD) : Prop := (∀ f k, plk p f k = true → k < vlen f → x f k = s f k) ∧ x 0 0 = s 0 0 ∧ EXr x s ∧ EXm x s ∧ x 3 0 = nI (cs s 32)
theorem cs_congr {s s' : SD} : ∀ (n : Nat), (∀ q, q < n → s' 30 q = s 30 q) → cs s' n = cs s n
  | 0, _ => rfl
  | n + 1, h => by
    show cs s' n + ix (s' 30 n) = cs s n + ix (s 30 n)
    rw [cs_congr n (fun q hq => h q (Nat.lt_succ_of_lt hq)), h n (Nat.lt_succ_self n)]
theorem cs_one {s s' : SD} {q : Nat} (hq : ∀ q', q' ≠ q → s' 30 q' = s 30 q') : ∀ (n : Nat), q < n → cs s' n + ix (s 30 q) = cs s n + ix (s' 30 q)
  | 0, h => absurd h (Nat.not_lt_zero _)
  | n + 1, h => by
    show cs s' n + ix (s' 30 n) + ix (s 30 q) = cs s n + ix (s 30 n) + ix (s' 30 q)
    by_cases e : q = n
    · subst e
      rw [cs_congr q (fun q' h' => hq q' (by omega))]
      omega
    · have := cs_one hq n (by omega)
      rw [hq n (Ne.symm e)]
      omega
theorem pln_ne {f : Nat} (h : pln f = true) : f ≠ 34 ∧ f ≠ 35 ∧ f ≠ 36 ∧ f ≠ 31 ∧ f ≠ 18 ∧ f ≠ 3 ∧ f ≠ 0 := by
  refine ⟨?_, ?_, ?_, ?_, ?_, ?_, ?_⟩ <;> (rintro rfl; exact absurd h (by decide))
theorem EX.set {p : PD} {x s : SD} (h : EX p x s) {f : Nat} (hf : pln f = true) (h30 : f ≠ 30) (h9 : f ≠ 9) (k : Nat) (v : Int32) : EX p (u x f k v) (u s f k v) := by
  obtain ⟨n1, n2, n3, n4, n5, n6, n7⟩ := pln_ne hf
  obtain ⟨h1, h2, h3, h4, h5⟩ := h
  refine ⟨fun a b ha hb => ?_, ?_, fun q hq => ?_, fun e he c hc hc2 k' hk' hk2 => ?_, ?_⟩
  · rw [u_at, u_at, h1 a b ha hb]
  · rw [u_nf _ _ (Ne.symm n7), u_nf _ _ (Ne.symm n7)]; exact h2
  · obtain ⟨a, a1, a2, a3⟩ := h3 q hq
    refine ⟨a, a1, by rw [u_nf _ _ (Ne.symm n4)]; exact a2, fun c hc hc2 i hi => ?_⟩
    rw [u_nf _ _ (Ne.symm h30)] at hc
    rw [u_nf _ _ (Ne.symm n1), u_nf _ _ (Ne.symm n1), u_nf _ _ (Ne.symm n2), u_nf _ _ (Ne.symm n2), u_nf _ _ (Ne.symm n3), u_nf _ _ (Ne.symm n3)]
    exact a3 c hc hc2 i hi
  · rw [u_nf _ _ (Ne.symm h9)] at hc
    rw [u_nf _ _ (Ne.symm n5), u_nf _ _ (Ne.symm n5)]
    exact h4 e he c hc hc2 k' hk' hk2
  · rw [u_nf _ _ (Ne.symm n6), cs_congr 32 (fun q _ => u_nf _ _ (Ne.symm h30))]
    exact h5
theorem EX.xcongr {p : PD} {x x' s : SD} (h : EX p x s) (he : ∀ f k, x' f k = x f k) : EX p x' s := by
  have : x' = x := by funext f k; exact he f k
  rw [this]; exact h
noncomputable def tAdd (q : Nat) (l num born : Int32) (s : SD) : SD := u (u (u (u s 34 (12 * q + ix (s 30 q)) l) 35 (12 * q + ix (s 30 q)) num) 36 (12 * q + ix (s 30 q)) born) 30 q (s 30 q + 1)
section ClsOps
variable {σ : Hp} {p : PD} {S P : Nat} {x s : SD}
theorem c_admit {q c : Nat} {l num born : Int32} {rm : Int32} {Q : Int32 → Hp → Prop} (hr12 : pRoom p ≤ 12) (hE : EX p x s) (hq : q < 32) (hc : s 30 q = nI c) (hc12 : c ≤ pRoom p) (hrm : rm = nI (pRoom p))
    (k0 : s 30 q = nI (pRoom p) → Q 0 (stX σ S x)) (k1 : ¬ s 30 q = nI (pRoom p) → ∀ x', EX p x' (tAdd q l num born s) → (∀ f z, f = 34 ∨ f = 35 ∨ f = 36 → z / 12 ≠ q → x' f z = x f z) → (∀ f z, pln f = true → f ≠ 30 → x' f z = x f z) → Q 1 (stX σ S x')) : S_X3_admits S rm (nI q) l num born (stX σ S x) Q := by
  subst hrm
  have e30 : x 30 q = nI c := (hE.1 30 q rfl hq).trans hc
  obtain ⟨a, a1, a2, a3⟩ := hE.2.2.1 q hq
  unfold S_X3_admits S_X3_slot
  simp (disch := omega) only [litI, mul_nI, add_nI, Nat.add_zero, Nat.zero_add, Nat.mul_zero, Nat.zero_mul, Nat.mul_one, vpin_nI, ix_nI, true_and, and_true, forall_eq, gX0, sX0, gX3, sX3, gX5, sX5, gX9, sX9, gX10, sX10, gX11, sX11, gX12, sX12, gX13, sX13, gX14, sX14, gX15, sX15, gX16, sX16, gX17, sX17, gX18, sX18, gX30, sX30, gX31, sX31, gX32, sX32, gX33, sX33, gX34, sX34, gX35, sX35, gX36, sX36, gX38, sX38, gX39, sX39, gX40, sX40, gX41, sX41, gX42, sX42, gX43, sX43, gX44, sX44, gX45, sX45, gX46, sX46, gX1, gX2, gX4, gX6, gX7, gX8, gX19, gX22, gX25, gX26, gX27, gX28, gX29, gX37, gX47, gX48, gX49, gX50, gX51, e30, a2, lt_nI, rem_nI]
  refine ⟨fun h => ?_, fun h => ?_⟩
  · have hne : ¬ s 30 q = nI (pRoom p) := by
      rw [hc, eq_nI (by omega) (by omega)]; omega
    have hsl : q * 12 + (a + c) % 12 < 384 := by omega
    have w30 : u (u (u x 34 (q * 12 + (a + c) % 12) l) 35 (q * 12 + (a + c) % 12) num) 36 (q * 12 + (a + c) % 12) born 30 q = nI c := by
      rw [u_nf _ _ (by decide), u_nf _ _ (by decide), u_nf _ _ (by decide)]; exact e30
    have w3 : u (u (u (u x 34 (q * 12 + (a + c) % 12) l) 35 (q * 12 + (a + c) % 12) num) 36 (q * 12 + (a + c) % 12) born) 30 q (nI (c + 1)) 3 0 = nI (cs s 32) := by
      rw [u_nf _ _ (by decide), u_nf _ _ (by decide), u_nf _ _ (by decide), u_nf _ _ (by decide)]; exact hE.2.2.2.2
    simp (disch := omega) only [litI, mul_nI, add_nI, Nat.add_zero, Nat.zero_add, Nat.mul_zero, Nat.zero_mul, Nat.mul_one, vpin_nI, ix_nI, true_and, and_true, forall_eq, gX0, sX0, gX3, sX3, gX5, sX5, gX9, sX9, gX10, sX10, gX11, sX11, gX12, sX12, gX13, sX13, gX14, sX14, gX15, sX15, gX16, sX16, gX17, sX17, gX18, sX18, gX30, sX30, gX31, sX31, gX32, sX32, gX33, sX33, gX34, sX34, gX35, sX35, gX36, sX36, gX38, sX38, gX39, sX39, gX40, sX40, gX41, sX41, gX42, sX42, gX43, sX43, gX44, sX44, gX45, sX45, gX46, sX46, gX1, gX2, gX4, gX6, gX7, gX8, gX19, gX22, gX25, gX26, gX27, gX28, gX29, gX37, gX47, gX48, gX49, gX50, gX51, w30, w3]
    refine k1 hne _ ?_ ?_ ?_
    · unfold tAdd
      rw [hc, ix_nI (by omega), nI_1]
      refine ⟨fun f z hf hz => ?_, ?_, fun q' hq' => ?_, fun e he c' hc' hc2 k' hk' hk2 => ?_, ?_⟩
      · obtain ⟨n1, n2, n3, n4, n5, n6, n7⟩ := pln_ne (plk_pln hf)
        simp only [u_at, n1, n2, n3, n6, false_and, if_false, hE.1 f z hf hz]
      · simpa [u_at] using hE.2.1
      · by_cases hqq : q' = q
        · subst hqq
          refine ⟨a, a1, by simpa [u_at] using a2, fun c' hc' hc2 i hi => ?_⟩
          have hcc : c' = c + 1 := by
            rw [u_self, eq_nI (by omega) (by omega)] at hc'
            exact hc'.symm
          subst hcc
          by_cases hic : i = c
          · subst hic
            have e1 : q' * 12 + (a + i) % 12 = 12 * q' + (a + i) % 12 := by omega
            rw [e1]
            simp [u_at]
          · obtain ⟨b1, b2, b3⟩ := a3 c hc (by omega) i (by omega)
            have e1 : 12 * q' + (a + i) % 12 ≠ q' * 12 + (a + c) % 12 := by omega
            have e2 : 12 * q' + i ≠ 12 * q' + c := by omega
            simp only [u_at, e1, e2, and_false, if_false, Nat.reduceEqDiff, false_and]
            exact ⟨b1, b2, b3⟩
        · obtain ⟨a', b1, b2, b3⟩ := hE.2.2.1 q' hq'
          refine ⟨a', b1, by simpa [u_at] using b2, fun c' hc' hc2 i hi => ?_⟩
          have hc3 : s 30 q' = nI c' := by
            rw [u_nk _ _ hqq, u_nf _ _ (by decide), u_nf _ _ (by decide), u_nf _ _ (by decide)] at hc'; exact hc'
          have e1 : 12 * q' + (a' + i) % 12 ≠ q * 12 + (a + c) % 12 := by omega
          have e2 : 12 * q' + i ≠ 12 * q + c := by omega
          simp only [u_at, e1, e2, and_false, if_false, Nat.reduceEqDiff, false_and]
          exact b3 c' hc3 hc2 i hi
      · have hc3 : s 9 e = nI c' := by simpa [u_at] using hc'
        have := hE.2.2.2.1 e he c' hc3 hc2 k' hk' hk2
        simpa [u_at] using this
      · rw [u_self]
        have h1 := cs_one (s := s) (s' := u (u (u (u s 34 (12 * q + c) l) 35 (12 * q + c) num) 36 (12 * q + c) born) 30 q (nI (c + 1))) (q := q) (fun q' h' => by simp [u_at, h']) 32 hq
        rw [u_self, hc, ix_nI (by omega), ix_nI (by omega)] at h1
        exact congrArg nI (by omega)
    · intro f z hf hz
      have e1 : z ≠ q * 12 + (a + c) % 12 := by omega
      rw [u_nf _ _ (by omega), u_nf _ _ (by omega), u_nk _ _ e1, u_nk _ _ e1, u_nk _ _ e1]
    · intro f z hf h30
      obtain ⟨n1, n2, n3, n4, n5, n6, n7⟩ := pln_ne hf
      rw [u_nf _ _ n6, u_nf _ _ h30, u_nf _ _ n3, u_nf _ _ n2, u_nf _ _ n1]
  · refine k0 ?_
    rw [hc]
    exact congrArg nI (by omega)
end ClsOps
