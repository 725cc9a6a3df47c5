set_option maxRecDepth 100000 in
theorem nw_ne0 : ∀ j : Nat, j < 13 → 0 < j → Cond.not (Cond.eq (stm 0) (stm j)) ∈ NW ∨ Cond.not (Cond.eq (stm j) (stm 0)) ∈ NW := by decide +kernel
set_option maxRecDepth 100000 in
theorem nw_ne1 : ∀ j : Nat, j < 13 → 1 < j → Cond.not (Cond.eq (stm 1) (stm j)) ∈ NW ∨ Cond.not (Cond.eq (stm j) (stm 1)) ∈ NW := by decide +kernel
set_option maxRecDepth 100000 in
theorem nw_ne2 : ∀ j : Nat, j < 13 → 2 < j → Cond.not (Cond.eq (stm 2) (stm j)) ∈ NW ∨ Cond.not (Cond.eq (stm j) (stm 2)) ∈ NW := by decide +kernel
set_option maxRecDepth 100000 in
theorem nw_ne3 : ∀ j : Nat, j < 13 → 3 < j → Cond.not (Cond.eq (stm 3) (stm j)) ∈ NW ∨ Cond.not (Cond.eq (stm j) (stm 3)) ∈ NW := by decide +kernel
set_option maxRecDepth 100000 in
theorem nw_ne4 : ∀ j : Nat, j < 13 → 4 < j → Cond.not (Cond.eq (stm 4) (stm j)) ∈ NW ∨ Cond.not (Cond.eq (stm j) (stm 4)) ∈ NW := by decide +kernel
set_option maxRecDepth 100000 in
theorem nw_ne5 : ∀ j : Nat, j < 13 → 5 < j → Cond.not (Cond.eq (stm 5) (stm j)) ∈ NW ∨ Cond.not (Cond.eq (stm j) (stm 5)) ∈ NW := by decide +kernel
set_option maxRecDepth 100000 in
theorem nw_ne6 : ∀ j : Nat, j < 13 → 6 < j → Cond.not (Cond.eq (stm 6) (stm j)) ∈ NW ∨ Cond.not (Cond.eq (stm j) (stm 6)) ∈ NW := by decide +kernel
set_option maxRecDepth 100000 in
theorem nw_ne7 : ∀ j : Nat, j < 13 → 7 < j → Cond.not (Cond.eq (stm 7) (stm j)) ∈ NW ∨ Cond.not (Cond.eq (stm j) (stm 7)) ∈ NW := by decide +kernel
set_option maxRecDepth 100000 in
theorem nw_ne8 : ∀ j : Nat, j < 13 → 8 < j → Cond.not (Cond.eq (stm 8) (stm j)) ∈ NW ∨ Cond.not (Cond.eq (stm j) (stm 8)) ∈ NW := by decide +kernel
set_option maxRecDepth 100000 in
theorem nw_ne9 : ∀ j : Nat, j < 13 → 9 < j → Cond.not (Cond.eq (stm 9) (stm j)) ∈ NW ∨ Cond.not (Cond.eq (stm j) (stm 9)) ∈ NW := by decide +kernel
set_option maxRecDepth 100000 in
theorem nw_ne10 : ∀ j : Nat, j < 13 → 10 < j → Cond.not (Cond.eq (stm 10) (stm j)) ∈ NW ∨ Cond.not (Cond.eq (stm j) (stm 10)) ∈ NW := by decide +kernel
set_option maxRecDepth 100000 in
theorem nw_ne11 : ∀ j : Nat, j < 13 → 11 < j → Cond.not (Cond.eq (stm 11) (stm j)) ∈ NW ∨ Cond.not (Cond.eq (stm j) (stm 11)) ∈ NW := by decide +kernel
theorem nw_nelt : ∀ i j : Nat, j < 13 → i < j → Cond.not (Cond.eq (stm i) (stm j)) ∈ NW ∨ Cond.not (Cond.eq (stm j) (stm i)) ∈ NW := by
  intro i j hj hij
  match i, hij with
  | 0, hij => exact nw_ne0 j hj hij
  | 1, hij => exact nw_ne1 j hj hij
  | 2, hij => exact nw_ne2 j hj hij
  | 3, hij => exact nw_ne3 j hj hij
  | 4, hij => exact nw_ne4 j hj hij
  | 5, hij => exact nw_ne5 j hj hij
  | 6, hij => exact nw_ne6 j hj hij
  | 7, hij => exact nw_ne7 j hj hij
  | 8, hij => exact nw_ne8 j hj hij
  | 9, hij => exact nw_ne9 j hj hij
  | 10, hij => exact nw_ne10 j hj hij
  | 11, hij => exact nw_ne11 j hj hij
  | i + 12, hij => exact absurd hij (by omega)
theorem nw_ne (i : Nat) (hi : i < 13) (j : Nat) (hj : j < 13) (h : i ≠ j) : Cond.not (Cond.eq (stm i) (stm j)) ∈ NW ∨ Cond.not (Cond.eq (stm j) (stm i)) ∈ NW := by
  rcases Nat.lt_or_ge i j with q | q
  · exact nw_nelt i j hj q
  · exact (nw_nelt j i hi (by omega)).symm
