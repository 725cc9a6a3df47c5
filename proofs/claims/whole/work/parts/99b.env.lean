theorem arr_of {args : Array Value} {s : State} {ty : FieldType} (h : (Cond.arrayClass ty).before args s = true) (ht : ∀ C, ty ≠ .object C) : ∃ cA, ArrOfT s cA ty ∧ va_RA s cA ty := by
  obtain ⟨cA, kA, comp, h1, h2, h3⟩ := Cond.arrayClass_spec h
  refine ⟨cA, fun n z => ⟨fun k h => (by cases h), kA, h2, comp, h3⟩, ?_⟩
  cases ty with
  | object C => exact absurd rfl (ht C)
  | _ => exact h1
theorem kn_all {args : Array Value} {s : State} (hts : ∀ w ∈ UU, w.before args s = true) : ∃ D : va_G, ∀ (k : Nat) (q : vw_C), vwCl[k]? = some q → u_Kn s q.1 q.2.1 q.2.2 (D.1 k) (D.2 k) := by
  obtain ⟨c0, i0, h0⟩ := u_known (ws := UU) hts inU0 (hts _ u2_45)
  obtain ⟨c1, i1, h1⟩ := u_known (ws := UU) hts inU1 (hts _ u1_213)
  obtain ⟨c2, i2, h2⟩ := u_known (ws := UU) hts inU2 (hts _ u1_39)
  obtain ⟨c3, i3, h3⟩ := u_known (ws := UU) hts inU3 (hts _ u2_1)
  obtain ⟨c4, i4, h4⟩ := u_known (ws := UU) hts inU4 (hts _ u1_33)
  obtain ⟨c5, i5, h5⟩ := u_known (ws := UU) hts inU5 (hts _ u1_235)
  obtain ⟨c6, i6, h6⟩ := u_known (ws := UU) hts inU6 (hts _ u1_45)
  obtain ⟨c7, i7, h7⟩ := u_known (ws := UU) hts inU7 (hts _ u1_25)
  obtain ⟨c8, i8, h8⟩ := u_known (ws := UU) hts inU8 (hts _ u5_122)
  refine ⟨(fun k => [c0, c1, c2, c3, c4, c5, c6, c7, c8].getD k c0, fun k => [i0, i1, i2, i3, i4, i5, i6, i7, i8].getD k i0), ?_⟩
  intro k q hq
  match k, hq with
  | 0, hq => cases hq; exact h0
  | 1, hq => cases hq; exact h1
  | 2, hq => cases hq; exact h2
  | 3, hq => cases hq; exact h3
  | 4, hq => cases hq; exact h4
  | 5, hq => cases hq; exact h5
  | 6, hq => cases hq; exact h6
  | 7, hq => cases hq; exact h7
  | 8, hq => cases hq; exact h8
  | k + 9, hq => simp [vwCl] at hq
theorem env_start {p : Program} {s : State} {m : MethodId} {meth : Method} {c : Code} {b L : Nat} {xs : Nat → Int32} (C0 : lw_At p s m meth c b L xs) : ∃ g : Gm, NK g s ∧ OS g (fun q => s.heap.size ≤ q) s := by
  obtain ⟨hx, hb, hr, hml, hown, hts, hX, hbl, hlocks, hgv⟩ := C0
  have hU : ∀ w ∈ UU, w.before #[Value.ref b] s = true := fun w hw => hts w (UU_tbl hw)
  have hT : ∀ w ∈ tables_1, w.before #[Value.ref b] s = true := fun w hw => hts w (List.mem_append_right _ hw)
  have hF : ∀ w ∈ NW, w.before #[Value.ref b] s = true := fun w hw => flat_of_before _ hgv w hw
  have hA : ∀ a : Nat, a < s.heap.size → ¬ (fun q : Nat => s.heap.size ≤ q) a := fun a h q => absurd h (Nat.not_lt.mpr q)
  obtain ⟨D, hD⟩ := kn_all hU
  obtain ⟨cB, hB1, hB2⟩ := arr_of (hU _ u1_71) (fun C q => by cases q)
  obtain ⟨cI, hI1, hI2⟩ := arr_of (hU _ u1_72) (fun C q => by cases q)
  obtain ⟨cJ, hJ1, hJ2⟩ := arr_of (hU _ u1_73) (fun C q => by cases q)
  obtain ⟨t, ht, hTt⟩ := va_Tof (tm := dst) (ty := .int) (N := 10) (f := fun j => .int (dsv.getD j 0)) (A := fun q : Nat => s.heap.size ≤ q) (by decide) (hF _ nw_da) (va_eqt (hF _ nw_dl)) (fun j hj => va_eqt (hF _ (nw_de j hj))) hA
  obtain ⟨K, Vv, hS, hK⟩ := vk_Sof (args := #[Value.ref b]) (s := s) (N := 13) (tm := stm) (len := slen) (byt := sbyt) (A := fun q : Nat => s.heap.size ≤ q) nw_sl (fun i hi => hF _ (nw_ex i hi)) (fun i hi => hF _ (nw_co i hi)) (fun i hi => hF _ (nw_ar i hi)) (fun i hi => hF _ (nw_le i hi)) (fun i hi j hj => hF _ (nw_el i hi j hj)) (fun i j hi hj hne => (nw_ne i hi j hj hne).imp (hF _) (hF _)) hA
  refine ⟨(D, fun _ _ => 0, (cB, cI, cJ), t, K, Vv), ⟨⟨hD, ?_⟩, fun q hq => va_Nw.of rfl (hT _ (tb_nest q hq))⟩, ⟨va_Zof (hT _ tb_l1) (hU _ u1_5) ht hA, hTt⟩, ⟨hS, fun j hj => vk_R.of (hT _ (tb_str j hj)) (hK j hj)⟩, ⟨va_Zof (hT _ tb_l2) (hU _ u1_14) (va_eqt (hF _ nw_cs)) hA, va_Zqof (hT _ tb_l3) (hU _ u1_16) (hF _ nw_si) hA⟩, ⟨va_Nw.of rfl (hT _ tb_x1), va_Nw.of rfl (hT _ tb_x2), va_Nw.of rfl (hT _ tb_x3), va_Nw.of rfl (hT _ tb_x4)⟩, vx_Zqof (hT _ tb_l4) (hU _ u1_20) (hF _ nw_us) hA, vx_Zqof (hT _ tb_l5) (hU _ u1_20) (hF _ nw_ss) hA⟩
  intro k q hk
  match k, hk with
  | 0, hk => cases hk; exact ⟨hB1, hB2⟩
  | 1, hk => cases hk; exact ⟨hI1, hI2⟩
  | 2, hk => cases hk; exact ⟨hJ1, hJ2⟩
  | k + 3, hk => simp [ctys] at hk
