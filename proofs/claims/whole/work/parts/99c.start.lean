/-! ===== the law, from its entry ===== -/
theorem RR_start : RR 0 σZ := by
  refine ⟨⟨fun _ _ => 0, 0, ⟨by decide, rfl, rfl, ⟨by decide, by decide, by decide, by decide, by decide, by decide, by decide, fun e he => absurd he (Nat.not_lt_zero _), fun l hl => absurd hl (Nat.not_lt_zero _)⟩, ⟨rfl, rfl, rfl, rfl, rfl, rfl, rfl, fun e he => absurd he (Nat.not_lt_zero _), fun l hl => absurd hl (Nat.not_lt_zero _), fun l i hl => absurd hl (Nat.not_lt_zero _)⟩, ⟨fun k _ => rfl, fun e he => absurd he (Nat.not_lt_zero _), fun l hl => absurd hl (Nat.not_lt_zero _), fun l hl => absurd hl (Nat.not_lt_zero _)⟩, ⟨fun e he => absurd he (Nat.not_lt_zero _), fun l hl => absurd hl (Nat.not_lt_zero _)⟩, rfl, fun _ => ⟨rfl, rfl⟩, fun q => absurd q (Nat.not_lt_zero _)⟩, ⟨0, by decide, rfl, rfl, fun k hk => absurd hk (Nat.not_lt_zero _)⟩, ⟨fun q => absurd q (Nat.not_lt_zero _), fun _ => ⟨rfl, fun _ _ => rfl, fun _ _ => rfl, fun _ _ => rfl⟩⟩, rfl, fun q => absurd rfl q⟩, rfl, rfl, fun q => absurd q (by decide)⟩
section LStart
variable {g : Gm} {p : Program} {l : Launch} {e : Env} {R : Room} {s : State} {m : MethodId} {args : Array Value} {below : List Frame} {meth : Method} {c : Code} {Q : State → Prop} {cc : ByteArray} {own : String} {pc k n nL : Nat} {st : List Value} {ws : va_W} {ls : Array Slot}
/-- new, dup, the constructor, in a frame that owns all new cells -/
theorem l_obj {ci N ix iy h2 mc2 ms2 i : Nat} {CN : String} {TN : u_T} {y : MethodName} {c2 : ByteArray} {fs : List Value} {nm : List (Nat × Nat)} (hx : p.tables.exec = Jvm.exec) (hb : c.code = cc) (hml : c.maxLocals = nL) (hown : s.vm.findClass own = some m.cls) (hts : ∀ w ∈ UU, w.before args s = true) (hNk : NK g s) (hls : ls.size = nL)
    (ty0 : Nat → FieldType) (hty : ∀ k, k < N → parseFieldDescriptor (TN k).2.2.1 = some (ty0 k)) (hc : vwCl[ci]? = some (CN, TN, N)) (hin : ∀ w ∈ u_ws CN TN N, w ∈ UU) (w1 : Cond.classLink own ix CN ∈ UU) (w2 : Cond.instantiable CN N ∈ UU) (w3 : Cond.initialized CN ∈ UU) (hfs : ∀ j, j < N → defaultValue (ty0 j) = vp_V fs j)
    (d0 : decode cc pc = .ok (.new ix, 3)) (d3 : decode cc (pc + 3) = .ok (.dup, 1)) (d4 : decode cc (pc + 4) = .ok (.invokespecial iy, 3))
    (w4 : Cond.methodLink own iy y ∈ UU) (hcn : y.cls = CN) (w5 : Cond.code y c2 1 none ∈ UU) (w6 : Cond.instanceMethod y ∈ UU) (hyn : y.name = "<init>") (hyd : y.cls ≠ "java/lang/invoke/MethodHandle" ∧ y.cls ≠ "java/lang/invoke/VarHandle" ∧ (parseMethodDescriptor y.desc).map (fun d => d.parameters.length) = some 0)
    (hM : Cn l g y c2 h2 mc2 ms2 ci i fs nm) (hh : h2 + 1 ≤ R.frames ∧ 8 + (1 + 11) + 64 * h2 ≤ R.locals) (hk : k + 1 + mc2 ≤ R.cells) (hs : n + N + ms2 ≤ R.slots) (hst : (st.map fun v => v.category).sum ≤ 7)
    {H : Heap} {locs : List Loc} (hP : va_P (gD g) vwCl ws H) (hD : va_D (fun q => s.heap.size ≤ q) ws) (hS : va_S (fun q => s.heap.size ≤ q) s.heap H locs)
    (kk : ∀ (a : Nat → Nat → Nat) (H1 : Heap) (locs1 : List Loc), va_P (gD g) vwCl (ws ++ Wn g a nm) H1 → va_D (fun q => s.heap.size ≤ q) (ws ++ Wn g a nm) → va_S (fun q => s.heap.size ≤ q) s.heap H1 locs1 → W p l e R s m args below meth c H1 locs1 (k + 1 + mc2) (n + N + ms2) Q (F0 m (pc + 7) ls (.ref (a ci i) :: st))) : W p l e R s m args below meth c H locs k n Q (F0 m pc ls st) := by
  refine va_new (ci := ci) (fs := fs) hx hb hts hin ty0 hty hown (hts _ w1) (hts _ w2) (hts _ w3) hNk.1 hP hD hS (fun q hq => hq) hc hfs (by omega) (by omega) d0 (fun q H1 hP1 hD1 hS1 => ?_)
  refine lv_dup hx hb d3 rfl ?_
  have hPq : va_P (gD g) vwCl [(q, .inr (ci, fs))] H1 := by
    intro j z hz
    have hj := (List.getElem?_eq_some_iff.mp hz).1
    simp only [List.length_singleton] at hj
    obtain rfl : j = 0 := by omega
    cases hz
    exact hP1 ws.length _ (by rw [List.getElem?_append_right (Nat.le_refl _), Nat.sub_self]; rfl)
  have hAq : s.heap.size ≤ q := hD1.2 ws.length _ (by rw [List.getElem?_append_right (Nat.le_refl _), Nat.sub_self]; rfl)
  have hA1 : ∀ z, Ak q H1.size z → s.heap.size ≤ z := by
    intro z hz
    rcases hz with rfl | hz
    · exact hAq
    · exact Nat.le_trans hS1.1 hz
  have hrun := va_runI (R := R) (As := []) (b := q) (rest := .ref q :: st) (Ts := UU) (H := H1) (locs := locs) (cells := k + 1) (slots := n + N) (e := e) (below := below) (meth := meth) (g := F0 m (pc + 4) ls (.ref q :: .ref q :: st)) ⟨hx, hb, hml, hown, hts⟩ (hM q H1.size) ⟨callB_of 0 hts (good_UU w5) rfl rfl rfl (by rw [hcn]; exact hts _ w3) (hts _ w4) hyd hh, hyn, hts _ w6⟩ ⟨PcN.blind, fun U hU hW => ⟨rfl, by rw [hU], by rw [hU]; exact hPq, hNk.call hW⟩⟩ rfl rfl hls rfl (lv_room (by simp only [List.map_cons, List.sum_cons]; show 1 + _ ≤ 8; omega)) d4 ⟨hk, hs⟩
  refine va_callv hrun hS1 (fun z _ hz => hA1 z hz) (fun z hz => hA1 z hz) (fun a t H2 locs2 ht hvm _ hB hz1 hk1 hS2 => ?_)
  obtain ⟨rfl, hPa, hDa⟩ := hB
  rw [ht] at hPa
  have hPw : va_P (gD g) vwCl ws H2 := by
    intro j z hz
    have hz1 : (ws ++ [(a ci i, Sum.inr (ci, fs))])[j]? = some z := by rw [List.getElem?_append_left (List.getElem?_eq_some_iff.mp hz).1]; exact hz
    refine (hP1 j z hz1).kept (hk1 z.1 (hP1 j z hz1).lt ?_)
    rintro (hq | hq)
    · have := hD1.1 j ws.length z _ hz1 (by rw [List.getElem?_append_right (Nat.le_refl _), Nat.sub_self]; rfl) hq
      have := (List.getElem?_eq_some_iff.mp hz).1
      omega
    · exact absurd (hP1 j z hz1).lt (Nat.not_lt.mpr hq)
  refine kk a H2 locs2 (hPw.app hPa) (hD.app ⟨hDa.1, fun j z hz => hA1 _ (hDa.2 j z hz)⟩ ?_) hS2
  intro i1 j1 z1 z2 hz1 hz2 he
  have hz3 : (ws ++ [(a ci i, Sum.inr (ci, fs))])[i1]? = some z1 := by rw [List.getElem?_append_left (List.getElem?_eq_some_iff.mp hz1).1]; exact hz1
  rcases hDa.2 j1 z2 hz2 with hq | hq
  · have := hD1.1 i1 ws.length z1 _ hz3 (by rw [List.getElem?_append_right (Nat.le_refl _), Nat.sub_self]; rfl) (he.trans hq)
    have := (List.getElem?_eq_some_iff.mp hz1).1
    omega
  · exact absurd (hP1 i1 z1 hz3).lt (Nat.not_lt.mpr (by rw [he]; exact hq))
end LStart
def nmA : List (Nat × Nat) := nmN7 ++ nmN8 ++ [(64, 0)]
theorem nmA_all : ∀ q ∈ dom, q ∈ nmA := by decide +kernel
def gAll (a7 a8 : Nat → Nat → Nat) (q : Nat) : Nat → Nat → Nat := fun x y => bif Nat.beq x 64 then q else bif (Nat.beq x 8 || Nat.ble 52 x) then a8 x y else a7 x y
set_option maxRecDepth 20000 in
theorem Wn_7 (g : Gm) (a7 a8 : Nat → Nat → Nat) (q : Nat) : Wn g a7 nmN7 = Wn g (gAll a7 a8 q) nmN7 := rfl
set_option maxRecDepth 20000 in
theorem Wn_8 (g : Gm) (a7 a8 : Nat → Nat → Nat) (q : Nat) : Wn g a8 nmN8 = Wn g (gAll a7 a8 q) nmN8 := rfl
theorem Wn_app (g : Gm) (a : Nat → Nat → Nat) (x y : List (Nat × Nat)) : Wn g a (x ++ y) = Wn g a x ++ Wn g a y := List.map_append
/-- the whole world of the law out of its parts -/
theorem world_start {g : Gm} {a : Nat → Nat → Nat} {A : Nat → Prop} {H : Heap} (hP : va_P (gD g) vwCl (Wn g a nmA) H) (hD : va_D A (Wn g a nmA)) : GI (gw g a) ∧ (∀ q, gA (gw g a) q → A q) ∧ va_P (gD (gw g a)) vwCl (WS (gw g a) σZ) H := by
  have at' : ∀ n i : Nat, i < cnt n → ∃ k : Nat, nmA[k]? = some (n, i) ∧ (Wn g a nmA)[k]? = some (a n i, cell (gw g a) σZ n i) := by
    intro n i hi
    obtain ⟨k, hk⟩ := List.getElem?_of_mem (nmA_all _ (in_dom hi))
    exact ⟨k, hk, by rw [Wn, List.getElem?_map, hk]; rfl⟩
  refine ⟨?_, ?_, ?_⟩
  · intro n i n2 i2 h1 h2 he
    obtain ⟨k, e1, e2⟩ := at' n i h1
    obtain ⟨k2, e3, e4⟩ := at' n2 i2 h2
    have := hD.1 k k2 _ _ e2 e4 he
    rw [this] at e1
    have := Option.some.inj (e1.symm.trans e3)
    exact ⟨congrArg Prod.fst this, congrArg Prod.snd this⟩
  · rintro q ⟨n, i, h1, rfl⟩
    obtain ⟨k, e1, e2⟩ := at' n i h1
    exact hD.2 k _ e2
  · intro j q hj
    obtain ⟨n, i, _, h2, rfl⟩ := WS_of (gw g a) σZ hj
    obtain ⟨k, e1, e2⟩ := at' n i h2
    exact hP k _ e2
theorem traces0 {l : Launch} (hflags : l.flags = flags0) : l.stackTraces = false := by
  unfold Launch.stackTraces
  rw [hflags]
  decide +kernel
set_option maxHeartbeats 4000000 in
set_option maxRecDepth 100000 in
/-- YOUR PART: from the entry, for every script of at most 3072 ints, the law comes to its end with true ('hflags': the launch's flags, for a law that throws: no stack traces) -/
theorem whole_start {p : Program} {e : Env} {s : State} {m : MethodId} {below : List Frame} {meth : Method} {c : Code} (l : Launch) (hflags : l.flags = flags0) {b L : Nat} {xs : Nat → Int32} (hL : L ≤ 3072) (C0 : lw_At p s m meth c b L xs) : W p l e room_1 s m #[Value.ref b] below meth c s.heap [] 0 0 (lw_Z below #[Value.ref b] s) (entryFrame m ([Value.ref b] : List Value).toArray 7) := by
  obtain ⟨g, hN, hO⟩ := env_start C0
  obtain ⟨hx, hb, hr, hml, hown, hts, hX, hbl, hlocks, hgv⟩ := C0
  have hU : ∀ w ∈ UU, w.before #[Value.ref b] s = true := fun w hw => hts w (UU_tbl hw)
  have hl := lv_entry ([.ref b]) (n := 7) (Nat.le_of_ble_eq_true rfl)
  rw [lg_entry_eq]
  generalize (lg_sl ([.ref b]) ++ List.replicate (7 - (lg_sl ([.ref b])).length) Slot.unset).toArray = ls at hl ⊢
  have hl : lv_has ls 7 [(0, .ref b)] := hl
  refine l_obj (ws := []) (ci := 7) (i := 0) (nm := nmN7) (h2 := 4) (mc2 := 123) (ms2 := 7667) (y := yX7_init) (c2 := cX7_init) hx hb hml hown hU hN hl.1 tyX7 tyX7_ok rfl inU7 u1_24 u1_25 u1_1 dfX7_ok dL_law_0 dL_law_3 dL_law_4 u1_26 rfl u1_28 u1_27 rfl ⟨by decide, by decide, by decide +kernel⟩ (ok_X7_init l g) ⟨Nat.le_of_ble_eq_true rfl, Nat.le_of_ble_eq_true rfl⟩ (Nat.le_of_ble_eq_true rfl) (Nat.le_of_ble_eq_true rfl) (Nat.le_of_ble_eq_true rfl) (fun k q h => by simp at h) ⟨fun i j p q h => by simp at h, fun k q h => by simp at h⟩ va_S.rf (fun a7 H1 locs1 hP1 hD1 hS1 => ?_)
  refine lv_astore_n (lv' := [(1, .ref (a7 7 0)), (0, .ref b)]) hx hb dL_law_7 rfl hl (by decide) rfl (fun ls hl => ?_)
  refine l_obj (ci := 8) (i := 0) (nm := nmN8) (h2 := 1) (mc2 := 12) (ms2 := 6493) (y := yX8_init) (c2 := cX8_init) hx hb hml hown hU hN hl.1 tyX8 tyX8_ok rfl inU8 u5_121 u5_122 u1_9 dfX8_ok dL_law_8 dL_law_11 dL_law_12 u5_123 rfl u5_125 u5_124 rfl ⟨by decide, by decide, by decide +kernel⟩ (ok_X8_init l g) ⟨Nat.le_of_ble_eq_true rfl, Nat.le_of_ble_eq_true rfl⟩ (Nat.le_of_ble_eq_true rfl) (Nat.le_of_ble_eq_true rfl) (Nat.le_of_ble_eq_true rfl) hP1 hD1 hS1 (fun a8 H2 locs2 hP2 hD2 hS2 => ?_)
  refine lv_astore_n (lv' := [(2, .ref (a8 8 0)), (1, .ref (a7 7 0)), (0, .ref b)]) hx hb dL_law_15 rfl hl (by decide) rfl (fun ls hl => ?_)
  refine lv_iconst (v := 1) hx hb dL_law_16 rfl ?_
  refine va_newa (N' := 1) (a0 := (1, .inr (.inl (fun _ => 0)))) (atype := .long) (ty := .long) hx hb (hU _ u1_73) rfl hN.1 hP2 hD2 hS2 (fun q hq => hq) (fun cA => rfl) (by decide) (by decide) (Nat.le_of_ble_eq_true rfl) (Nat.le_of_ble_eq_true rfl) (Nat.le_of_ble_eq_true rfl) dL_law_17 (fun q cA H3 hK3 hP3 hD3 hS3 => ?_)
  obtain rfl := cls_same (c1 := gJc g) (j := 2) hK3 rfl (fun C q => by cases q)
  refine lv_astore_n (lv' := [(3, .ref q), (2, .ref (a8 8 0)), (1, .ref (a7 7 0)), (0, .ref b)]) hx hb dL_law_19 rfl hl (by decide) rfl (fun ls hl => ?_)
  refine lv_iconst (v := 0) hx hb dL_law_20 rfl ?_
  refine lv_istore (lv' := [(4, .int 0), (3, .ref q), (2, .ref (a8 8 0)), (1, .ref (a7 7 0)), (0, .ref b)]) hx hb dL_law_21 hl (by decide) rfl (fun ls hl => ?_)
  have ew : ([] ++ Wn g a7 nmN7 ++ Wn g a8 nmN8) ++ [(q, .inl (gJc g, 1, .inr (.inl (fun _ => 0))))] = Wn g (gAll a7 a8 q) nmA := by
    rw [List.nil_append, Wn_7 g a7 a8 q, Wn_8 g a7 a8 q, nmA, Wn_app, Wn_app]
    rfl
  rw [ew] at hP3 hD3
  obtain ⟨hG, hA, hP4⟩ := world_start hP3 hD3
  obtain ⟨hSt, hXS⟩ := OS.St (g := gw g (gAll a7 a8 q)) hO hG hN hA
  have hsc : Sc (fun q => s.heap.size ≤ q) b L xs s := ⟨hX, hbl, Nat.not_le.mpr hbl⟩
  have CC : ∀ a d, a ≤ 200 + 513 → d ≤ 20000 + 6 * 513 → CxV (gw g (gAll a7 a8 q)) (fun q => s.heap.size ≤ q) p room_1 s m #[Value.ref b] meth c a d cL_law 7 RL 70 := fun a d h1 h2 => ⟨hx, hb, hml, hown, hU, hSt, ⟨Nat.le_of_ble_eq_true rfl, Nat.le_of_ble_eq_true rfl⟩, ⟨Nat.le_trans h1 (Nat.le_of_ble_eq_true rfl), Nat.le_trans h2 (Nat.le_of_ble_eq_true rfl)⟩, fun q h1 h2 => absurd h1 (Nat.not_lt.mpr h2), hA, hlocks⟩
  have fin : ∀ (kc sc : Nat) (lv : List (Nat × Value)) (σ : Hp), kc ≤ 200 + 513 → sc ≤ 20000 + 6 * 513 → V (gw g (gAll a7 a8 q)) (fun q => s.heap.size ≤ q) p l e room_1 s m #[Value.ref b] below meth c (lw_Z below #[Value.ref b] s) kc sc 7 1737 lv [] σ := by
    intro kc sc lv σ h1 h2 H locs ls hP hS hl
    refine lv_iconst (v := 1) hx hb dL_law_1737 rfl ?_
    refine va_forget (fun q hq => hS.2.2 q hq) ?_
    refine W.widen (k := 601024) (n := 7293034) (Nat.le_trans h1 (Nat.le_of_ble_eq_true rfl)) (Nat.le_trans h2 (Nat.le_of_ble_eq_true rfl)) ?_
    exact lw_ret hx hb hr hlocks dL_law_1738
  have lp := law_loop (K0 := 200) (S0 := 20000) (traces0 hflags) hXS hsc hL CC fin (L + 1) 0 σZ (Nat.zero_le _) (by omega) RR_start
  exact W.widen (k := 200 + 0) (n := 20000 + 6 * 0) (Nat.le_of_ble_eq_true rfl) (Nat.le_of_ble_eq_true rfl) (lp H3 locs2 ls hP4 hS3 (lv_sub hl [0, 4, 3, 2, 1] rfl))
