/-! the constructors: worlds of new things -/
def gw (g : Gm) (a : Nat → Nat → Nat) : Gm := (g.1, a, g.2.2)
def σZ : Hp := (fun n _ k => if (n = 7 ∧ k = 9) ∨ (n = 4 ∧ k = 11) ∨ (n = 8 ∧ k = 3) then -1 else 0, fun _ _ _ => 0, fun r => r)
def NK (g : Gm) (V : State) : Prop := va_K (gD g) vwCl (ctys g) V ∧ ∀ q ∈ nestL, va_Nw (.methodLinkNest q.1 q.2.1 q.2.2.1 q.2.2.2) V
theorem NK.call {g : Gm} {s U : State} (h : NK g s) (hW : s.WarmedH U.vm) : NK g U := ⟨va_K.moved hW.alike h.1, fun q hq => (h.2 q hq).warmM hW⟩
theorem NK.same {g : Gm} {u U : State} (hv : U.vm = u.vm) (h : NK g u) : NK g U := ⟨va_K.moved (by rw [hv]; exact Vm.Alike.refl _) h.1, fun q hq => (h.2 q hq).same rfl hv.symm⟩
def Ak (h0 sz : Nat) : Nat → Prop := fun q => q = h0 ∨ sz ≤ q
def Wn (g : Gm) (a : Nat → Nat → Nat) (nm : List (Nat × Nat)) : va_W := nm.map (fun q => (a q.1 q.2, cell (gw g a) σZ q.1 q.2))
def rmN (h mc ms : Nat) : Room := { frames := h, cells := mc, slots := ms, locals := 64 * h }
def PcN (g : Gm) (h0 sz ci : Nat) (fs : List Value) : Array Value → State → Prop := va_Pc [.ref h0] (fun V => V.heap.size = sz ∧ va_P (gD g) vwCl [(h0, .inr (ci, fs))] V.heap ∧ NK g V)
def BN (g : Gm) (h0 sz ci i : Nat) (nm : List (Nat × Nat)) : (Nat → Nat → Nat) → State → Prop := fun a t => a ci i = h0 ∧ va_P (gD g) vwCl (Wn g a nm) t.heap ∧ va_D (Ak h0 sz) (Wn g a nm)
def QN (g : Gm) (h0 sz ci i : Nat) (nm : List (Nat × Nat)) : Array Value → State → Outcome → State → Prop := va_Qv (fun _ => True) (BN g h0 sz ci i nm) (Ak h0 sz)
def Cn (l : Launch) (g : Gm) (y : MethodName) (cc : ByteArray) (h mc ms ci i : Nat) (fs : List Value) (nm : List (Nat × Nat)) : Prop :=
  ∀ h0 sz, Met l y (.code y cc 1 none :: UU) (rmN h mc ms) (PcN g h0 sz ci fs) (QN g h0 sz ci i nm) mc ms (Ak h0 sz)
theorem PcN.blind {g : Gm} {h0 sz ci : Nat} {fs : List Value} : FrameBlind (PcN g h0 sz ci fs) := by
  intro a U g1 mk q
  obtain ⟨q0, q1, q2, q3⟩ := q
  exact ⟨q0, q1, q2, NK.same rfl q3⟩
def CxN (g : Gm) (p : Program) (R : Room) (s : State) (m : MethodId) (args : Array Value) (meth : Method) (c : Code) (cc : ByteArray) (own : String) (h mc ms : Nat) : Prop :=
  p.tables.exec = Jvm.exec ∧ c.code = cc ∧ c.maxLocals = 1 ∧ s.vm.findClass own = some m.cls ∧ (∀ w ∈ UU, w.before args s = true) ∧ NK g s ∧ meth.locks = false ∧ R = rmN h mc ms ∧ meth.sig.returnType = none ∧ meth.name = "<init>"
def JN (g : Gm) (p : Program) (l : Launch) (e : Env) (R : Room) (s : State) (m : MethodId) (args : Array Value) (below : List Frame) (meth : Method) (c : Code) (h0 : Nat) (Q : State → Prop) (pc : Nat) (st : List Value) (ws : va_W) (k n : Nat) : Prop :=
  ∀ (H : Heap) (locs : List Loc) (ls : Array Slot), va_P (gD g) vwCl ws H → va_D (Ak h0 s.heap.size) ws → va_S (Ak h0 s.heap.size) s.heap H locs → lv_has ls 1 [(0, .ref h0)] → W p l e R s m args below meth c H locs k n Q (F0 m pc ls st)
theorem Cn.of {l : Launch} {g : Gm} {y : MethodName} {cc : ByteArray} {h mc ms ci i : Nat} {fs : List Value} {nm : List (Nat × Nat)} (hy : plainName y.cls = true) (hi : y.name = "<init>")
    (body : ∀ p e R s m args below meth c h0, CxN g p R s m args meth c cc y.cls h mc ms → h0 < s.heap.size → JN g p l e R s m args below meth c h0 (MQ below (QN g h0 s.heap.size ci i nm) args s mc ms (Ak h0 s.heap.size)) 0 [] [(h0, .inr (ci, fs))] 0 0) : Cn l g y cc h mc ms ci i fs nm := by
  intro h0 sz
  refine Met.ofW (cc := cc) (maxL := 1) (ret := none) hy rfl ?_
  intro p e s m args below meth c s₁ B hml hv
  obtain ⟨rfl, hsz, hP, hN⟩ := hv
  subst hsz
  have hts := atoms_spec (ws := .code y cc 1 none :: UU) B.pre
  have hl := lv_entry ([.ref h0]) (n := 1) (Nat.le_of_ble_eq_true rfl)
  have hin : meth.name = "<init>" := ((name_of_methodNamed B.named B.method).1).trans hi
  rw [lg_entry_eq]
  exact body p e (rmN h mc ms) s m _ below meth c h0 ⟨B.exec, B.bytes, hml, findClass_of_methodNamed B.named, fun w hw => hts w (List.mem_cons_of_mem _ hw), hN, B.notSynchronized, rfl, B.returns, hin⟩ ((hP 0 _ rfl).lt) s.heap [] _ hP
    ⟨fun i j p q hi hj _ => by
      have h1 := (List.getElem?_eq_some_iff.mp hi).1
      have h2 := (List.getElem?_eq_some_iff.mp hj).1
      simp only [List.length_singleton] at h1 h2
      omega, fun k q hk => by
      have h1 := (List.getElem?_eq_some_iff.mp hk).1
      simp only [List.length_singleton] at h1
      obtain rfl : k = 0 := by omega
      cases hk
      exact Or.inl rfl⟩ va_S.rf hl
section NRows
variable {g : Gm} {p : Program} {l : Launch} {e : Env} {R : Room} {s : State} {m : MethodId} {args : Array Value} {below : List Frame} {meth : Method} {c : Code} {Q : State → Prop} {cc : ByteArray} {own : String} {h mc ms h0 pc k n : Nat} {st : List Value} {ws : va_W}
theorem n_init {ix : Nat} (C : CxN g p R s m args meth c cc own h mc ms) (hh : 1 ≤ h) (d0 : decode cc 0 = .ok (.aload_n 0, 1)) (d1 : decode cc 1 = .ok (.invokespecial ix, 3)) (w1 : Cond.methodLink own ix objectInit ∈ UU) (w2 : Cond.instanceMethod objectInit ∈ UU) (w3 : Cond.code objectInit ⟨#[0xb1]⟩ 1 none ∈ UU) (kk : JN g p l e R s m args below meth c h0 Q 4 [] ws k n) : JN g p l e R s m args below meth c h0 Q 0 [] ws k n := by
  intro H locs ls hP hD hS hl
  obtain ⟨hx, hb, hml, hown, hts, hN, hlk, hR, hr, hin⟩ := C
  subst hR
  refine lv_aload_n hx hb d0 rfl (lv_at hl 0 rfl) ?_
  refine W.objInit hx hb hown (hts _ w1) (hts _ w2) (hts _ w3) rfl (by rw [hml]; exact hl.1) rfl d1 hh (Nat.le_trans (m := 64) (Nat.le_of_ble_eq_true rfl) (by show 64 ≤ 64 * h; omega)) ?_
  exact W.eq (g2 := F0 m 4 ls []) rfl (kk H locs ls hP hD hS hl)
theorem n_aload (C : CxN g p R s m args meth c cc own h mc ms) (d0 : decode cc pc = .ok (.aload_n 0, 1)) (kk : JN g p l e R s m args below meth c h0 Q (pc + 1) (.ref h0 :: st) ws k n) : JN g p l e R s m args below meth c h0 Q pc st ws k n := fun H locs ls hP hD hS hl => lv_aload_n C.1 C.2.1 d0 rfl (lv_at hl 0 rfl) (kk H locs ls hP hD hS hl)
theorem n_iconst {z : Int} {v : Int32} (C : CxN g p R s m args meth c cc own h mc ms) (d0 : decode cc pc = .ok (.iconst z, 1)) (hv : Int32.ofInt z = v) (kk : JN g p l e R s m args below meth c h0 Q (pc + 1) (.int v :: st) ws k n) : JN g p l e R s m args below meth c h0 Q pc st ws k n := fun H locs ls hP hD hS hl => lv_iconst C.1 C.2.1 d0 hv (kk H locs ls hP hD hS hl)
theorem n_bipush {z : Int} {v : Int32} (C : CxN g p R s m args meth c cc own h mc ms) (d0 : decode cc pc = .ok (.bipush z, 2)) (hv : (Int8.ofInt z).toInt32 = v) (kk : JN g p l e R s m args below meth c h0 Q (pc + 2) (.int v :: st) ws k n) : JN g p l e R s m args below meth c h0 Q pc st ws k n := fun H locs ls hP hD hS hl => lv_bipush C.1 C.2.1 d0 hv (kk H locs ls hP hD hS hl)
theorem n_sipush {z : Int} {v : Int32} (C : CxN g p R s m args meth c cc own h mc ms) (d0 : decode cc pc = .ok (.sipush z, 3)) (hv : (Int16.ofInt z).toInt32 = v) (kk : JN g p l e R s m args below meth c h0 Q (pc + 3) (.int v :: st) ws k n) : JN g p l e R s m args below meth c h0 Q pc st ws k n := fun H locs ls hP hD hS hl => lv_sipush C.1 C.2.1 d0 hv (kk H locs ls hP hD hS hl)
theorem n_lconst (C : CxN g p R s m args meth c cc own h mc ms) (d0 : decode cc pc = .ok (.lconst 0, 1)) (kk : JN g p l e R s m args below meth c h0 Q (pc + 1) (.long 0 :: st) ws k n) : JN g p l e R s m args below meth c h0 Q pc st ws k n := fun H locs ls hP hD hS hl => lv_lconst C.1 C.2.1 d0 (by decide) (kk H locs ls hP hD hS hl)
theorem n_put {ci j N index : Nat} {CN : String} {TN : u_T} {v : Value} {ty : FieldType} {fs : List Value} (C : CxN g p R s m args meth c cc own h mc ms) (hd : decode cc pc = .ok (.putfield index, 3)) (hc : vwCl[ci]? = some (CN, TN, N)) (hin : ∀ w ∈ u_ws CN TN N, w ∈ UU) (ty0 : Nat → FieldType) (hty : ∀ k, k < N → parseFieldDescriptor (TN k).2.2.1 = some (ty0 k)) (hnm : ∀ a, a < N → ∀ b, b < N → a ≠ b → (TN a).2.1 ≠ (TN b).2.1) (hj : j < N) (hw : Cond.fieldLink own index (TN j).1 (TN j).2.1 (TN j).2.2.1 ∈ UU) (hf : (TN j).2.2.2 = false) (hpd : parseFieldDescriptor (TN j).2.2.1 = some ty) (hnv : narrow ty v = v) (hfit : fits ty v = true) (hl0 : j < fs.length) (kk : JN g p l e R s m args below meth c h0 Q (pc + 3) st ((h0, .inr (ci, fs.set j v)) :: ws) k n) : JN g p l e R s m args below meth c h0 Q pc (v :: .ref h0 :: st) ((h0, .inr (ci, fs)) :: ws) k n := by
  intro H locs ls hP hD hS hl
  obtain ⟨hx, hb, hml, hown, hts, hN, hlk, hR, hr, hi⟩ := C
  exact va_put hx hb hts hin ty0 hty hnm hown hN.1 hP hD hS 0 rfl hc j hj (hts _ hw) (fun x hx => hx) hf hpd hnv hfit hl0 hd (fun H1 locs1 hP1 hD1 hS1 => kk H1 locs1 ls hP1 hD1 hS1 hl)
theorem n_putF {ci j N index : Nat} {CN : String} {TN : u_T} {v : Value} {ty : FieldType} {fs : List Value} (C : CxN g p R s m args meth c cc own h mc ms) (hd : decode cc pc = .ok (.putfield index, 3)) (hc : vwCl[ci]? = some (CN, TN, N)) (hin : ∀ w ∈ u_ws CN TN N, w ∈ UU) (ty0 : Nat → FieldType) (hty : ∀ k, k < N → parseFieldDescriptor (TN k).2.2.1 = some (ty0 k)) (hnm : ∀ a, a < N → ∀ b, b < N → a ≠ b → (TN a).2.1 ≠ (TN b).2.1) (hj : j < N) (hw : Cond.fieldLink own index (TN j).1 (TN j).2.1 (TN j).2.2.1 ∈ UU) (hf : (TN j).2.2.2 = true) (ho : (TN j).1 = own) (hpd : parseFieldDescriptor (TN j).2.2.1 = some ty) (hnv : narrow ty v = v) (hfit : fits ty v = true) (hl0 : j < fs.length) (kk : JN g p l e R s m args below meth c h0 Q (pc + 3) st ((h0, .inr (ci, fs.set j v)) :: ws) k n) : JN g p l e R s m args below meth c h0 Q pc (v :: .ref h0 :: st) ((h0, .inr (ci, fs)) :: ws) k n := by
  intro H locs ls hP hD hS hl
  obtain ⟨hx, hb, hml, hown, hts, hN, hlk, hR, hr, hi⟩ := C
  exact va_putF hx hb hts hin ty0 hty hnm hown hN.1 hP hD hS 0 rfl hc j hj (hts _ hw) (fun x hx => hx) hf hi ho hpd hnv hfit hl0 hd (fun H1 locs1 hP1 hD1 hS1 => kk H1 locs1 ls hP1 hD1 hS1 hl)
theorem cls_same {D : va_G} {cl : List vw_C} {tys : List (ClassId × FieldType)} {V : State} {c1 c2 : ClassId} {ty : FieldType} {j : Nat} (hK : va_K D cl (tys ++ [(c2, ty)]) V) (hj : tys[j]? = some (c1, ty)) (ht : ∀ C, ty ≠ .object C) : c2 = c1 := by
  have h1 := (hK.2 j _ (by rw [List.getElem?_append_left (List.getElem?_eq_some_iff.mp hj).1]; exact hj)).2
  have h2 := (hK.2 tys.length _ (by rw [List.getElem?_append_right (Nat.le_refl _), Nat.sub_self]; rfl)).2
  cases ty with
  | object C => exact absurd rfl (ht C)
  | _ => exact Option.some.inj (h2.symm.trans h1)
theorem n_arrI {v : Int32} {N : Nat} (C : CxN g p R s m args meth c cc own h mc ms) (hd : decode cc pc = .ok (.newarray .int, 2)) (w : Cond.arrayClass .int ∈ UU) (hn : ¬ v < 0) (hN : v.toNatClampNeg = N) (hb4 : N * 4 ≤ 536870912) (hk : k + 1 ≤ mc) (hs : n + N ≤ ms) (kk : ∀ q, JN g p l e R s m args below meth c h0 Q (pc + 2) (.ref q :: st) (ws ++ [(q, .inl (gIc g, N, .inl (fun _ => 0)))]) (k + 1) (n + N)) : JN g p l e R s m args below meth c h0 Q pc (.int v :: st) ws k n := by
  intro H locs ls hP hD hS hl
  obtain ⟨hx, hb, hml, hown, hts, hNk, hlk, hR, hr, hi⟩ := C
  subst hR
  refine va_newa (a0 := (N, .inl (fun _ => 0))) (atype := .int) (ty := .int) hx hb (hts _ w) rfl hNk.1 hP hD hS (fun q hq => Or.inr hq) (fun cA => rfl) hn hN hb4 hk hs hd (fun q cA H1 hK1 hP1 hD1 hS1 => ?_)
  obtain rfl := cls_same (c1 := gIc g) (j := 1) hK1 rfl (fun C q => by cases q)
  exact kk q H1 locs ls hP1 hD1 hS1 hl
theorem n_arrJ {v : Int32} {N : Nat} (C : CxN g p R s m args meth c cc own h mc ms) (hd : decode cc pc = .ok (.newarray .long, 2)) (w : Cond.arrayClass .long ∈ UU) (hn : ¬ v < 0) (hN : v.toNatClampNeg = N) (hb4 : N * 8 ≤ 536870912) (hk : k + 1 ≤ mc) (hs : n + N ≤ ms) (kk : ∀ q, JN g p l e R s m args below meth c h0 Q (pc + 2) (.ref q :: st) (ws ++ [(q, .inl (gJc g, N, .inr (.inl (fun _ => 0))))]) (k + 1) (n + N)) : JN g p l e R s m args below meth c h0 Q pc (.int v :: st) ws k n := by
  intro H locs ls hP hD hS hl
  obtain ⟨hx, hb, hml, hown, hts, hNk, hlk, hR, hr, hi⟩ := C
  subst hR
  refine va_newa (a0 := (N, .inr (.inl (fun _ => 0)))) (atype := .long) (ty := .long) hx hb (hts _ w) rfl hNk.1 hP hD hS (fun q hq => Or.inr hq) (fun cA => rfl) hn hN hb4 hk hs hd (fun q cA H1 hK1 hP1 hD1 hS1 => ?_)
  obtain rfl := cls_same (c1 := gJc g) (j := 2) hK1 rfl (fun C q => by cases q)
  exact kk q H1 locs ls hP1 hD1 hS1 hl
theorem n_arrB {v : Int32} {N : Nat} (C : CxN g p R s m args meth c cc own h mc ms) (hd : decode cc pc = .ok (.newarray .byte, 2)) (w : Cond.arrayClass .byte ∈ UU) (hn : ¬ v < 0) (hN : v.toNatClampNeg = N) (hb4 : N * 1 ≤ 536870912) (hk : k + 1 ≤ mc) (hs : n + N ≤ ms) (kk : ∀ q, JN g p l e R s m args below meth c h0 Q (pc + 2) (.ref q :: st) (ws ++ [(q, .inl (gBc g, N, .inl (fun _ => 0)))]) (k + 1) (n + N)) : JN g p l e R s m args below meth c h0 Q pc (.int v :: st) ws k n := by
  intro H locs ls hP hD hS hl
  obtain ⟨hx, hb, hml, hown, hts, hNk, hlk, hR, hr, hi⟩ := C
  subst hR
  refine va_newa (a0 := (N, .inl (fun _ => 0))) (atype := .byte) (ty := .byte) hx hb (hts _ w) rfl hNk.1 hP hD hS (fun q hq => Or.inr hq) (fun cA => rfl) hn hN hb4 hk hs hd (fun q cA H1 hK1 hP1 hD1 hS1 => ?_)
  obtain rfl := cls_same (c1 := gBc g) (j := 0) hK1 rfl (fun C q => by cases q)
  exact kk q H1 locs ls hP1 hD1 hS1 hl
theorem n_ret {ci i : Nat} {nm : List (Nat × Nat)} (C : CxN g p R s m args meth c cc own h mc ms) (hd : decode cc pc = .ok (.return_, 1)) (hk : k ≤ mc) (hs : n ≤ ms) (a : Nat → Nat → Nat) (ha : a ci i = h0) (hw : ws = Wn g a nm) : JN g p l e R s m args below meth c h0 (MQ below (QN g h0 s.heap.size ci i nm) args s mc ms (Ak h0 s.heap.size)) pc [] ws k n := by
  intro H locs ls hP hD hS hl
  obtain ⟨hx, hb, hml, hown, hts, hNk, hlk, hR, hr, hi⟩ := C
  subst hw
  refine W.widen (k := mc) (n := ms) hk hs ?_
  exact W.vret hx hb hr (fun t ht hW => ⟨⟨a, rfl, trivial, ha, by rw [ht]; exact hP, hD⟩, hS.F ht⟩) hS.2.2 hd hlk
/-- new, dup, the constructor of a nest mate -/
theorem n_obj {ci N ix iy h2 mc2 ms2 i : Nat} {CN : String} {TN : u_T} {y : MethodName} {c2 : ByteArray} {host : String} {fs : List Value} {nm : List (Nat × Nat)} (C : CxN g p R s m args meth c cc own h mc ms) (ty0 : Nat → FieldType) (hty : ∀ k, k < N → parseFieldDescriptor (TN k).2.2.1 = some (ty0 k)) (hc : vwCl[ci]? = some (CN, TN, N)) (hin : ∀ w ∈ u_ws CN TN N, w ∈ UU) (w1 : Cond.classLink own ix CN ∈ UU) (w2 : Cond.instantiable CN N ∈ UU) (w3 : Cond.initialized CN ∈ UU) (hfs : ∀ j, j < N → defaultValue (ty0 j) = vp_V fs j)
    (d0 : decode cc pc = .ok (.new ix, 3)) (d3 : decode cc (pc + 3) = .ok (.dup, 1)) (d4 : decode cc (pc + 4) = .ok (.invokespecial iy, 3))
    (w4 : (own, iy, y, host) ∈ nestL) (hcn : y.cls = CN) (w5 : Cond.code y c2 1 none ∈ UU) (w6 : Cond.instanceMethod y ∈ UU) (hyn : y.name = "<init>") (hyd : y.cls ≠ "java/lang/invoke/MethodHandle" ∧ y.cls ≠ "java/lang/invoke/VarHandle" ∧ (parseMethodDescriptor y.desc).map (fun d => d.parameters.length) = some 0)
    (hM : Cn l g y c2 h2 mc2 ms2 ci i fs nm) (hh : h2 + 1 ≤ h) (hk : k + 1 + mc2 ≤ mc) (hs : n + N + ms2 ≤ ms) (hst : (st.map fun v => v.category).sum ≤ 7)
    (kk : ∀ a : Nat → Nat → Nat, JN g p l e R s m args below meth c h0 Q (pc + 7) (.ref (a ci i) :: st) (ws ++ Wn g a nm) (k + 1 + mc2) (n + N + ms2)) : JN g p l e R s m args below meth c h0 Q pc st ws k n := by
  intro H locs ls hP hD hS hl
  obtain ⟨hx, hb, hml, hown, hts, hNk, hlk, hR, hr, hi⟩ := C
  subst hR
  refine va_new (ci := ci) (fs := fs) hx hb hts hin ty0 hty hown (hts _ w1) (hts _ w2) (hts _ w3) hNk.1 hP hD hS (fun q hq => Or.inr hq) hc hfs (by show k + 1 ≤ mc; omega) (by show n + N ≤ ms; omega) d0 (fun q H1 hP1 hD1 hS1 => ?_)
  refine lv_dup hx hb d3 rfl ?_
  have hPq : va_P (gD g) vwCl [(q, .inr (ci, fs))] H1 := by
    intro j z hz
    have hj := (List.getElem?_eq_some_iff.mp hz).1
    simp only [List.length_singleton] at hj
    obtain rfl : j = 0 := by omega
    cases hz
    exact hP1 ws.length _ (by rw [List.getElem?_append_right (Nat.le_refl _), Nat.sub_self]; rfl)
  have hAq : Ak h0 s.heap.size q := hD1.2 ws.length _ (by rw [List.getElem?_append_right (Nat.le_refl _), Nat.sub_self]; rfl)
  have hA1 : ∀ z, Ak q H1.size z → Ak h0 s.heap.size z := by
    intro z hz
    rcases hz with rfl | hz
    · exact hAq
    · exact Or.inr (Nat.le_trans hS1.1 hz)
  have hrun := va_runIN (R := rmN h mc ms) (As := []) (b := q) (rest := .ref q :: st) (Ts := UU) (H := H1) (locs := locs) (cells := k + 1) (slots := n + N) (e := e) (below := below) (meth := meth) (g := F0 m (pc + 4) ls (.ref q :: .ref q :: st)) ⟨hx, hb, hml, hown, hts⟩ (hM q H1.size) ⟨va_cnB 0 hts (good_UU w5) rfl rfl rfl (hNk.2 _ w4) (by rw [hcn]; exact hts _ w3) hyd ⟨hh, by show 8 + (1 + 11) + 64 * h2 ≤ 64 * h; omega⟩, hyn, hts _ w6⟩ ⟨PcN.blind, fun U hU hW => ⟨rfl, by rw [hU], by rw [hU]; exact hPq, hNk.call hW⟩⟩ rfl rfl hl.1 rfl (lv_room (by simp only [List.map_cons, List.sum_cons]; show 1 + _ ≤ 8; omega)) d4 ⟨hk, hs⟩
  refine va_callv hrun hS1 (fun z _ hz => hA1 z hz) (fun z hz => hA1 z hz) (fun a t H2 locs2 ht hvm _ hB hz1 hk1 hS2 => ?_)
  obtain ⟨rfl, hPa, hDa⟩ := hB
  rw [ht] at hPa
  have hPw : va_P (gD g) vwCl ws H2 := by
    intro j z hz
    have hz1 : (ws ++ [(a ci i, Sum.inr (ci, fs))])[j]? = some z := by rw [List.getElem?_append_left (List.getElem?_eq_some_iff.mp hz).1]; exact hz
    refine (hP1 j z hz1).kept (hk1 z.1 (hP1 j z hz1).lt ?_)
    rintro (hq | hq)
    · have := hD1.1 j ws.length z _ hz1 (by rw [List.getElem?_append_right (Nat.le_refl _), Nat.sub_self]; rfl) hq
      have := (List.getElem?_eq_some_iff.mp hz).1
      omega
    · exact absurd (hP1 j z hz1).lt (Nat.not_lt.mpr hq)
  have hDw : va_D (Ak h0 s.heap.size) ws := hD
  refine kk a H2 locs2 ls (hPw.app hPa) (hDw.app ⟨hDa.1, fun j z hz => hA1 _ (hDa.2 j z hz)⟩ ?_) hS2 hl
  intro i1 j1 z1 z2 hz1 hz2 he
  have hz3 : (ws ++ [(a ci i, Sum.inr (ci, fs))])[i1]? = some z1 := by rw [List.getElem?_append_left (List.getElem?_eq_some_iff.mp hz1).1]; exact hz1
  rcases hDa.2 j1 z2 hz2 with hq | hq
  · have := hD1.1 i1 ws.length z1 _ hz3 (by rw [List.getElem?_append_right (Nat.le_refl _), Nat.sub_self]; rfl) (he.trans hq)
    have := (List.getElem?_eq_some_iff.mp hz1).1
    omega
  · exact absurd (hP1 i1 z1 hz3).lt (Nat.not_lt.mpr (by rw [he]; exact hq))
end NRows
