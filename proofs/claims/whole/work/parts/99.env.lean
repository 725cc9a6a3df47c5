/-! ===== what stands at the law's start ===== -/
def OS (g : Gm) (A : Nat → Prop) (V : State) : Prop :=
  (va_Z "GapLinks$Envelope" "DOWNSTREAM" "[I" (.ref (gT g)) A V V.heap ∧ va_T .int (gT g) 10 (fun j => .int (dsv.getD j 0)) A V V.heap) ∧
  (vk_S 13 slen sbyt (gK g) (gV g) A V V.heap ∧ ∀ j, j < 13 → vk_R "GapLinksModel" (strL.getD j (0, "")).1 (strL.getD j (0, "")).2 (gK g j) V) ∧
  (va_Z "java/lang/String" "COMPACT_STRINGS" "Z" (.int 1) A V V.heap ∧ va_Zq "jdk/internal/util/Preconditions" "SIOOBE_FORMATTER" "Ljava/util/function/BiFunction;" A V V.heap) ∧
  (va_Nw (.castable nse nse) V ∧ va_Nw (.declares (Bundle.init0 "java/lang/RuntimeException")) V ∧ va_Nw (.declares (Bundle.init0 "java/lang/Exception")) V ∧ va_Nw (.declares (Bundle.init0 Bundle.tN)) V) ∧
  vx_Zq Bundle.tN "UNASSIGNED_STACK" Bundle.steD A V V.heap ∧ vx_Zq Bundle.tN "SUPPRESSED_SENTINEL" Bundle.listD A V V.heap
theorem OS.St {g : Gm} {A : Nat → Prop} {V : State} (h : OS g A V) (hG : GI g) (hN : NK g V) (hA : ∀ q, gA g q → A q) : St g V ∧ XS g V := by
  obtain ⟨⟨h1, h2⟩, ⟨h3, h4⟩, ⟨h5, h6⟩, h7, h8, h9⟩ := h
  exact ⟨⟨hG, hN.1, hN.2, ⟨h1.narrow hA, h2.narrow hA⟩, ⟨h3.narrow hA, h4⟩, ⟨h5.narrow hA, h6.narrow hA⟩⟩, h7, h8.narrow hA, h9.narrow hA⟩
def NW : List Cond := flatC (Jvm.Cond.and given_1 narrow_1)
def stm (i : Nat) : Term := .string "GapLinksModel" (strL.getD i (0, "")).1
def dst : Term := .static "GapLinks$Envelope" "DOWNSTREAM" "[I"
set_option maxRecDepth 100000 in
theorem nw_ex : ∀ i : Nat, i < 13 → Cond.exactly (stm i) "java/lang/String" ∈ NW := by decide +kernel
set_option maxRecDepth 100000 in
theorem nw_co : ∀ i : Nat, i < 13 → Cond.eq (.field (stm i) "java/lang/String" "coder" "B") (.int 0) ∈ NW := by decide +kernel
set_option maxRecDepth 100000 in
theorem nw_ar : ∀ i : Nat, i < 13 → Cond.arrayOf (.field (stm i) "java/lang/String" "value" "[B") .byte ∈ NW := by decide +kernel
set_option maxRecDepth 100000 in
theorem nw_le : ∀ i : Nat, i < 13 → Cond.eq (.length (.field (stm i) "java/lang/String" "value" "[B")) (.int (Int32.ofNat (slen.getD i 0))) ∈ NW := by decide +kernel
set_option maxRecDepth 100000 in
theorem nw_el : ∀ i : Nat, i < 13 → ∀ j : Nat, j < slen.getD i 0 → Cond.eq (.elem (.field (stm i) "java/lang/String" "value" "[B") (.int (Int32.ofNat j))) (.int ((sbyt.getD i []).getD j 0)) ∈ NW := by decide +kernel
theorem nw_sl : ∀ i : Nat, i < 13 → slen.getD i 0 < 2 ^ 31 := by decide +kernel
set_option maxRecDepth 100000 in
theorem nw_da : Cond.arrayOf dst .int ∈ NW := by decide +kernel
set_option maxRecDepth 100000 in
theorem nw_dl : Cond.eq (.length dst) (.int (Int32.ofNat 10)) ∈ NW := by decide +kernel
set_option maxRecDepth 100000 in
theorem nw_de : ∀ j : Nat, j < 10 → Cond.eq (.elem dst (.int (Int32.ofNat j))) (.int (dsv.getD j 0)) ∈ NW := by decide +kernel
set_option maxRecDepth 100000 in
theorem nw_cs : Cond.eq (.static "java/lang/String" "COMPACT_STRINGS" "Z") (.int 1) ∈ NW := by decide +kernel
set_option maxRecDepth 100000 in
theorem nw_si : Cond.isRef (.static "jdk/internal/util/Preconditions" "SIOOBE_FORMATTER" "Ljava/util/function/BiFunction;") ∈ NW := by decide +kernel
set_option maxRecDepth 100000 in
theorem nw_us : Cond.isRef (.static Bundle.tN "UNASSIGNED_STACK" Bundle.steD) ∈ NW := by decide +kernel
set_option maxRecDepth 100000 in
theorem nw_ss : Cond.isRef (.static Bundle.tN "SUPPRESSED_SENTINEL" Bundle.listD) ∈ NW := by decide +kernel
set_option maxRecDepth 100000 in
theorem tb_l1 : (Cond.laysStatic "GapLinks$Envelope" "DOWNSTREAM" "[I" : Cond) ∈ tables_1 := by decide +kernel
set_option maxRecDepth 100000 in
theorem tb_l2 : (Cond.laysStatic "java/lang/String" "COMPACT_STRINGS" "Z" : Cond) ∈ tables_1 := by decide +kernel
set_option maxRecDepth 100000 in
theorem tb_l3 : (Cond.laysStatic "jdk/internal/util/Preconditions" "SIOOBE_FORMATTER" "Ljava/util/function/BiFunction;" : Cond) ∈ tables_1 := by decide +kernel
set_option maxRecDepth 100000 in
theorem tb_l4 : (Cond.laysStatic Bundle.tN "UNASSIGNED_STACK" Bundle.steD : Cond) ∈ tables_1 := by decide +kernel
set_option maxRecDepth 100000 in
theorem tb_l5 : (Cond.laysStatic Bundle.tN "SUPPRESSED_SENTINEL" Bundle.listD : Cond) ∈ tables_1 := by decide +kernel
set_option maxRecDepth 100000 in
theorem tb_x1 : (Cond.castable nse nse : Cond) ∈ tables_1 := by decide +kernel
set_option maxRecDepth 100000 in
theorem tb_x2 : (Cond.declares (Bundle.init0 "java/lang/RuntimeException") : Cond) ∈ tables_1 := by decide +kernel
set_option maxRecDepth 100000 in
theorem tb_x3 : (Cond.declares (Bundle.init0 "java/lang/Exception") : Cond) ∈ tables_1 := by decide +kernel
set_option maxRecDepth 100000 in
theorem tb_x4 : (Cond.declares (Bundle.init0 Bundle.tN) : Cond) ∈ tables_1 := by decide +kernel
set_option maxRecDepth 100000 in
theorem tb_nest : ∀ q ∈ nestL, Cond.methodLinkNest q.1 q.2.1 q.2.2.1 q.2.2.2 ∈ tables_1 := by decide +kernel
set_option maxRecDepth 100000 in
theorem tb_str : ∀ j : Nat, j < 13 → Cond.stringRef "GapLinksModel" (strL.getD j (0, "")).1 (strL.getD j (0, "")).2 ∈ tables_1 := by decide +kernel
