abbrev Hp : Type := (Nat → Nat → Nat → Int32) × (Nat → Nat → Nat → Int64) × (Nat → Nat)
abbrev Gm : Type := va_G × (Nat → Nat → Nat) × (ClassId × ClassId × ClassId) × Nat × (Nat → Nat) × (Nat → Nat)
def cntL : List Nat := [3, 1, 2, 3, 1, 3, 2, 1, 1, 3, 3, 3, 3, 3, 3, 3, 3, 3, 3, 1, 1, 1, 2, 2, 2, 2, 2, 2, 2, 2, 3, 3, 3, 3, 3, 3, 3, 1, 3, 3, 3, 3, 3, 3, 3, 3, 3, 2, 2, 2, 2, 2, 1, 1, 1, 1, 1, 1, 1, 1, 1, 1, 1, 1, 1]
def akdL : List Nat := [0, 0, 0, 0, 0, 0, 0, 0, 0, 1, 1, 1, 1, 1, 1, 1, 1, 1, 1, 1, 2, 2, 1, 2, 2, 1, 1, 1, 1, 1, 1, 1, 1, 1, 1, 1, 1, 3, 1, 1, 1, 1, 1, 1, 1, 1, 1, 1, 1, 1, 1, 1, 1, 1, 1, 1, 1, 1, 1, 2, 2, 1, 1, 1, 2]
def alnL : List Nat := [0, 0, 0, 0, 0, 0, 0, 0, 0, 24, 24, 24, 24, 24, 24, 24, 24, 48, 240, 16, 16, 128, 6, 6, 8, 8, 8, 8, 8, 24, 32, 32, 32, 32, 384, 384, 384, 900, 2, 6, 8, 8, 8, 8, 8, 16, 16, 96, 24, 16, 128, 128, 900, 7, 7, 6, 6, 56, 56, 14, 14, 1809, 1809, 1809, 1]
def cnt (n : Nat) : Nat := cntL.getD n 0
def akd (n : Nat) : Nat := akdL.getD n 0
def aln (n : Nat) : Nat := alnL.getD n 0
def fsp : Nat → List (Nat × Nat × Nat × Nat) := fun n => match n with
  | 0 => [(0, 0, 0, 0), (1, 2, 9, 0), (2, 2, 10, 0), (3, 2, 11, 0), (4, 2, 12, 0), (5, 2, 13, 0), (6, 2, 14, 0), (7, 2, 15, 0), (8, 2, 16, 0), (9, 2, 17, 0), (10, 2, 18, 0)]
  | 1 => [(0, 0, 0, 0), (1, 2, 19, 0), (2, 2, 20, 0), (3, 2, 21, 0)]
  | 2 => [(0, 0, 0, 0), (1, 0, 0, 0), (2, 0, 0, 0), (3, 0, 0, 0), (4, 0, 0, 0), (5, 0, 0, 0), (6, 0, 0, 0), (7, 2, 22, 0), (8, 2, 23, 0), (9, 2, 24, 0), (10, 2, 25, 0), (11, 2, 26, 0), (12, 2, 27, 0), (13, 2, 28, 0), (14, 2, 29, 0), (15, 2, 6, 0)]
  | 3 => [(0, 0, 0, 0), (1, 2, 30, 0), (2, 2, 31, 0), (3, 2, 32, 0), (4, 2, 33, 0), (5, 2, 34, 0), (6, 2, 35, 0), (7, 2, 36, 0)]
  | 4 => [(0, 2, 37, 0), (1, 0, 0, 0), (2, 3, 2, 1), (3, 0, 0, 0), (4, 0, 0, 0), (5, 0, 0, 0), (6, 0, 0, 0), (7, 1, 0, 0), (8, 0, 0, 0), (9, 0, 0, 0), (10, 0, 0, 0), (11, 0, 0, 0)]
  | 5 => [(0, 0, 0, 0), (1, 2, 38, 0), (2, 2, 39, 0), (3, 2, 40, 0), (4, 2, 41, 0), (5, 2, 42, 0), (6, 2, 43, 0), (7, 2, 44, 0), (8, 2, 45, 0), (9, 2, 46, 0), (10, 2, 3, 0), (11, 2, 0, 0)]
  | 6 => [(0, 2, 47, 0), (1, 2, 48, 0), (2, 2, 49, 0), (3, 2, 50, 0), (4, 2, 51, 0)]
  | 7 => [(0, 2, 4, 0), (1, 3, 2, 0), (2, 2, 1, 0), (3, 2, 5, 1), (4, 2, 5, 2), (5, 2, 5, 3), (6, 0, 0, 0), (7, 0, 0, 0), (8, 0, 0, 0), (9, 0, 0, 0)]
  | 8 => [(0, 0, 0, 0), (1, 0, 0, 0), (2, 0, 0, 0), (3, 0, 0, 0), (4, 2, 52, 0), (5, 0, 0, 0), (6, 2, 53, 0), (7, 2, 54, 0), (8, 2, 55, 0), (9, 2, 56, 0), (10, 2, 57, 0), (11, 2, 58, 0), (12, 2, 59, 0), (13, 2, 60, 0), (14, 0, 0, 0), (15, 0, 0, 0), (16, 0, 0, 0), (17, 0, 0, 0), (18, 0, 0, 0), (19, 0, 0, 0), (20, 1, 0, 0), (21, 0, 0, 0), (22, 0, 0, 0), (23, 0, 0, 0), (24, 2, 61, 0), (25, 2, 62, 0), (26, 2, 63, 0), (27, 0, 0, 0), (28, 0, 0, 0)]
  | _ => []
def dom : List (Nat × Nat) := [(0, 0), (0, 1), (0, 2), (1, 0), (2, 0), (2, 1), (3, 0), (3, 1), (3, 2), (4, 0), (5, 0), (5, 1), (5, 2), (6, 0), (6, 1), (7, 0), (8, 0), (9, 0), (9, 1), (9, 2), (10, 0), (10, 1), (10, 2), (11, 0), (11, 1), (11, 2), (12, 0), (12, 1), (12, 2), (13, 0), (13, 1), (13, 2), (14, 0), (14, 1), (14, 2), (15, 0), (15, 1), (15, 2), (16, 0), (16, 1), (16, 2), (17, 0), (17, 1), (17, 2), (18, 0), (18, 1), (18, 2), (19, 0), (20, 0), (21, 0), (22, 0), (22, 1), (23, 0), (23, 1), (24, 0), (24, 1), (25, 0), (25, 1), (26, 0), (26, 1), (27, 0), (27, 1), (28, 0), (28, 1), (29, 0), (29, 1), (30, 0), (30, 1), (30, 2), (31, 0), (31, 1), (31, 2), (32, 0), (32, 1), (32, 2), (33, 0), (33, 1), (33, 2), (34, 0), (34, 1), (34, 2), (35, 0), (35, 1), (35, 2), (36, 0), (36, 1), (36, 2), (37, 0), (38, 0), (38, 1), (38, 2), (39, 0), (39, 1), (39, 2), (40, 0), (40, 1), (40, 2), (41, 0), (41, 1), (41, 2), (42, 0), (42, 1), (42, 2), (43, 0), (43, 1), (43, 2), (44, 0), (44, 1), (44, 2), (45, 0), (45, 1), (45, 2), (46, 0), (46, 1), (46, 2), (47, 0), (47, 1), (48, 0), (48, 1), (49, 0), (49, 1), (50, 0), (50, 1), (51, 0), (51, 1), (52, 0), (53, 0), (54, 0), (55, 0), (56, 0), (57, 0), (58, 0), (59, 0), (60, 0), (61, 0), (62, 0), (63, 0), (64, 0)]
def nestL : List (String × Nat × MethodName × String) := [("GapLinks", 11, ⟨"GapLinks$Reader", "<init>", "()V"⟩, "GapLinks"), ("GapLinks$Reader", 21, ⟨"GapLinks$Plan", "<init>", "()V"⟩, "GapLinks"), ("GapLinks$Plan", 61, ⟨"GapLinks$Ways", "<init>", "()V"⟩, "GapLinks"), ("GapLinks", 18, ⟨"GapLinks$Plan", "<init>", "()V"⟩, "GapLinks"), ("GapLinks", 25, ⟨"GapLinks$Envelope", "<init>", "()V"⟩, "GapLinks"), ("GapLinks", 32, ⟨"GapLinks$State", "<init>", "()V"⟩, "GapLinks"), ("GapLinks$State", 45, ⟨"GapLinks$Ports", "<init>", "()V"⟩, "GapLinks"), ("GapLinks$State", 52, ⟨"GapLinks$Ears", "<init>", "()V"⟩, "GapLinks"), ("GapLinks$Plan", 73, ⟨"GapLinks", "earOf", "(II)I"⟩, "GapLinks"), ("GapLinks$Reader", 185, ⟨"GapLinks", "earOf", "(II)I"⟩, "GapLinks"), ("GapLinks$Ways", 42, ⟨"GapLinks", "earOf", "(II)I"⟩, "GapLinks"), ("GapLinks$State", 198, ⟨"GapLinks", "numberBehind", "(I)I"⟩, "GapLinks"), ("GapLinks$Ears", 80, ⟨"GapLinks", "numberBehind", "(I)I"⟩, "GapLinks"), ("GapLinks$State", 76, ⟨"GapLinks", "copyAll", "([I[I)V"⟩, "GapLinks"), ("GapLinks$Ports", 43, ⟨"GapLinks", "copyAll", "([I[I)V"⟩, "GapLinks"), ("GapLinks$Ears", 52, ⟨"GapLinks", "copyAll", "([I[I)V"⟩, "GapLinks"), ("GapLinks$Ears", 65, ⟨"GapLinks", "earOf", "(II)I"⟩, "GapLinks")]
def strL : List (Nat × String) := [(128, "bus"), (145, "switches"), (151, "room"), (153, "jitter"), (155, "window"), (157, "skew"), (130, "end"), (132, "link"), (162, "at"), (177, "from"), (164, "gap"), (182, "length"), (183, "to")]
def slen : List Nat := [3, 8, 4, 6, 6, 4, 3, 4, 2, 4, 3, 6, 2]
def sbyt : List (List Int32) := [[98, 117, 115], [115, 119, 105, 116, 99, 104, 101, 115], [114, 111, 111, 109], [106, 105, 116, 116, 101, 114], [119, 105, 110, 100, 111, 119], [115, 107, 101, 119], [101, 110, 100], [108, 105, 110, 107], [97, 116], [102, 114, 111, 109], [103, 97, 112], [108, 101, 110, 103, 116, 104], [116, 111]]
def dsv : List Int32 := [12, 13, 15, 14, 6, 7, 8, 9, 10, 11]
def gD (g : Gm) : va_G := g.1
def gad (g : Gm) : Nat → Nat → Nat := g.2.1
def gBc (g : Gm) : ClassId := g.2.2.1.1
def gIc (g : Gm) : ClassId := g.2.2.1.2.1
def gJc (g : Gm) : ClassId := g.2.2.1.2.2
def gT (g : Gm) : Nat := g.2.2.2.1
def gK (g : Gm) : Nat → Nat := g.2.2.2.2.1
def gV (g : Gm) : Nat → Nat := g.2.2.2.2.2
def ctys (g : Gm) : List (ClassId × FieldType) := [(gBc g, .byte), (gIc g, .int), (gJc g, .long)]
/-- the cells of the logical heap lie apart -/
def GI (g : Gm) : Prop := ∀ n i a b, i < cnt n → b < cnt a → gad g n i = gad g a b → n = a ∧ i = b
def gA (g : Gm) : Nat → Prop := fun q => ∃ n i, i < cnt n ∧ q = gad g n i
def gI (σ : Hp) (n i k : Nat) : Int32 := σ.1 n i k
def gL (σ : Hp) (n i k : Nat) : Int64 := σ.2.1 n i k
def gR (σ : Hp) (r : Nat) : Nat := σ.2.2 r
def sI (σ : Hp) (n i k : Nat) (v : Int32) : Hp := (fun a b c => if a = n ∧ b = i ∧ c = k then v else σ.1 a b c, σ.2)
def sL (σ : Hp) (n i k : Nat) (v : Int64) : Hp := (σ.1, fun a b c => if a = n ∧ b = i ∧ c = k then v else σ.2.1 a b c, σ.2.2)
def sR (σ : Hp) (r : Nat) (v : Nat) : Hp := (σ.1, σ.2.1, fun q => if q = r then v else σ.2.2 q)
def fval (g : Gm) (fi : Nat → Int32) (fl : Nat → Int64) (fr : Nat → Nat) (i : Nat) (q : Nat × Nat × Nat × Nat) : Value := match q.2.1 with
  | 0 => .int (fi q.1)
  | 1 => .long (fl q.1)
  | 2 => .ref (gad g q.2.2.1 (if q.2.2.2 = 0 then i else q.2.2.2 - 1))
  | _ => .ref (gad g q.2.2.1 (fr q.2.2.2))
def fsO (g : Gm) (fi : Nat → Int32) (fl : Nat → Int64) (fr : Nat → Nat) (n i : Nat) : List Value := (fsp n).map (fval g fi fl fr i)
def cell0 (g : Gm) (fi : Nat → Int32) (fl : Nat → Int64) (fr : Nat → Nat) (n i : Nat) : va_E := match akd n with
  | 0 => .inr (n, fsO g fi fl fr n i)
  | 1 => .inl (gIc g, aln n, .inl fi)
  | 2 => .inl (gJc g, aln n, .inr (.inl fl))
  | _ => .inl (gBc g, aln n, .inl fi)
def fsOf (g : Gm) (σ : Hp) (n i : Nat) : List Value := fsO g (σ.1 n i) (σ.2.1 n i) σ.2.2 n i
def cell (g : Gm) (σ : Hp) (n i : Nat) : va_E := cell0 g (σ.1 n i) (σ.2.1 n i) σ.2.2 n i
def WS (g : Gm) (σ : Hp) : va_W := dom.map (fun q => (gad g q.1 q.2, cell g σ q.1 q.2))
theorem dom_nd : dom.Nodup := by decide +kernel
theorem dom_cnt : ∀ q ∈ dom, q.2 < cnt q.1 := by decide +kernel
theorem dom_allB : ((List.range 65).all fun n => (List.range 3).all fun i => !(decide (i < cnt n)) || dom.contains (n, i)) = true := by decide +kernel
theorem dom_all (n : Nat) (hn : n < 65) (i : Nat) (hi : i < 3) (h : i < cnt n) : (n, i) ∈ dom := by
  have h1 := List.all_eq_true.mp (List.all_eq_true.mp dom_allB n (List.mem_range.mpr hn)) i (List.mem_range.mpr hi)
  simp only [Bool.or_eq_true, Bool.not_eq_true', decide_eq_false_iff_not, List.contains_iff_mem] at h1
  exact h1.resolve_left (fun q => q h)
theorem cnt_le3 : ∀ n, n < 65 → cnt n ≤ 3 := by decide +kernel
theorem cnt_big {n : Nat} (h : 65 ≤ n) : cnt n = 0 := by
  unfold cnt
  rw [List.getD_eq_getElem?_getD, List.getElem?_eq_none (by exact h)]
  rfl
theorem in_dom {n i : Nat} (h : i < cnt n) : (n, i) ∈ dom := by
  rcases Nat.lt_or_ge n 65 with q | q
  · exact dom_all n q i (Nat.lt_of_lt_of_le h (cnt_le3 n q)) h
  · rw [cnt_big q] at h
    exact absurd h (Nat.not_lt_zero _)
theorem WS_at (g : Gm) (σ : Hp) {n i : Nat} (h : i < cnt n) : ∃ k : Nat, dom[k]? = some (n, i) ∧ (WS g σ)[k]? = some (gad g n i, cell g σ n i) := by
  obtain ⟨k, hk⟩ := List.getElem?_of_mem (in_dom h)
  exact ⟨k, hk, by rw [WS, List.getElem?_map, hk]; rfl⟩
theorem WS_of (g : Gm) (σ : Hp) {k : Nat} {q : Nat × va_E} (h : (WS g σ)[k]? = some q) : ∃ n i, dom[k]? = some (n, i) ∧ i < cnt n ∧ q = (gad g n i, cell g σ n i) := by
  rw [WS, List.getElem?_map] at h
  cases hd : dom[k]? with
  | none => rw [hd] at h; cases h
  | some p =>
    rw [hd] at h
    obtain ⟨n, i⟩ := p
    exact ⟨n, i, rfl, dom_cnt _ (List.mem_of_getElem? hd), (Option.some.inj h).symm⟩
theorem WS_D {g : Gm} (hg : GI g) (σ : Hp) : va_D (gA g) (WS g σ) := by
  refine ⟨fun i j p q hi hj hpq => ?_, fun k q hk => ?_⟩
  · obtain ⟨n, a, h1, h2, rfl⟩ := WS_of g σ hi
    obtain ⟨n', a', h1', h2', rfl⟩ := WS_of g σ hj
    obtain ⟨rfl, rfl⟩ := hg _ _ _ _ h2 h2' hpq
    have hli : i < dom.length := (List.getElem?_eq_some_iff.mp h1).1
    exact (List.getElem?_inj hli dom_nd).mp (h1.trans h1'.symm)
  · obtain ⟨n, a, -, h2, rfl⟩ := WS_of g σ hk
    exact ⟨n, a, h2, rfl⟩
theorem WS_set {g : Gm} {σ σ' : Hp} {n i k : Nat} {e : va_E} {H : Heap} {D : va_G} {cl : List vw_C} (hd : dom[k]? = some (n, i)) (hP : va_P D cl ((WS g σ).set k (gad g n i, e)) H) (he : cell g σ' n i = e) (ho : ∀ a b, b < cnt a → ¬ (a = n ∧ b = i) → cell g σ' a b = cell g σ a b) : va_P D cl (WS g σ') H := by
  intro j q hj
  obtain ⟨a, b, h1, h2, rfl⟩ := WS_of g σ' hj
  have hlk : k < (WS g σ).length := by rw [WS, List.length_map]; exact (List.getElem?_eq_some_iff.mp hd).1
  by_cases hab : a = n ∧ b = i
  · obtain ⟨rfl, rfl⟩ := hab
    have := hP k (gad g a b, e) (by rw [List.getElem?_set_self hlk])
    rw [he]
    exact this
  · have hjk : k ≠ j := fun h => hab (by rw [← h, hd] at h1; exact ⟨congrArg Prod.fst (Option.some.inj h1).symm, congrArg Prod.snd (Option.some.inj h1).symm⟩)
    have := hP j (gad g a b, cell g σ a b) (by rw [List.getElem?_set_ne hjk, WS, List.getElem?_map, h1]; rfl)
    rw [ho a b h2 hab]
    exact this
theorem sI_fi {σ : Hp} {n i k a b : Nat} {v : Int32} (h : ¬ (a = n ∧ b = i)) : (sI σ n i k v).1 a b = σ.1 a b := by
  funext c
  exact if_neg (fun q => h ⟨q.1, q.2.1⟩)
theorem sL_fl {σ : Hp} {n i k a b : Nat} {v : Int64} (h : ¬ (a = n ∧ b = i)) : (sL σ n i k v).2.1 a b = σ.2.1 a b := by
  funext c
  exact if_neg (fun q => h ⟨q.1, q.2.1⟩)
theorem sI_self {σ : Hp} {n i k : Nat} {v : Int32} : (sI σ n i k v).1 n i = upd (σ.1 n i) k v := by
  funext c
  by_cases h : c = k
  · subst h; simp [sI, upd]
  · simp [sI, upd, h]
theorem sL_self {σ : Hp} {n i k : Nat} {v : Int64} : (sL σ n i k v).2.1 n i = vp_updL (σ.2.1 n i) k v := by
  funext c
  by_cases h : c = k
  · subst h; simp [sL, vp_updL]
  · simp [sL, vp_updL, h]
theorem cell_sI_ne {g : Gm} {σ : Hp} {n i k a b : Nat} {v : Int32} (h : ¬ (a = n ∧ b = i)) : cell g (sI σ n i k v) a b = cell g σ a b := by
  unfold cell
  rw [sI_fi h]
  rfl
theorem cell_sL_ne {g : Gm} {σ : Hp} {n i k a b : Nat} {v : Int64} (h : ¬ (a = n ∧ b = i)) : cell g (sL σ n i k v) a b = cell g σ a b := by
  unfold cell
  rw [sL_fl h]
  rfl
theorem cell_i {g : Gm} {σ : Hp} {n i : Nat} (h : akd n = 1) : cell g σ n i = .inl (gIc g, aln n, .inl (σ.1 n i)) := by
  unfold cell cell0; rw [h]; rfl
theorem cell_l {g : Gm} {σ : Hp} {n i : Nat} (h : akd n = 2) : cell g σ n i = .inl (gJc g, aln n, .inr (.inl (σ.2.1 n i))) := by
  unfold cell cell0; rw [h]; rfl
theorem cell_b {g : Gm} {σ : Hp} {n i : Nat} (h : akd n = 3) : cell g σ n i = .inl (gBc g, aln n, .inl (σ.1 n i)) := by
  unfold cell cell0; rw [h]; rfl
theorem cell_o {g : Gm} {σ : Hp} {n i : Nat} (h : akd n = 0) : cell g σ n i = .inr (n, fsOf g σ n i) := by
  unfold cell cell0; rw [h]; rfl
/-! what stands outside the logical heap: classes, nest mates, the static row, String constants -/
def St (g : Gm) (V : State) : Prop :=
  GI g ∧ va_K (gD g) vwCl (ctys g) V ∧ (∀ q ∈ nestL, va_Nw (.methodLinkNest q.1 q.2.1 q.2.2.1 q.2.2.2) V) ∧
  (va_Z "GapLinks$Envelope" "DOWNSTREAM" "[I" (.ref (gT g)) (gA g) V V.heap ∧ va_T .int (gT g) 10 (fun j => .int (dsv.getD j 0)) (gA g) V V.heap) ∧
  (vk_S 13 slen sbyt (gK g) (gV g) (gA g) V V.heap ∧ ∀ j, j < 13 → vk_R "GapLinksModel" (strL.getD j (0, "")).1 (strL.getD j (0, "")).2 (gK g j) V) ∧
  (va_Z "java/lang/String" "COMPACT_STRINGS" "Z" (.int 1) (gA g) V V.heap ∧ va_Zq "jdk/internal/util/Preconditions" "SIOOBE_FORMATTER" "Ljava/util/function/BiFunction;" (gA g) V V.heap)
theorem St.call {g : Gm} {s U : State} {H : Heap} {locs : List Loc} (h : St g s) (hS : va_S (gA g) s.heap H locs) (hU : U.heap = H) (hW : s.WarmedH U.vm) : St g U := by
  obtain ⟨h1, h2, h3, ⟨h4, h5⟩, ⟨h6, h7⟩, ⟨h8, h9⟩⟩ := h
  subst hU
  exact ⟨h1, va_K.moved hW.alike h2, fun q hq => (h3 q hq).warmM hW, ⟨(h4.moved hW.alike).kept hS.2.1, (h5.moved hW.alike).kept hS.2.1⟩, ⟨(h6.moved hW.alike).kept hS.2.1, fun j hj => (h7 j hj).warm hW⟩, ⟨(h8.moved hW.alike).kept hS.2.1, (h9.moved hW.alike).kept hS.2.1⟩⟩
theorem St.same {g : Gm} {u U : State} (hv : U.vm = u.vm) (hh : U.heap = u.heap) (h : St g u) : St g U := by
  obtain ⟨h1, h2, h3, ⟨h4, h5⟩, ⟨h6, h7⟩, ⟨h8, h9⟩⟩ := h
  have ha : u.vm.Alike U.vm := by rw [hv]; exact Vm.Alike.refl _
  exact ⟨h1, va_K.moved ha h2, fun q hq => (h3 q hq).same rfl hv.symm, ⟨by rw [hh]; exact h4.moved ha, by rw [hh]; exact h5.moved ha⟩, ⟨by rw [hh]; exact h6.moved ha, fun j hj => (h7 j hj).same hv⟩, ⟨by rw [hh]; exact h8.moved ha, by rw [hh]; exact h9.moved ha⟩⟩
/-! the judgement G, contracts Ct -/
def rmH (h : Nat) : Room := { frames := h, cells := 0, slots := 0, locals := 64 * h }
def QcOf (g : Gm) (Q : Option Value → Hp → Prop) : Array Value → State → Outcome → State → Prop := fun _ st oc t => (∃ (r : Option Value) (σ : Hp), oc = .returned r ∧ Q r σ ∧ va_P (gD g) vwCl (WS g σ) t.heap) ∧ va_F (gA g) st t
def PcOf (g : Gm) (av : List Value) (σ : Hp) : Array Value → State → Prop := va_Pc av (fun V => va_P (gD g) vwCl (WS g σ) V.heap ∧ St g V)
def Ct (l : Launch) (g : Gm) (y : MethodName) (cc : ByteArray) (maxL : Nat) (ret : Option FieldType) (h : Nat) (av : List Value) (σ : Hp) (Q : Option Value → Hp → Prop) : Prop :=
  Met l y (.code y cc maxL ret :: UU) (rmH h) (PcOf g av σ) (QcOf g Q) 0 0 (gA g)
def Cx (g : Gm) (p : Program) (R : Room) (s : State) (m : MethodId) (args : Array Value) (meth : Method) (c : Code) (cc : ByteArray) (nL : Nat) (own : String) (ret : Option FieldType) (h : Nat) : Prop :=
  p.tables.exec = Jvm.exec ∧ c.code = cc ∧ c.maxLocals = nL ∧ s.vm.findClass own = some m.cls ∧ (∀ w ∈ UU, w.before args s = true) ∧ St g s ∧ meth.locks = false ∧ R = rmH h ∧ meth.sig.returnType = ret
def G (g : Gm) (p : Program) (l : Launch) (e : Env) (R : Room) (s : State) (m : MethodId) (args : Array Value) (below : List Frame) (meth : Method) (c : Code) (Q : Option Value → Hp → Prop) (nL : Nat) (pc : Nat) (lv : List (Nat × Value)) (st : List Value) (σ : Hp) : Prop :=
  ∀ (H : Heap) (locs : List Loc) (ls : Array Slot), va_P (gD g) vwCl (WS g σ) H → va_S (gA g) s.heap H locs → lv_has ls nL lv → W p l e R s m args below meth c H locs 0 0 (MQ below (QcOf g Q) args s 0 0 (gA g)) (F0 m pc ls st)
theorem Ct.of {l : Launch} {g : Gm} {y : MethodName} {cc : ByteArray} {maxL : Nat} {ret : Option FieldType} {h : Nat} {av : List Value} {σ : Hp} {Q : Option Value → Hp → Prop} (hy : plainName y.cls = true) (ha : (lg_sl av).length ≤ maxL)
    (body : ∀ p e R s m args below meth c, Cx g p R s m args meth c cc maxL y.cls ret h → G g p l e R s m args below meth c Q maxL 0 (lv_args 0 av) [] σ) : Ct l g y cc maxL ret h av σ Q := by
  refine Met.ofW (cc := cc) (maxL := maxL) (ret := ret) hy rfl ?_
  intro p e s m args below meth c s₁ B hml hv
  obtain ⟨rfl, hP, hSt⟩ := hv
  have hts := atoms_spec (ws := .code y cc maxL ret :: UU) B.pre
  have hl := lv_entry av (n := maxL) ha
  rw [lg_entry_eq]
  exact body p e (rmH h) s m _ below meth c ⟨B.exec, B.bytes, hml, findClass_of_methodNamed B.named, fun w hw => hts w (List.mem_cons_of_mem _ hw), hSt, B.notSynchronized, rfl, B.returns⟩ s.heap [] _ hP va_S.rf hl
