abbrev jrem (x y : Int32) : Int32 := x - x / y * y
abbrev jlrem (x y : Int64) : Int64 := x - x / y * y
abbrev ix (x : Int32) : Nat := x.toNatClampNeg
def QI (Q : Int32 → Hp → Prop) : Option Value → Hp → Prop := fun r σ => ∃ x : Int32, r = some (.int x) ∧ Q x σ
def QL (Q : Int64 → Hp → Prop) : Option Value → Hp → Prop := fun r σ => ∃ x : Int64, r = some (.long x) ∧ Q x σ
def QV (Q : Hp → Prop) : Option Value → Hp → Prop := fun r σ => r = none ∧ Q σ
def QA (g : Gm) (Q : Nat → Hp → Prop) : Option Value → Hp → Prop := fun r σ => ∃ x : Nat, r = some (.ref (gad g 2 x)) ∧ Q x σ
section GTyped
variable {g : Gm} {p : Program} {l : Launch} {e : Env} {R : Room} {s : State} {m : MethodId} {args : Array Value} {below : List Frame} {meth : Method} {c : Code} {Q : Option Value → Hp → Prop} {cc : ByteArray} {nL : Nat} {own : String} {ret : Option FieldType} {h pc : Nat} {lv lv' : List (Nat × Value)} {st : List Value} {σ : Hp}
theorem r_callVi {y : MethodName} {c2 : ByteArray} {mL h2 index nA n i : Nat} {rt : Option FieldType} {As st0 : List Value} {q : vw_C} {Q' : Int32 → Hp → Prop} (rest : List Value) (C : Cx g p R s m args meth c cc nL own ret h) (hd : decode cc pc = .ok (.invokevirtual index, 3)) (w : CWv own index y c2 mL rt nA) (hM : Ct l g y c2 mL rt h2 (.ref (gad g n i) :: As) σ (QI Q')) (hh : h2 + 1 ≤ h) (hc : vwCl[n]? = some q) (hy : q.1 = y.cls) (ha : akd n = 0) (hi : i < cnt n) (hst : st0 = As.reverse ++ .ref (gad g n i) :: rest) (hn : As.length = nA) (hrest : (rest.map fun v => v.category).sum ≤ 8) (k : ∀ x σ', Q' x σ' → G g p l e R s m args below meth c Q nL (pc + 3) lv (.int x :: rest) σ') : G g p l e R s m args below meth c Q nL pc lv st0 σ := r_callV C hd w hM hh hc hy ha hi hst hn hrest (fun r σ' hq => by obtain ⟨x, rfl, hq⟩ := hq; exact k x σ' hq)
theorem r_callSi {y : MethodName} {c2 : ByteArray} {mL h2 index nA : Nat} {rt : Option FieldType} {As st0 : List Value} {Q' : Int32 → Hp → Prop} (rest : List Value) (C : Cx g p R s m args meth c cc nL own ret h) (hd : decode cc pc = .ok (.invokestatic index, 3)) (w : CWs own index y c2 mL rt nA) (hM : Ct l g y c2 mL rt h2 As σ (QI Q')) (hh : h2 + 1 ≤ h) (hst : st0 = As.reverse ++ rest) (hn : As.length = nA) (hrest : (rest.map fun v => v.category).sum ≤ 8) (k : ∀ x σ', Q' x σ' → G g p l e R s m args below meth c Q nL (pc + 3) lv (.int x :: rest) σ') : G g p l e R s m args below meth c Q nL pc lv st0 σ := r_callS C hd w hM hh hst hn hrest (fun r σ' hq => by obtain ⟨x, rfl, hq⟩ := hq; exact k x σ' hq)
theorem r_callNi {y : MethodName} {c2 : ByteArray} {mL h2 index nA : Nat} {rt : Option FieldType} {As st0 : List Value} {Q' : Int32 → Hp → Prop} (rest : List Value) (C : Cx g p R s m args meth c cc nL own ret h) (hd : decode cc pc = .ok (.invokestatic index, 3)) (w : CWn own index y c2 mL rt nA) (hM : Ct l g y c2 mL rt h2 As σ (QI Q')) (hh : h2 + 1 ≤ h) (hst : st0 = As.reverse ++ rest) (hn : As.length = nA) (hrest : (rest.map fun v => v.category).sum ≤ 8) (k : ∀ x σ', Q' x σ' → G g p l e R s m args below meth c Q nL (pc + 3) lv (.int x :: rest) σ') : G g p l e R s m args below meth c Q nL pc lv st0 σ := r_callN C hd w hM hh hst hn hrest (fun r σ' hq => by obtain ⟨x, rfl, hq⟩ := hq; exact k x σ' hq)
theorem r_callVl {y : MethodName} {c2 : ByteArray} {mL h2 index nA n i : Nat} {rt : Option FieldType} {As st0 : List Value} {q : vw_C} {Q' : Int64 → Hp → Prop} (rest : List Value) (C : Cx g p R s m args meth c cc nL own ret h) (hd : decode cc pc = .ok (.invokevirtual index, 3)) (w : CWv own index y c2 mL rt nA) (hM : Ct l g y c2 mL rt h2 (.ref (gad g n i) :: As) σ (QL Q')) (hh : h2 + 1 ≤ h) (hc : vwCl[n]? = some q) (hy : q.1 = y.cls) (ha : akd n = 0) (hi : i < cnt n) (hst : st0 = As.reverse ++ .ref (gad g n i) :: rest) (hn : As.length = nA) (hrest : (rest.map fun v => v.category).sum ≤ 8) (k : ∀ x σ', Q' x σ' → G g p l e R s m args below meth c Q nL (pc + 3) lv (.long x :: rest) σ') : G g p l e R s m args below meth c Q nL pc lv st0 σ := r_callV C hd w hM hh hc hy ha hi hst hn hrest (fun r σ' hq => by obtain ⟨x, rfl, hq⟩ := hq; exact k x σ' hq)
theorem r_callSl {y : MethodName} {c2 : ByteArray} {mL h2 index nA : Nat} {rt : Option FieldType} {As st0 : List Value} {Q' : Int64 → Hp → Prop} (rest : List Value) (C : Cx g p R s m args meth c cc nL own ret h) (hd : decode cc pc = .ok (.invokestatic index, 3)) (w : CWs own index y c2 mL rt nA) (hM : Ct l g y c2 mL rt h2 As σ (QL Q')) (hh : h2 + 1 ≤ h) (hst : st0 = As.reverse ++ rest) (hn : As.length = nA) (hrest : (rest.map fun v => v.category).sum ≤ 8) (k : ∀ x σ', Q' x σ' → G g p l e R s m args below meth c Q nL (pc + 3) lv (.long x :: rest) σ') : G g p l e R s m args below meth c Q nL pc lv st0 σ := r_callS C hd w hM hh hst hn hrest (fun r σ' hq => by obtain ⟨x, rfl, hq⟩ := hq; exact k x σ' hq)
theorem r_callNl {y : MethodName} {c2 : ByteArray} {mL h2 index nA : Nat} {rt : Option FieldType} {As st0 : List Value} {Q' : Int64 → Hp → Prop} (rest : List Value) (C : Cx g p R s m args meth c cc nL own ret h) (hd : decode cc pc = .ok (.invokestatic index, 3)) (w : CWn own index y c2 mL rt nA) (hM : Ct l g y c2 mL rt h2 As σ (QL Q')) (hh : h2 + 1 ≤ h) (hst : st0 = As.reverse ++ rest) (hn : As.length = nA) (hrest : (rest.map fun v => v.category).sum ≤ 8) (k : ∀ x σ', Q' x σ' → G g p l e R s m args below meth c Q nL (pc + 3) lv (.long x :: rest) σ') : G g p l e R s m args below meth c Q nL pc lv st0 σ := r_callN C hd w hM hh hst hn hrest (fun r σ' hq => by obtain ⟨x, rfl, hq⟩ := hq; exact k x σ' hq)
theorem r_callVv {y : MethodName} {c2 : ByteArray} {mL h2 index nA n i : Nat} {rt : Option FieldType} {As st0 : List Value} {q : vw_C} {Q' : Hp → Prop} (rest : List Value) (C : Cx g p R s m args meth c cc nL own ret h) (hd : decode cc pc = .ok (.invokevirtual index, 3)) (w : CWv own index y c2 mL rt nA) (hM : Ct l g y c2 mL rt h2 (.ref (gad g n i) :: As) σ (QV Q')) (hh : h2 + 1 ≤ h) (hc : vwCl[n]? = some q) (hy : q.1 = y.cls) (ha : akd n = 0) (hi : i < cnt n) (hst : st0 = As.reverse ++ .ref (gad g n i) :: rest) (hn : As.length = nA) (hrest : (rest.map fun v => v.category).sum ≤ 8) (k : ∀ σ', Q' σ' → G g p l e R s m args below meth c Q nL (pc + 3) lv rest σ') : G g p l e R s m args below meth c Q nL pc lv st0 σ := r_callV C hd w hM hh hc hy ha hi hst hn hrest (fun r σ' hq => by obtain ⟨rfl, hq⟩ := hq; exact k σ' hq)
theorem r_callSv {y : MethodName} {c2 : ByteArray} {mL h2 index nA : Nat} {rt : Option FieldType} {As st0 : List Value} {Q' : Hp → Prop} (rest : List Value) (C : Cx g p R s m args meth c cc nL own ret h) (hd : decode cc pc = .ok (.invokestatic index, 3)) (w : CWs own index y c2 mL rt nA) (hM : Ct l g y c2 mL rt h2 As σ (QV Q')) (hh : h2 + 1 ≤ h) (hst : st0 = As.reverse ++ rest) (hn : As.length = nA) (hrest : (rest.map fun v => v.category).sum ≤ 8) (k : ∀ σ', Q' σ' → G g p l e R s m args below meth c Q nL (pc + 3) lv rest σ') : G g p l e R s m args below meth c Q nL pc lv st0 σ := r_callS C hd w hM hh hst hn hrest (fun r σ' hq => by obtain ⟨rfl, hq⟩ := hq; exact k σ' hq)
theorem r_callNv {y : MethodName} {c2 : ByteArray} {mL h2 index nA : Nat} {rt : Option FieldType} {As st0 : List Value} {Q' : Hp → Prop} (rest : List Value) (C : Cx g p R s m args meth c cc nL own ret h) (hd : decode cc pc = .ok (.invokestatic index, 3)) (w : CWn own index y c2 mL rt nA) (hM : Ct l g y c2 mL rt h2 As σ (QV Q')) (hh : h2 + 1 ≤ h) (hst : st0 = As.reverse ++ rest) (hn : As.length = nA) (hrest : (rest.map fun v => v.category).sum ≤ 8) (k : ∀ σ', Q' σ' → G g p l e R s m args below meth c Q nL (pc + 3) lv rest σ') : G g p l e R s m args below meth c Q nL pc lv st0 σ := r_callN C hd w hM hh hst hn hrest (fun r σ' hq => by obtain ⟨rfl, hq⟩ := hq; exact k σ' hq)
theorem r_callVa {y : MethodName} {c2 : ByteArray} {mL h2 index nA n i : Nat} {rt : Option FieldType} {As st0 : List Value} {q : vw_C} {Q' : Nat → Hp → Prop} (rest : List Value) (C : Cx g p R s m args meth c cc nL own ret h) (hd : decode cc pc = .ok (.invokevirtual index, 3)) (w : CWv own index y c2 mL rt nA) (hM : Ct l g y c2 mL rt h2 (.ref (gad g n i) :: As) σ (QA g Q')) (hh : h2 + 1 ≤ h) (hc : vwCl[n]? = some q) (hy : q.1 = y.cls) (ha : akd n = 0) (hi : i < cnt n) (hst : st0 = As.reverse ++ .ref (gad g n i) :: rest) (hn : As.length = nA) (hrest : (rest.map fun v => v.category).sum ≤ 8) (k : ∀ x σ', Q' x σ' → G g p l e R s m args below meth c Q nL (pc + 3) lv (.ref (gad g 2 x) :: rest) σ') : G g p l e R s m args below meth c Q nL pc lv st0 σ := r_callV C hd w hM hh hc hy ha hi hst hn hrest (fun r σ' hq => by obtain ⟨x, rfl, hq⟩ := hq; exact k x σ' hq)
theorem r_callSa {y : MethodName} {c2 : ByteArray} {mL h2 index nA : Nat} {rt : Option FieldType} {As st0 : List Value} {Q' : Nat → Hp → Prop} (rest : List Value) (C : Cx g p R s m args meth c cc nL own ret h) (hd : decode cc pc = .ok (.invokestatic index, 3)) (w : CWs own index y c2 mL rt nA) (hM : Ct l g y c2 mL rt h2 As σ (QA g Q')) (hh : h2 + 1 ≤ h) (hst : st0 = As.reverse ++ rest) (hn : As.length = nA) (hrest : (rest.map fun v => v.category).sum ≤ 8) (k : ∀ x σ', Q' x σ' → G g p l e R s m args below meth c Q nL (pc + 3) lv (.ref (gad g 2 x) :: rest) σ') : G g p l e R s m args below meth c Q nL pc lv st0 σ := r_callS C hd w hM hh hst hn hrest (fun r σ' hq => by obtain ⟨x, rfl, hq⟩ := hq; exact k x σ' hq)
theorem r_callNa {y : MethodName} {c2 : ByteArray} {mL h2 index nA : Nat} {rt : Option FieldType} {As st0 : List Value} {Q' : Nat → Hp → Prop} (rest : List Value) (C : Cx g p R s m args meth c cc nL own ret h) (hd : decode cc pc = .ok (.invokestatic index, 3)) (w : CWn own index y c2 mL rt nA) (hM : Ct l g y c2 mL rt h2 As σ (QA g Q')) (hh : h2 + 1 ≤ h) (hst : st0 = As.reverse ++ rest) (hn : As.length = nA) (hrest : (rest.map fun v => v.category).sum ≤ 8) (k : ∀ x σ', Q' x σ' → G g p l e R s m args below meth c Q nL (pc + 3) lv (.ref (gad g 2 x) :: rest) σ') : G g p l e R s m args below meth c Q nL pc lv st0 σ := r_callN C hd w hM hh hst hn hrest (fun r σ' hq => by obtain ⟨x, rfl, hq⟩ := hq; exact k x σ' hq)
theorem r_staticD {index : Nat} (C : Cx g p R s m args meth c cc nL own ret h) (hd : decode cc pc = .ok (.getstatic index, 3)) (hw : Cond.fieldLink own index "GapLinks$Envelope" "DOWNSTREAM" "[I" ∈ UU) (k : G g p l e R s m args below meth c Q nL (pc + 3) lv (.ref (gT g) :: st) σ) : G g p l e R s m args below meth c Q nL pc lv st σ := fun H locs ls hP hS hl => va_gets C.ex C.cd C.so.2.2.2.1.1 hS C.ow (C.ts _ hw) (fun _ hx => hx) hd (k H locs ls hP hS hl)
theorem r_lenD (C : Cx g p R s m args meth c cc nL own ret h) (hd : decode cc pc = .ok (.arraylength, 1)) (k : G g p l e R s m args below meth c Q nL (pc + 1) lv (.int 10 :: st) σ) : G g p l e R s m args below meth c Q nL pc lv (.ref (gT g) :: st) σ := fun H locs ls hP hS hl => va_tlen C.ex C.cd C.so.2.2.2.1.2 hS (by decide +kernel) hd (k H locs ls hP hS hl)
theorem r_ialoadD {x : Int32} (C : Cx g p R s m args meth c cc nL own ret h) (hd : decode cc pc = .ok (.iaload, 1)) (hin : vp_in x 10) (k : G g p l e R s m args below meth c Q nL (pc + 1) lv (.int (dsv.getD (ix x) 0) :: st) σ) : G g p l e R s m args below meth c Q nL pc lv (.int x :: .ref (gT g) :: st) σ := fun H locs ls hP hS hl => va_ti C.ex C.cd C.so.2.2.2.1.2 hS hin rfl hd (k H locs ls hP hS hl)
end GTyped
theorem sw_out1 {x : Int32} (q0 : ¬ x = 0) (q1 : ¬ x = 1) : x.toInt < 0 ∨ 1 < x.toInt := by
  by_cases h1 : x.toInt < 0
  · exact Or.inl h1
  · by_cases h2 : 1 < x.toInt
    · exact Or.inr h2
    · exfalso
      have hx : x.toInt = 0 ∨ x.toInt = 1 := by omega
      rcases hx with h | h
      · exact q0 (Int32.toInt_inj.mp (by rw [h]; decide))
      · exact q1 (Int32.toInt_inj.mp (by rw [h]; decide))
theorem sw_out2 {x : Int32} (q0 : ¬ x = 0) (q1 : ¬ x = 1) (q2 : ¬ x = 2) : x.toInt < 0 ∨ 2 < x.toInt := by
  by_cases h1 : x.toInt < 0
  · exact Or.inl h1
  · by_cases h2 : 2 < x.toInt
    · exact Or.inr h2
    · exfalso
      have hx : x.toInt = 0 ∨ x.toInt = 1 ∨ x.toInt = 2 := by omega
      rcases hx with h | h | h
      · exact q0 (Int32.toInt_inj.mp (by rw [h]; decide))
      · exact q1 (Int32.toInt_inj.mp (by rw [h]; decide))
      · exact q2 (Int32.toInt_inj.mp (by rw [h]; decide))
theorem sw_out3 {x : Int32} (q0 : ¬ x = 0) (q1 : ¬ x = 1) (q2 : ¬ x = 2) (q3 : ¬ x = 3) : x.toInt < 0 ∨ 3 < x.toInt := by
  by_cases h1 : x.toInt < 0
  · exact Or.inl h1
  · by_cases h2 : 3 < x.toInt
    · exact Or.inr h2
    · exfalso
      have hx : x.toInt = 0 ∨ x.toInt = 1 ∨ x.toInt = 2 ∨ x.toInt = 3 := by omega
      rcases hx with h | h | h | h
      · exact q0 (Int32.toInt_inj.mp (by rw [h]; decide))
      · exact q1 (Int32.toInt_inj.mp (by rw [h]; decide))
      · exact q2 (Int32.toInt_inj.mp (by rw [h]; decide))
      · exact q3 (Int32.toInt_inj.mp (by rw [h]; decide))
theorem sw_out4 {x : Int32} (q0 : ¬ x = 0) (q1 : ¬ x = 1) (q2 : ¬ x = 2) (q3 : ¬ x = 3) (q4 : ¬ x = 4) : x.toInt < 0 ∨ 4 < x.toInt := by
  by_cases h1 : x.toInt < 0
  · exact Or.inl h1
  · by_cases h2 : 4 < x.toInt
    · exact Or.inr h2
    · exfalso
      have hx : x.toInt = 0 ∨ x.toInt = 1 ∨ x.toInt = 2 ∨ x.toInt = 3 ∨ x.toInt = 4 := by omega
      rcases hx with h | h | h | h | h
      · exact q0 (Int32.toInt_inj.mp (by rw [h]; decide))
      · exact q1 (Int32.toInt_inj.mp (by rw [h]; decide))
      · exact q2 (Int32.toInt_inj.mp (by rw [h]; decide))
      · exact q3 (Int32.toInt_inj.mp (by rw [h]; decide))
      · exact q4 (Int32.toInt_inj.mp (by rw [h]; decide))
theorem sw_out5 {x : Int32} (q0 : ¬ x = 0) (q1 : ¬ x = 1) (q2 : ¬ x = 2) (q3 : ¬ x = 3) (q4 : ¬ x = 4) (q5 : ¬ x = 5) : x.toInt < 0 ∨ 5 < x.toInt := by
  by_cases h1 : x.toInt < 0
  · exact Or.inl h1
  · by_cases h2 : 5 < x.toInt
    · exact Or.inr h2
    · exfalso
      have hx : x.toInt = 0 ∨ x.toInt = 1 ∨ x.toInt = 2 ∨ x.toInt = 3 ∨ x.toInt = 4 ∨ x.toInt = 5 := by omega
      rcases hx with h | h | h | h | h | h
      · exact q0 (Int32.toInt_inj.mp (by rw [h]; decide))
      · exact q1 (Int32.toInt_inj.mp (by rw [h]; decide))
      · exact q2 (Int32.toInt_inj.mp (by rw [h]; decide))
      · exact q3 (Int32.toInt_inj.mp (by rw [h]; decide))
      · exact q4 (Int32.toInt_inj.mp (by rw [h]; decide))
      · exact q5 (Int32.toInt_inj.mp (by rw [h]; decide))
theorem sw_out6 {x : Int32} (q0 : ¬ x = 0) (q1 : ¬ x = 1) (q2 : ¬ x = 2) (q3 : ¬ x = 3) (q4 : ¬ x = 4) (q5 : ¬ x = 5) (q6 : ¬ x = 6) : x.toInt < 0 ∨ 6 < x.toInt := by
  by_cases h1 : x.toInt < 0
  · exact Or.inl h1
  · by_cases h2 : 6 < x.toInt
    · exact Or.inr h2
    · exfalso
      have hx : x.toInt = 0 ∨ x.toInt = 1 ∨ x.toInt = 2 ∨ x.toInt = 3 ∨ x.toInt = 4 ∨ x.toInt = 5 ∨ x.toInt = 6 := by omega
      rcases hx with h | h | h | h | h | h | h
      · exact q0 (Int32.toInt_inj.mp (by rw [h]; decide))
      · exact q1 (Int32.toInt_inj.mp (by rw [h]; decide))
      · exact q2 (Int32.toInt_inj.mp (by rw [h]; decide))
      · exact q3 (Int32.toInt_inj.mp (by rw [h]; decide))
      · exact q4 (Int32.toInt_inj.mp (by rw [h]; decide))
      · exact q5 (Int32.toInt_inj.mp (by rw [h]; decide))
      · exact q6 (Int32.toInt_inj.mp (by rw [h]; decide))
theorem sw_out7 {x : Int32} (q0 : ¬ x = 0) (q1 : ¬ x = 1) (q2 : ¬ x = 2) (q3 : ¬ x = 3) (q4 : ¬ x = 4) (q5 : ¬ x = 5) (q6 : ¬ x = 6) (q7 : ¬ x = 7) : x.toInt < 0 ∨ 7 < x.toInt := by
  by_cases h1 : x.toInt < 0
  · exact Or.inl h1
  · by_cases h2 : 7 < x.toInt
    · exact Or.inr h2
    · exfalso
      have hx : x.toInt = 0 ∨ x.toInt = 1 ∨ x.toInt = 2 ∨ x.toInt = 3 ∨ x.toInt = 4 ∨ x.toInt = 5 ∨ x.toInt = 6 ∨ x.toInt = 7 := by omega
      rcases hx with h | h | h | h | h | h | h | h
      · exact q0 (Int32.toInt_inj.mp (by rw [h]; decide))
      · exact q1 (Int32.toInt_inj.mp (by rw [h]; decide))
      · exact q2 (Int32.toInt_inj.mp (by rw [h]; decide))
      · exact q3 (Int32.toInt_inj.mp (by rw [h]; decide))
      · exact q4 (Int32.toInt_inj.mp (by rw [h]; decide))
      · exact q5 (Int32.toInt_inj.mp (by rw [h]; decide))
      · exact q6 (Int32.toInt_inj.mp (by rw [h]; decide))
      · exact q7 (Int32.toInt_inj.mp (by rw [h]; decide))
theorem sw_out8 {x : Int32} (q0 : ¬ x = 0) (q1 : ¬ x = 1) (q2 : ¬ x = 2) (q3 : ¬ x = 3) (q4 : ¬ x = 4) (q5 : ¬ x = 5) (q6 : ¬ x = 6) (q7 : ¬ x = 7) (q8 : ¬ x = 8) : x.toInt < 0 ∨ 8 < x.toInt := by
  by_cases h1 : x.toInt < 0
  · exact Or.inl h1
  · by_cases h2 : 8 < x.toInt
    · exact Or.inr h2
    · exfalso
      have hx : x.toInt = 0 ∨ x.toInt = 1 ∨ x.toInt = 2 ∨ x.toInt = 3 ∨ x.toInt = 4 ∨ x.toInt = 5 ∨ x.toInt = 6 ∨ x.toInt = 7 ∨ x.toInt = 8 := by omega
      rcases hx with h | h | h | h | h | h | h | h | h
      · exact q0 (Int32.toInt_inj.mp (by rw [h]; decide))
      · exact q1 (Int32.toInt_inj.mp (by rw [h]; decide))
      · exact q2 (Int32.toInt_inj.mp (by rw [h]; decide))
      · exact q3 (Int32.toInt_inj.mp (by rw [h]; decide))
      · exact q4 (Int32.toInt_inj.mp (by rw [h]; decide))
      · exact q5 (Int32.toInt_inj.mp (by rw [h]; decide))
      · exact q6 (Int32.toInt_inj.mp (by rw [h]; decide))
      · exact q7 (Int32.toInt_inj.mp (by rw [h]; decide))
      · exact q8 (Int32.toInt_inj.mp (by rw [h]; decide))
theorem sw_out9 {x : Int32} (q0 : ¬ x = 0) (q1 : ¬ x = 1) (q2 : ¬ x = 2) (q3 : ¬ x = 3) (q4 : ¬ x = 4) (q5 : ¬ x = 5) (q6 : ¬ x = 6) (q7 : ¬ x = 7) (q8 : ¬ x = 8) (q9 : ¬ x = 9) : x.toInt < 0 ∨ 9 < x.toInt := by
  by_cases h1 : x.toInt < 0
  · exact Or.inl h1
  · by_cases h2 : 9 < x.toInt
    · exact Or.inr h2
    · exfalso
      have hx : x.toInt = 0 ∨ x.toInt = 1 ∨ x.toInt = 2 ∨ x.toInt = 3 ∨ x.toInt = 4 ∨ x.toInt = 5 ∨ x.toInt = 6 ∨ x.toInt = 7 ∨ x.toInt = 8 ∨ x.toInt = 9 := by omega
      rcases hx with h | h | h | h | h | h | h | h | h | h
      · exact q0 (Int32.toInt_inj.mp (by rw [h]; decide))
      · exact q1 (Int32.toInt_inj.mp (by rw [h]; decide))
      · exact q2 (Int32.toInt_inj.mp (by rw [h]; decide))
      · exact q3 (Int32.toInt_inj.mp (by rw [h]; decide))
      · exact q4 (Int32.toInt_inj.mp (by rw [h]; decide))
      · exact q5 (Int32.toInt_inj.mp (by rw [h]; decide))
      · exact q6 (Int32.toInt_inj.mp (by rw [h]; decide))
      · exact q7 (Int32.toInt_inj.mp (by rw [h]; decide))
      · exact q8 (Int32.toInt_inj.mp (by rw [h]; decide))
      · exact q9 (Int32.toInt_inj.mp (by rw [h]; decide))
