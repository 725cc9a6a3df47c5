/-! ===== what a tick does, on numbers ===== -/
def beh (x : Int32) : Int32 := if x = 255 then 1 else x + 1
def wl (p : PD) (l i : Nat) : Nat := 2 + (if eS p (fr p l) < eS p (re p l i) then eS p (re p l i) - eS p (fr p l) else eS p (fr p l) - eS p (re p l i))
def wp (p : PD) (l i k : Nat) : Nat := if k = 0 then fr p l else if k = wl p l i - 1 then 6 + re p l i else if eS p (fr p l) < eS p (re p l i) then 12 + eS p (fr p l) + k - 1 else 14 + eS p (fr p l) - k
/-- the link goes through the port -/
def on (p : PD) (l pt : Nat) : Prop := ∃ i k, i < rc p l ∧ k < wl p l i ∧ wp p l i k = pt
def swb (p : PD) (fp : Nat) : Nat := if fp < 6 then eS p fp else if fp < 14 then fp - 11 else fp - 14
def liesI (p : PD) (l sw to i : Nat) : Prop := if to < 12 then eS p (re p l i) = sw ∧ re p l i = to - 6 else if to < 14 then sw = to - 12 ∧ sw < eS p (re p l i) else sw = to - 13 ∧ eS p (re p l i) < sw
def lies (p : PD) (l sw to : Nat) : Prop := ∃ i, i < rc p l ∧ liesI p l sw to i
def isBack (fp to : Nat) : Prop := 12 ≤ fp ∧ 12 ≤ to ∧ ¬ (to < 14 ↔ fp < 14)
def nxt (p : PD) (l fp to : Nat) : Prop := ¬ isBack fp to ∧ lies p l (swb p fp) to
noncomputable def cif {α : Type} (c : Prop) (a b : α) : α := @ite α c (Classical.propDecidable c) a b
theorem cif_pos {α : Type} {c : Prop} (h : c) (a b : α) : cif c a b = a := @if_pos c (Classical.propDecidable c) h α a b
theorem cif_neg {α : Type} {c : Prop} (h : ¬ c) (a b : α) : cif c a b = b := @if_neg c (Classical.propDecidable c) h α a b
noncomputable section TickDefs
def tCr (p : PD) (l net : Nat) (s : SD) : SD := u s 45 (8 * net + l) (if s 45 (8 * net + l) + nI (ln p l) ≤ nI (cred p l) then s 45 (8 * net + l) + nI (ln p l) else nI (cred p l))
def tGrow (p : PD) (s : SD) : SD := itr (fun l s => tCr p l 1 (tCr p l 0 s)) (nL p) s
def tCome (p : PD) (q : Nat) (l num born : Int32) (s : SD) : SD :=
  if s 30 q = nI (pRoom p) then u s 39 (3 * (q / 16)) (s 39 (3 * (q / 16)) + 1)
  else u (u (u (u s 34 (12 * q + ix (s 30 q)) l) 35 (12 * q + ix (s 30 q)) num) 36 (12 * q + ix (s 30 q)) born) 30 q (s 30 q + 1)

def tSpread1 (p : PD) (net l fp : Nat) (num born : Int32) (to : Nat) (s : SD) : SD := cif (nxt p l fp to) (tCome p (16 * net + to) (nI l) num born s) s
def tSpread (p : PD) (net l fp : Nat) (num born : Int32) (s : SD) : SD := itr (fun j s => tSpread1 p net l fp num born (j + 6) s) 10 s
def tSwitch (p : PD) (q l : Nat) (num born : Int32) (s : SD) : SD :=
  if s 38 (q / 16) = 1 then u s 39 (3 * (q / 16) + 1) (s 39 (3 * (q / 16) + 1) + 1)
  else if q % 16 < 6 then
    (if nI (ln p l * gp p l) ≤ s 45 (8 * (q / 16) + l) then tSpread p (q / 16) l (q % 16) num born (u s 45 (8 * (q / 16) + l) (s 45 (8 * (q / 16) + l) - nI (ln p l * gp p l)))
     else u (u s 39 (3 * (q / 16) + 2) (s 39 (3 * (q / 16) + 2) + 1)) 46 (8 * (q / 16) + l) (s 46 (8 * (q / 16) + l) + 1))
  else tSpread p (q / 16) l (q % 16) num born s
def whole1 (seen num : Int32) : Prop := seen = -2 ∨ num = 0 ∨ num = beh seen ∨ num = beh (beh seen)
def aheadN (latest num : Int32) : Int32 := if num = 0 then 0 else if latest = 0 then num else jrem ((num - latest) + 255) 255
def fresh1 (p : PD) (s : SD) (ear : Nat) (num : Int32) : Prop := s 9 ear = 0 ∨ nI (pSkew p) < s 5 0 - s 13 ear ∨ (num = 0 ∧ ¬ s 12 ear = 0) ∨ (1 ≤ aheadN (s 12 ear) num ∧ aheadN (s 12 ear) num ≤ nI (pWin p))
/-- the ten latest numbers go one place on -/
def tMem (ear : Nat) (num : Int32) (s : SD) : SD := fun f k => if f = 18 ∧ k / 10 = ear then (if k % 10 = 0 then num else s 18 (k - 1)) else s f k
def late1 (s : SD) (ear : Nat) (born : Int32) : Int32 := if s 15 ear = -2 then s 5 0 - born else if s 5 0 - born ≤ s 15 ear then s 15 ear else s 5 0 - born
def soon1 (s : SD) (ear : Nat) (born : Int32) : Int32 := if s 16 ear = -2 then s 5 0 - born else if s 16 ear ≤ s 5 0 - born then s 16 ear else s 5 0 - born
def tTake (ear net : Nat) (num born : Int32) (s : SD) : SD :=
  tMem ear num (u (u (u (u (u (u (u s 9 ear (s 9 ear + 1)) 12 ear num) 13 ear (s 5 0)) 14 ear (nI net)) 15 ear (late1 s ear born)) 16 ear (soon1 s ear born)) 0 0 (s 0 0 + 1))
def tHear1 (p : PD) (ear net : Nat) (num born : Int32) (s : SD) : SD := cif (fresh1 p s ear num) (tTake ear net num born s) (u s 11 ear (s 11 ear + 1))
def tHear (p : PD) (ear net : Nat) (num born : Int32) (s : SD) : SD :=
  cif (whole1 (s 17 (2 * ear + net)) num) (tHear1 p ear net num born (u s 17 (2 * ear + net) num)) (u (u s 17 (2 * ear + net) num) 10 ear (s 10 ear + 1))
/-- the place of an end among a link's receivers -/
def rIx (p : PD) (l e : Nat) : Nat := if re p l 0 = e then 0 else if re p l 1 = e then 1 else 2
/-- a port's first frame goes: the others go one place on -/
def tPop (q : Nat) (s : SD) : SD := fun f k => if f = 30 ∧ k = q then s 30 q - 1 else if f = 32 ∧ k = q then -2 else if (f = 34 ∨ f = 35 ∨ f = 36) ∧ k / 12 = q ∧ k % 12 + 1 < ix (s 30 q) then s f (k + 1) else s f k
def tLeave (p : PD) (q : Nat) (s : SD) : SD :=
  if 6 ≤ q % 16 ∧ q % 16 < 12 then tHear p (3 * ix (s 34 (12 * q)) + rIx p (ix (s 34 (12 * q))) (q % 16 - 6)) (q / 16) (s 35 (12 * q)) (s 36 (12 * q)) (tPop q s)
  else tSwitch p q (ix (s 34 (12 * q))) (s 35 (12 * q)) (s 36 (12 * q)) (tPop q s)
def tDel1 (p : PD) (q : Nat) (s : SD) : SD := if s 32 q = s 5 0 then tLeave p q s else s
def tDeliver (p : PD) (s : SD) : SD := itr (tDel1 p) 32 s
def tBear1 (p : PD) (l net : Nat) (num : Int32) (s : SD) : SD := tCome p (16 * net + fr p l) (nI l) num (s 5 0) s
def tBear (p : PD) (l : Nat) (s : SD) : SD := u (u (tBear1 p l 1 (s 42 l) (tBear1 p l 0 (s 42 l) s)) 42 l (beh (s 42 l))) 43 l (s 43 l + 1)
def tRel1 (p : PD) (l : Nat) (s : SD) : SD := if s 40 l ≤ 0 then s else if s 5 0 < s 41 l then s else tBear p l (u (u s 40 l (s 40 l - 1)) 41 l (s 5 0 + nI (gp p l)))
def tRelease (p : PD) (s : SD) : SD := itr (tRel1 p) (nL p) s
def tWait (q l : Nat) (s : SD) : SD := if q % 16 < 6 then (if s 5 0 - s 36 (12 * q) ≤ s 44 l then s else u s 44 l (s 5 0 - s 36 (12 * q))) else s
def tSend (p : PD) (q : Nat) (s : SD) : SD := if s 32 q = -2 then (if s 30 q = 0 then s else tWait q (ix (s 34 (12 * q))) (u s 32 q (s 5 0 + nI (ln p (ix (s 34 (12 * q))))))) else s
def tNote (q : Nat) (s : SD) : SD := u s 33 q (if s 30 q ≤ s 33 q then s 33 q else s 30 q)
def tSends (p : PD) (s : SD) : SD := itr (fun q s => tNote q (tSend p q s)) 32 s
def tick (p : PD) (s : SD) : SD := tSends p (tRelease p (tDeliver p (tGrow p (u s 5 0 (s 5 0 + 1)))))
def ticks (p : PD) : Nat → SD → SD
  | 0, s => s
  | n + 1, s => ticks p n (tick p s)
end TickDefs
