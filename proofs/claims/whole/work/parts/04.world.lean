/-! the state of the two systems: whole-number fields, rows of ints, rows of longs, long fields, by number -/
abbrev xT : Type := (Nat → Int32) × (Nat → Nat → Int32) × (Nat → Nat → Int64) × (Nat → Int64)
abbrev xS : Type := xT × xT
def gI (a : xT) (k : Nat) : Int32 := a.1 k
def gA (a : xT) (k : Nat) : Nat → Int32 := a.2.1 k
def gB (a : xT) (k : Nat) : Nat → Int64 := a.2.2.1 k
def gJ (a : xT) (k : Nat) : Int64 := a.2.2.2 k
def sI (a : xT) (k : Nat) (v : Int32) : xT := (upd a.1 k v, a.2)
def sA (a : xT) (k : Nat) (f : Nat → Int32) : xT := (a.1, va_up a.2.1 k f, a.2.2)
def sB (a : xT) (k : Nat) (f : Nat → Int64) : xT := (a.1, a.2.1, va_up a.2.2.1 k f, a.2.2.2)
def sJ (a : xT) (k : Nat) (v : Int64) : xT := (a.1, a.2.1, a.2.2.1, va_up a.2.2.2 k v)
/-- the classes' numbers, the addresses of the cells, of the String constants and their rows, the array classes -/
abbrev xG : Type := va_G × (Nat → Nat) × (Nat → Nat) × (Nat → Nat) × ClassId × ClassId × ClassId × ClassId
abbrev xD (g : xG) : va_G := g.1
def xa (g : xG) (c : Nat) : Nat := g.2.1 c
def xk (g : xG) (c : Nat) : Nat := g.2.2.1 c
abbrev xtys (g : xG) : List (ClassId × FieldType) := [(g.2.2.2.2.1, .int), (g.2.2.2.2.2.1, .long), (g.2.2.2.2.2.2.1, .boolean), (g.2.2.2.2.2.2.2, .object RX3)]
/-- cells: an object, a row of ints, of booleans, of longs, of lists -/
abbrev xo (g : xG) (c ci : Nat) (fs : List Value) : Nat × va_E := (xa g c, .inr (ci, fs))
abbrev xri (g : xG) (c n : Nat) (f : Nat → Int32) : Nat × va_E := (xa g c, .inl (g.2.2.2.2.1, n, .inl f))
abbrev xrz (g : xG) (c n : Nat) (f : Nat → Int32) : Nat × va_E := (xa g c, .inl (g.2.2.2.2.2.2.1, n, .inl f))
abbrev xrj (g : xG) (c n : Nat) (f : Nat → Int64) : Nat × va_E := (xa g c, .inl (g.2.2.2.2.2.1, n, .inr (.inl f)))
abbrev xrl (g : xG) (c n : Nat) (f : Nat → Option Nat) : Nat × va_E := (xa g c, .inl (g.2.2.2.2.2.2.2, n, .inr (.inr (.inr (.inr f)))))
/-- the class's cells -/
def xw1 (g : xG) (a : xT) : va_W := [
  xo g 0 7 [.ref (xa g 1), .ref (xa g 2), .ref (xa g 29), .ref (xa g 3), .ref (xa g 6), .ref (xa g 8), .ref (xa g 15), .ref (xa g 19)],
  xo g 1 1 [.int (gI a 0), .int (gI a 1), .int (gI a 2), .int (gI a 3)],
  xrl g 2 6 (fun i => some (xa g (23 + i))),
  xo g 3 4 [.ref (xa g 4), .ref (xa g 5), .int (gI a 4)],
  xri g 4 12 (gA a 4),
  xrj g 5 64 (gB a 5),
  xo g 6 6 [.ref (xa g 7), .int (gI a 5), .int (gI a 6), .int (gI a 7), .int (gI a 8)],
  xri g 7 120 (gA a 7),
  xo g 8 5 [.ref (xa g 9), .ref (xa g 10), .ref (xa g 11), .int (gI a 9), .int (gI a 10), .int (gI a 11), .ref (xa g 12), .ref (xa g 13), .ref (xa g 14), .int (gI a 12), .int (gI a 13)],
  xri g 9 120 (gA a 9), xri g 10 120 (gA a 10), xri g 11 120 (gA a 11),
  xrz g 12 5 (gA a 12), xrz g 13 5 (gA a 13), xrz g 14 5 (gA a 14),
  xo g 15 2 [.ref (xa g 16), .ref (xa g 17), .ref (xa g 18), .int (gI a 14), .int (gI a 15), .int (gI a 16)],
  xri g 16 32 (gA a 16), xrj g 17 32 (gB a 17), xri g 18 33 (gA a 18),
  xo g 19 0 [.ref (xa g 20), .ref (xa g 21), .ref (xa g 22), .int (gI a 17), .int (gI a 18), .int (gI a 19), .int (gI a 20), .long (gJ a 0)],
  xri g 20 64 (gA a 20), xri g 21 64 (gA a 21), xri g 22 3 (gA a 22),
  xo g 23 3 [.ref (xa g 30), .ref (xa g 37), .int (gI a 23)],
  xo g 24 3 [.ref (xa g 31), .ref (xa g 38), .int (gI a 24)],
  xo g 25 3 [.ref (xa g 32), .ref (xa g 39), .int (gI a 25)],
  xo g 26 3 [.ref (xa g 33), .ref (xa g 40), .int (gI a 26)],
  xo g 27 3 [.ref (xa g 34), .ref (xa g 41), .int (gI a 27)],
  xo g 28 3 [.ref (xa g 35), .ref (xa g 42), .int (gI a 28)],
  xo g 29 3 [.ref (xa g 36), .ref (xa g 43), .int (gI a 29)],
  xri g 30 64 (gA a 30), xri g 31 64 (gA a 31), xri g 32 64 (gA a 32), xri g 33 64 (gA a 33), xri g 34 64 (gA a 34), xri g 35 64 (gA a 35), xri g 36 64 (gA a 36),
  xrj g 37 64 (gB a 37), xrj g 38 64 (gB a 38), xrj g 39 64 (gB a 39), xrj g 40 64 (gB a 40), xrj g 41 64 (gB a 41), xrj g 42 64 (gB a 42), xrj g 43 64 (gB a 43)]
/-- the reference's cells -/
def xw2 (g : xG) (b : xT) : va_W := [
  xo g 44 8 [.int (gI b 0), .int (gI b 1), .int (gI b 2), .int (gI b 3), .ref (xa g 45), .ref (xa g 46), .ref (xa g 47), .ref (xa g 48), .ref (xa g 49), .int (gI b 9), .ref (xa g 50), .int (gI b 11), .ref (xa g 51), .ref (xa g 52), .int (gI b 14), .int (gI b 15), .int (gI b 16), .long (gJ b 17), .int (gI b 18), .int (gI b 19), .int (gI b 20), .ref (xa g 53), .ref (xa g 54), .int (gI b 23), .ref (xa g 55), .int (gI b 25), .int (gI b 26), .ref (xa g 56), .ref (xa g 57), .ref (xa g 58), .ref (xa g 59), .int (gI b 31), .int (gI b 32), .int (gI b 33), .long (gJ b 34)],
  xri g 45 6 (gA b 45), xri g 46 384 (gA b 46), xri g 47 34 (gA b 47), xri g 48 34 (gA b 48), xri g 49 34 (gA b 49), xri g 50 32 (gA b 50), xri g 51 4096 (gA b 51), xri g 52 120 (gA b 52), xri g 53 130 (gA b 53), xri g 54 130 (gA b 54), xri g 55 130 (gA b 55), xrz g 56 130 (gA b 56), xri g 57 12 (gA b 57), xrj g 58 64 (gB b 58), xri g 59 3 (gA b 59)]
def xw (g : xG) (s : xS) : va_W := xw1 g s.1 ++ xw2 g s.2
/-- what may be written: the cells, and what is new -/
def xA (g : xG) (sz : Nat) : Nat → Prop := fun q => (∃ c, c < 60 ∧ q = xa g c) ∨ sz ≤ q
