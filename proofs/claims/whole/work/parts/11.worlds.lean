/-! the worlds: groups of cells and what they hold -/
abbrev F1 : Type := Nat → Int32
/-- a parish: kinds, figures, what is held, nexts, how many, blocked, wet, the cup, the hour, dripped -/
abbrev PT : Type := F1 × F1 × F1 × F1 × Int32 × Int32 × Int32 × Int32 × Int32 × Int32
abbrev LT : Type := F1 × Int32
abbrev HT : Type := Int32 × Int32
/-- place0, isTaking, keptIn (which array) -/
abbrev KS : Type := Int32 × Int32 × Option Nat
/-- placeIn, letterOf, numbers, at0, isBad, statements -/
abbrev QT : Type := F1 × F1 × F1 × Int32 × Int32 × Int32
abbrev gA (cI : ClassId) (a n : Nat) (f : F1) : va_W := [(a, .inl (cI, n, .inl f))]
abbrev gPar (cI : ClassId) (a : Nat → Nat) (t : PT) : va_W := [(a 0, .inr (2, [.ref (a 1), .ref (a 2), .ref (a 3), .ref (a 4), .int t.2.2.2.2.1, .int t.2.2.2.2.2.1, .int t.2.2.2.2.2.2.1, .int t.2.2.2.2.2.2.2.1, .int t.2.2.2.2.2.2.2.2.1, .int t.2.2.2.2.2.2.2.2.2])), (a 1, .inl (cI, 9, .inl t.1)), (a 2, .inl (cI, 9, .inl t.2.1)), (a 3, .inl (cI, 9, .inl t.2.2.1)), (a 4, .inl (cI, 9, .inl t.2.2.2.1))]
abbrev gLet (cI : ClassId) (a : Nat → Nat) (t : LT) : va_W := [(a 0, .inr (0, [.ref (a 1), .int t.2])), (a 1, .inl (cI, 96, .inl t.1))]
abbrev gNum (cI : ClassId) (a : Nat → Nat) (t : LT) : va_W := [(a 0, .inr (1, [.ref (a 1), .int t.2])), (a 1, .inl (cI, 12, .inl t.1))]
abbrev gPas (cQ : ClassId) (a : Nat → Nat) (b : Nat → Nat → Nat) (h : HT) : va_W := [(a 0, .inr (3, [.ref (a 1), .int h.1, .int h.2])), (a 1, .inl (cQ, 8, .inr (.inr (.inr (.inr (fun k => some (b k 0)))))))]
abbrev gObj (x : Nat) (an am aq ap al au : Nat → Nat) (re : Nat) (pi : Int32) : va_W := [(x, .inr (4, [.ref (an 0), .ref (am 0), .ref (aq 0), .ref (ap 0), .ref (al 0), .ref (au 0), .ref re, .int pi]))]
abbrev gM4 (cI : ClassId) (d : Nat → Nat) (c : PT) : va_W := [(d 0, .inl (cI, 9, .inl c.1)), (d 1, .inl (cI, 9, .inl c.2.1)), (d 2, .inl (cI, 9, .inl c.2.2.1)), (d 3, .inl (cI, 9, .inl c.2.2.2.1))]
abbrev gQ (cI : ClassId) (d : Nat → Nat) (q : QT) : va_W := [(d 6, .inl (cI, 49, .inl q.1)), (d 7, .inl (cI, 49, .inl q.2.1)), (d 8, .inl (cI, 98, .inl q.2.2.1))]
abbrev gMo (o : Nat) (d : Nat → Nat) (c : PT) (th : Int32) (le : LT) (qz : QT) (ks : KS) (hi td : Int32) (ro : LT) (se : Int32) : va_W := [(o, .inr (5, [.int c.2.2.2.2.1, .ref (d 0), .ref (d 1), .ref (d 2), .ref (d 3), .int c.2.2.2.2.2.1, .int c.2.2.2.2.2.2.1, .int c.2.2.2.2.2.2.2.1, .int c.2.2.2.2.2.2.2.2.1, .int th, .ref (d 4), .int c.2.2.2.2.2.2.2.2.2, .ref (d 5), .int le.2, .int qz.2.2.2.1, .int qz.2.2.2.2.1, .int qz.2.2.2.2.2, .ref (d 6), .ref (d 7), .ref (d 8), .ref (d 9), .ref (d 10), .int hi, .int ks.1, .int ks.2.1, va_rf (ks.2.2.map d), .ref (d 11), .ref (d 12), .int td, .ref (d 13), .ref (d 14), .int ro.2, .ref (d 15), .int se]))]
