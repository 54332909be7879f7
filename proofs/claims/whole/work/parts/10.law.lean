theorem ii_6 (x : Int32) : x + Int32.ofInt 6 = x + 6 := rfl
abbrev BV_canal : Type := Int32 × Int32 × Int32 × Int32 × (Nat → Int32) × (Nat → Int32) × Int32 × Int32 × Int32 × (Nat → Int32) × (Nat → Int32) × (Nat → Int32)
abbrev BV_history : Type := Int32 × Int32 × (Nat → Int32) × (Nat → Int32) × (Nat → Int32) × (Nat → Nat → Int32) × (Nat → Nat → Int32) × (Nat → Nat → Int32)
abbrev BV_imageCanal : Type := Int32 × Int32 × Int32 × Int32 × (Nat → Int32) × (Nat → Int32) × Int32 × Int32 × Int32 × (Nat → Int32) × (Nat → Int32) × (Nat → Int32)
abbrev BV_imageHistory : Type := Int32 × Int32 × (Nat → Int32) × (Nat → Int32) × (Nat → Int32) × (Nat → Nat → Int32) × (Nat → Nat → Int32) × (Nat → Nat → Int32)
abbrev BV_hasImage : Type := Int32
abbrev BV_tape : Type := Int32 × Int32 × Int32 × (Nat → Int32)
abbrev BV_read : Type := Int32 × Int32 × Int32 × Int32 × (Nat → Int32) × (Nat → Int32) × Int32 × Int32 × Int32 × (Nat → Int32) × (Nat → Int32) × (Nat → Int32)
abbrev BV_fore : Type := Int32 × Int32 × Int32 × (Nat → Int32) × (Nat → Int32) × (Nat → Int32) × (Nat → Int64)
abbrev BV_search : Type := Int32 × Int32 × Int32 × Int32 × (Nat → Int32) × (Nat → Int32) × (Nat → Int32) × (Nat → Int32) × (Nat → Int32) × (Nat → Nat → Int32) × (Nat → Nat → Int32) × (Nat → Nat → Int32)
abbrev BV_sheets : Type := (Nat → Int32) × (Nat → Int32) × (Nat → Nat → Int64)
abbrev BV : Type := BV_canal × BV_history × BV_imageCanal × BV_imageHistory × BV_hasImage × BV_tape × BV_read × BV_fore × BV_search × BV_sheets
abbrev MMV : Type := Int32 × Int32 × Int32 × Int32 × Int32 × Int32 × Int32 × Int32 × Int32 × (Nat → Int32) × (Nat → Int32) × (Nat → Int32) × (Nat → Int64) × (Nat → Int32) × (Nat → Int32) × (Nat → Int32) × (Nat → Int32) × (Nat → Int32) × (Nat → Int32) × (Nat → Int32) × (Nat → Int64)
/-- the law's world: the boat, the reference -/
def LW (E : Ev) (ad bd : Nat → Nat → Nat) (S : BV) (M : MMV) : va_W := [((ad 0 0), oB 7 [.ref (ad 1 0), .ref (ad 8 0), .ref (ad 14 0), .ref (ad 21 0), .int S.2.2.2.2.1, .ref (ad 27 0), .ref (ad 36 0), .ref (ad 42 0), .ref (ad 50 0)]), ((ad 1 0), oB 0 [.ref (ad 2 0), .ref (ad 3 0), .ref (ad 4 0), .int S.1.1, .int S.1.2.1, .int S.1.2.2.1, .int S.1.2.2.2.1]), ((ad 2 0), aI E 6 S.1.2.2.2.2.1), ((ad 3 0), aI E 6 S.1.2.2.2.2.2.1), ((ad 4 0), oB 3 [.ref (ad 5 0), .ref (ad 6 0), .ref (ad 7 0), .int S.1.2.2.2.2.2.2.1, .int S.1.2.2.2.2.2.2.2.1, .int S.1.2.2.2.2.2.2.2.2.1]), ((ad 5 0), aI E 12 S.1.2.2.2.2.2.2.2.2.2.1), ((ad 6 0), aI E 5 S.1.2.2.2.2.2.2.2.2.2.2.1), ((ad 7 0), aI E 5 S.1.2.2.2.2.2.2.2.2.2.2.2), ((ad 8 0), oB 2 [.ref (ad 9 0), .int S.2.1.1, .int S.2.1.2.1]), ((ad 9 0), aM E 8 (fun j => some ((ad 10) j))), ((ad 10 0), oB 3 [.ref (ad 11 0), .ref (ad 12 0), .ref (ad 13 0), .int (S.2.1.2.2.1 0), .int (S.2.1.2.2.2.1 0), .int (S.2.1.2.2.2.2.1 0)]), ((ad 11 0), aI E 12 (S.2.1.2.2.2.2.2.1 0)), ((ad 12 0), aI E 5 (S.2.1.2.2.2.2.2.2.1 0)), ((ad 13 0), aI E 5 (S.2.1.2.2.2.2.2.2.2 0)), ((ad 10 1), oB 3 [.ref (ad 11 1), .ref (ad 12 1), .ref (ad 13 1), .int (S.2.1.2.2.1 1), .int (S.2.1.2.2.2.1 1), .int (S.2.1.2.2.2.2.1 1)]), ((ad 11 1), aI E 12 (S.2.1.2.2.2.2.2.1 1)), ((ad 12 1), aI E 5 (S.2.1.2.2.2.2.2.2.1 1)), ((ad 13 1), aI E 5 (S.2.1.2.2.2.2.2.2.2 1)), ((ad 10 2), oB 3 [.ref (ad 11 2), .ref (ad 12 2), .ref (ad 13 2), .int (S.2.1.2.2.1 2), .int (S.2.1.2.2.2.1 2), .int (S.2.1.2.2.2.2.1 2)]), ((ad 11 2), aI E 12 (S.2.1.2.2.2.2.2.1 2)), ((ad 12 2), aI E 5 (S.2.1.2.2.2.2.2.2.1 2)), ((ad 13 2), aI E 5 (S.2.1.2.2.2.2.2.2.2 2)), ((ad 10 3), oB 3 [.ref (ad 11 3), .ref (ad 12 3), .ref (ad 13 3), .int (S.2.1.2.2.1 3), .int (S.2.1.2.2.2.1 3), .int (S.2.1.2.2.2.2.1 3)]), ((ad 11 3), aI E 12 (S.2.1.2.2.2.2.2.1 3)), ((ad 12 3), aI E 5 (S.2.1.2.2.2.2.2.2.1 3)), ((ad 13 3), aI E 5 (S.2.1.2.2.2.2.2.2.2 3)), ((ad 10 4), oB 3 [.ref (ad 11 4), .ref (ad 12 4), .ref (ad 13 4), .int (S.2.1.2.2.1 4), .int (S.2.1.2.2.2.1 4), .int (S.2.1.2.2.2.2.1 4)]), ((ad 11 4), aI E 12 (S.2.1.2.2.2.2.2.1 4)), ((ad 12 4), aI E 5 (S.2.1.2.2.2.2.2.2.1 4)), ((ad 13 4), aI E 5 (S.2.1.2.2.2.2.2.2.2 4)), ((ad 10 5), oB 3 [.ref (ad 11 5), .ref (ad 12 5), .ref (ad 13 5), .int (S.2.1.2.2.1 5), .int (S.2.1.2.2.2.1 5), .int (S.2.1.2.2.2.2.1 5)]), ((ad 11 5), aI E 12 (S.2.1.2.2.2.2.2.1 5)), ((ad 12 5), aI E 5 (S.2.1.2.2.2.2.2.2.1 5)), ((ad 13 5), aI E 5 (S.2.1.2.2.2.2.2.2.2 5)), ((ad 10 6), oB 3 [.ref (ad 11 6), .ref (ad 12 6), .ref (ad 13 6), .int (S.2.1.2.2.1 6), .int (S.2.1.2.2.2.1 6), .int (S.2.1.2.2.2.2.1 6)]), ((ad 11 6), aI E 12 (S.2.1.2.2.2.2.2.1 6)), ((ad 12 6), aI E 5 (S.2.1.2.2.2.2.2.2.1 6)), ((ad 13 6), aI E 5 (S.2.1.2.2.2.2.2.2.2 6)), ((ad 10 7), oB 3 [.ref (ad 11 7), .ref (ad 12 7), .ref (ad 13 7), .int (S.2.1.2.2.1 7), .int (S.2.1.2.2.2.1 7), .int (S.2.1.2.2.2.2.1 7)]), ((ad 11 7), aI E 12 (S.2.1.2.2.2.2.2.1 7)), ((ad 12 7), aI E 5 (S.2.1.2.2.2.2.2.2.1 7)), ((ad 13 7), aI E 5 (S.2.1.2.2.2.2.2.2.2 7)), ((ad 14 0), oB 0 [.ref (ad 15 0), .ref (ad 16 0), .ref (ad 17 0), .int S.2.2.1.1, .int S.2.2.1.2.1, .int S.2.2.1.2.2.1, .int S.2.2.1.2.2.2.1]), ((ad 15 0), aI E 6 S.2.2.1.2.2.2.2.1), ((ad 16 0), aI E 6 S.2.2.1.2.2.2.2.2.1), ((ad 17 0), oB 3 [.ref (ad 18 0), .ref (ad 19 0), .ref (ad 20 0), .int S.2.2.1.2.2.2.2.2.2.1, .int S.2.2.1.2.2.2.2.2.2.2.1, .int S.2.2.1.2.2.2.2.2.2.2.2.1]), ((ad 18 0), aI E 12 S.2.2.1.2.2.2.2.2.2.2.2.2.1), ((ad 19 0), aI E 5 S.2.2.1.2.2.2.2.2.2.2.2.2.2.1), ((ad 20 0), aI E 5 S.2.2.1.2.2.2.2.2.2.2.2.2.2.2), ((ad 21 0), oB 2 [.ref (ad 22 0), .int S.2.2.2.1.1, .int S.2.2.2.1.2.1]), ((ad 22 0), aM E 8 (fun j => some ((ad 23) j))), ((ad 23 0), oB 3 [.ref (ad 24 0), .ref (ad 25 0), .ref (ad 26 0), .int (S.2.2.2.1.2.2.1 0), .int (S.2.2.2.1.2.2.2.1 0), .int (S.2.2.2.1.2.2.2.2.1 0)]), ((ad 24 0), aI E 12 (S.2.2.2.1.2.2.2.2.2.1 0)), ((ad 25 0), aI E 5 (S.2.2.2.1.2.2.2.2.2.2.1 0)), ((ad 26 0), aI E 5 (S.2.2.2.1.2.2.2.2.2.2.2 0)), ((ad 23 1), oB 3 [.ref (ad 24 1), .ref (ad 25 1), .ref (ad 26 1), .int (S.2.2.2.1.2.2.1 1), .int (S.2.2.2.1.2.2.2.1 1), .int (S.2.2.2.1.2.2.2.2.1 1)]), ((ad 24 1), aI E 12 (S.2.2.2.1.2.2.2.2.2.1 1)), ((ad 25 1), aI E 5 (S.2.2.2.1.2.2.2.2.2.2.1 1)), ((ad 26 1), aI E 5 (S.2.2.2.1.2.2.2.2.2.2.2 1)), ((ad 23 2), oB 3 [.ref (ad 24 2), .ref (ad 25 2), .ref (ad 26 2), .int (S.2.2.2.1.2.2.1 2), .int (S.2.2.2.1.2.2.2.1 2), .int (S.2.2.2.1.2.2.2.2.1 2)]), ((ad 24 2), aI E 12 (S.2.2.2.1.2.2.2.2.2.1 2)), ((ad 25 2), aI E 5 (S.2.2.2.1.2.2.2.2.2.2.1 2)), ((ad 26 2), aI E 5 (S.2.2.2.1.2.2.2.2.2.2.2 2)), ((ad 23 3), oB 3 [.ref (ad 24 3), .ref (ad 25 3), .ref (ad 26 3), .int (S.2.2.2.1.2.2.1 3), .int (S.2.2.2.1.2.2.2.1 3), .int (S.2.2.2.1.2.2.2.2.1 3)]), ((ad 24 3), aI E 12 (S.2.2.2.1.2.2.2.2.2.1 3)), ((ad 25 3), aI E 5 (S.2.2.2.1.2.2.2.2.2.2.1 3)), ((ad 26 3), aI E 5 (S.2.2.2.1.2.2.2.2.2.2.2 3)), ((ad 23 4), oB 3 [.ref (ad 24 4), .ref (ad 25 4), .ref (ad 26 4), .int (S.2.2.2.1.2.2.1 4), .int (S.2.2.2.1.2.2.2.1 4), .int (S.2.2.2.1.2.2.2.2.1 4)]), ((ad 24 4), aI E 12 (S.2.2.2.1.2.2.2.2.2.1 4)), ((ad 25 4), aI E 5 (S.2.2.2.1.2.2.2.2.2.2.1 4)), ((ad 26 4), aI E 5 (S.2.2.2.1.2.2.2.2.2.2.2 4)), ((ad 23 5), oB 3 [.ref (ad 24 5), .ref (ad 25 5), .ref (ad 26 5), .int (S.2.2.2.1.2.2.1 5), .int (S.2.2.2.1.2.2.2.1 5), .int (S.2.2.2.1.2.2.2.2.1 5)]), ((ad 24 5), aI E 12 (S.2.2.2.1.2.2.2.2.2.1 5)), ((ad 25 5), aI E 5 (S.2.2.2.1.2.2.2.2.2.2.1 5)), ((ad 26 5), aI E 5 (S.2.2.2.1.2.2.2.2.2.2.2 5)), ((ad 23 6), oB 3 [.ref (ad 24 6), .ref (ad 25 6), .ref (ad 26 6), .int (S.2.2.2.1.2.2.1 6), .int (S.2.2.2.1.2.2.2.1 6), .int (S.2.2.2.1.2.2.2.2.1 6)]), ((ad 24 6), aI E 12 (S.2.2.2.1.2.2.2.2.2.1 6)), ((ad 25 6), aI E 5 (S.2.2.2.1.2.2.2.2.2.2.1 6)), ((ad 26 6), aI E 5 (S.2.2.2.1.2.2.2.2.2.2.2 6)), ((ad 23 7), oB 3 [.ref (ad 24 7), .ref (ad 25 7), .ref (ad 26 7), .int (S.2.2.2.1.2.2.1 7), .int (S.2.2.2.1.2.2.2.1 7), .int (S.2.2.2.1.2.2.2.2.1 7)]), ((ad 24 7), aI E 12 (S.2.2.2.1.2.2.2.2.2.1 7)), ((ad 25 7), aI E 5 (S.2.2.2.1.2.2.2.2.2.2.1 7)), ((ad 26 7), aI E 5 (S.2.2.2.1.2.2.2.2.2.2.2 7)), ((ad 27 0), oB 6 [.ref (ad 28 0), .ref (ad 29 0), .int S.2.2.2.2.2.1.1, .int S.2.2.2.2.2.1.2.1, .int S.2.2.2.2.2.1.2.2.1]), ((ad 28 0), aC E 110 S.2.2.2.2.2.1.2.2.2), ((ad 29 0), oB 0 [.ref (ad 30 0), .ref (ad 31 0), .ref (ad 32 0), .int S.2.2.2.2.2.2.1.1, .int S.2.2.2.2.2.2.1.2.1, .int S.2.2.2.2.2.2.1.2.2.1, .int S.2.2.2.2.2.2.1.2.2.2.1]), ((ad 30 0), aI E 6 S.2.2.2.2.2.2.1.2.2.2.2.1), ((ad 31 0), aI E 6 S.2.2.2.2.2.2.1.2.2.2.2.2.1), ((ad 32 0), oB 3 [.ref (ad 33 0), .ref (ad 34 0), .ref (ad 35 0), .int S.2.2.2.2.2.2.1.2.2.2.2.2.2.1, .int S.2.2.2.2.2.2.1.2.2.2.2.2.2.2.1, .int S.2.2.2.2.2.2.1.2.2.2.2.2.2.2.2.1]), ((ad 33 0), aI E 12 S.2.2.2.2.2.2.1.2.2.2.2.2.2.2.2.2.1), ((ad 34 0), aI E 5 S.2.2.2.2.2.2.1.2.2.2.2.2.2.2.2.2.2.1), ((ad 35 0), aI E 5 S.2.2.2.2.2.2.1.2.2.2.2.2.2.2.2.2.2.2), ((ad 36 0), oB 1 [.ref (ad 37 0), .ref (ad 41 0)]), ((ad 37 0), oB 3 [.ref (ad 38 0), .ref (ad 39 0), .ref (ad 40 0), .int S.2.2.2.2.2.2.2.1.1, .int S.2.2.2.2.2.2.2.1.2.1, .int S.2.2.2.2.2.2.2.1.2.2.1]), ((ad 38 0), aI E 12 S.2.2.2.2.2.2.2.1.2.2.2.1), ((ad 39 0), aI E 5 S.2.2.2.2.2.2.2.1.2.2.2.2.1), ((ad 40 0), aI E 5 S.2.2.2.2.2.2.2.1.2.2.2.2.2.1), ((ad 41 0), aJ E 201 S.2.2.2.2.2.2.2.1.2.2.2.2.2.2), ((ad 42 0), oB 4 [.ref (ad 43 0), .ref (ad 44 0), .ref (ad 45 0), .int S.2.2.2.2.2.2.2.2.1.1, .int S.2.2.2.2.2.2.2.2.1.2.1, .int S.2.2.2.2.2.2.2.2.1.2.2.1, .int S.2.2.2.2.2.2.2.2.1.2.2.2.1]), ((ad 43 0), aM E 6 (fun j => some ((ad 46) j))), ((ad 44 0), aI E 5 S.2.2.2.2.2.2.2.2.1.2.2.2.2.1), ((ad 45 0), aI E 5 S.2.2.2.2.2.2.2.2.1.2.2.2.2.2.1), ((ad 46 0), oB 3 [.ref (ad 47 0), .ref (ad 48 0), .ref (ad 49 0), .int (S.2.2.2.2.2.2.2.2.1.2.2.2.2.2.2.1 0), .int (S.2.2.2.2.2.2.2.2.1.2.2.2.2.2.2.2.1 0), .int (S.2.2.2.2.2.2.2.2.1.2.2.2.2.2.2.2.2.1 0)]), ((ad 47 0), aI E 12 (S.2.2.2.2.2.2.2.2.1.2.2.2.2.2.2.2.2.2.1 0)), ((ad 48 0), aI E 5 (S.2.2.2.2.2.2.2.2.1.2.2.2.2.2.2.2.2.2.2.1 0)), ((ad 49 0), aI E 5 (S.2.2.2.2.2.2.2.2.1.2.2.2.2.2.2.2.2.2.2.2 0)), ((ad 46 1), oB 3 [.ref (ad 47 1), .ref (ad 48 1), .ref (ad 49 1), .int (S.2.2.2.2.2.2.2.2.1.2.2.2.2.2.2.1 1), .int (S.2.2.2.2.2.2.2.2.1.2.2.2.2.2.2.2.1 1), .int (S.2.2.2.2.2.2.2.2.1.2.2.2.2.2.2.2.2.1 1)]), ((ad 47 1), aI E 12 (S.2.2.2.2.2.2.2.2.1.2.2.2.2.2.2.2.2.2.1 1)), ((ad 48 1), aI E 5 (S.2.2.2.2.2.2.2.2.1.2.2.2.2.2.2.2.2.2.2.1 1)), ((ad 49 1), aI E 5 (S.2.2.2.2.2.2.2.2.1.2.2.2.2.2.2.2.2.2.2.2 1)), ((ad 46 2), oB 3 [.ref (ad 47 2), .ref (ad 48 2), .ref (ad 49 2), .int (S.2.2.2.2.2.2.2.2.1.2.2.2.2.2.2.1 2), .int (S.2.2.2.2.2.2.2.2.1.2.2.2.2.2.2.2.1 2), .int (S.2.2.2.2.2.2.2.2.1.2.2.2.2.2.2.2.2.1 2)]), ((ad 47 2), aI E 12 (S.2.2.2.2.2.2.2.2.1.2.2.2.2.2.2.2.2.2.1 2)), ((ad 48 2), aI E 5 (S.2.2.2.2.2.2.2.2.1.2.2.2.2.2.2.2.2.2.2.1 2)), ((ad 49 2), aI E 5 (S.2.2.2.2.2.2.2.2.1.2.2.2.2.2.2.2.2.2.2.2 2)), ((ad 46 3), oB 3 [.ref (ad 47 3), .ref (ad 48 3), .ref (ad 49 3), .int (S.2.2.2.2.2.2.2.2.1.2.2.2.2.2.2.1 3), .int (S.2.2.2.2.2.2.2.2.1.2.2.2.2.2.2.2.1 3), .int (S.2.2.2.2.2.2.2.2.1.2.2.2.2.2.2.2.2.1 3)]), ((ad 47 3), aI E 12 (S.2.2.2.2.2.2.2.2.1.2.2.2.2.2.2.2.2.2.1 3)), ((ad 48 3), aI E 5 (S.2.2.2.2.2.2.2.2.1.2.2.2.2.2.2.2.2.2.2.1 3)), ((ad 49 3), aI E 5 (S.2.2.2.2.2.2.2.2.1.2.2.2.2.2.2.2.2.2.2.2 3)), ((ad 46 4), oB 3 [.ref (ad 47 4), .ref (ad 48 4), .ref (ad 49 4), .int (S.2.2.2.2.2.2.2.2.1.2.2.2.2.2.2.1 4), .int (S.2.2.2.2.2.2.2.2.1.2.2.2.2.2.2.2.1 4), .int (S.2.2.2.2.2.2.2.2.1.2.2.2.2.2.2.2.2.1 4)]), ((ad 47 4), aI E 12 (S.2.2.2.2.2.2.2.2.1.2.2.2.2.2.2.2.2.2.1 4)), ((ad 48 4), aI E 5 (S.2.2.2.2.2.2.2.2.1.2.2.2.2.2.2.2.2.2.2.1 4)), ((ad 49 4), aI E 5 (S.2.2.2.2.2.2.2.2.1.2.2.2.2.2.2.2.2.2.2.2 4)), ((ad 46 5), oB 3 [.ref (ad 47 5), .ref (ad 48 5), .ref (ad 49 5), .int (S.2.2.2.2.2.2.2.2.1.2.2.2.2.2.2.1 5), .int (S.2.2.2.2.2.2.2.2.1.2.2.2.2.2.2.2.1 5), .int (S.2.2.2.2.2.2.2.2.1.2.2.2.2.2.2.2.2.1 5)]), ((ad 47 5), aI E 12 (S.2.2.2.2.2.2.2.2.1.2.2.2.2.2.2.2.2.2.1 5)), ((ad 48 5), aI E 5 (S.2.2.2.2.2.2.2.2.1.2.2.2.2.2.2.2.2.2.2.1 5)), ((ad 49 5), aI E 5 (S.2.2.2.2.2.2.2.2.1.2.2.2.2.2.2.2.2.2.2.2 5)), ((ad 50 0), aS E 4 (fun j => some ((ad 51) j))), ((ad 51 0), oB 5 [.ref (ad 52 0), .int (S.2.2.2.2.2.2.2.2.2.1 0), .int (S.2.2.2.2.2.2.2.2.2.2.1 0)]), ((ad 52 0), aJ E 24 (S.2.2.2.2.2.2.2.2.2.2.2 0)), ((ad 51 1), oB 5 [.ref (ad 52 1), .int (S.2.2.2.2.2.2.2.2.2.1 1), .int (S.2.2.2.2.2.2.2.2.2.2.1 1)]), ((ad 52 1), aJ E 24 (S.2.2.2.2.2.2.2.2.2.2.2 1)), ((ad 51 2), oB 5 [.ref (ad 52 2), .int (S.2.2.2.2.2.2.2.2.2.1 2), .int (S.2.2.2.2.2.2.2.2.2.2.1 2)]), ((ad 52 2), aJ E 24 (S.2.2.2.2.2.2.2.2.2.2.2 2)), ((ad 51 3), oB 5 [.ref (ad 52 3), .int (S.2.2.2.2.2.2.2.2.2.1 3), .int (S.2.2.2.2.2.2.2.2.2.2.1 3)]), ((ad 52 3), aJ E 24 (S.2.2.2.2.2.2.2.2.2.2.2 3)), ((bd 0 0), oB 8 [.ref (bd 1 0), .int M.1, .ref (bd 2 0), .ref (bd 3 0), .ref (bd 4 0), .ref (bd 5 0), .int M.2.1, .int M.2.2.1, .int M.2.2.2.1, .ref (bd 6 0), .int M.2.2.2.2.1, .ref (bd 7 0), .int M.2.2.2.2.2.1, .ref (bd 8 0), .int M.2.2.2.2.2.2.1, .ref (bd 9 0), .ref (bd 10 0), .int M.2.2.2.2.2.2.2.1, .int M.2.2.2.2.2.2.2.2.1, .ref (bd 11 0), .ref (bd 12 0)]), ((bd 1 0), aI E 525 M.2.2.2.2.2.2.2.2.2.1), ((bd 2 0), aI E 4 M.2.2.2.2.2.2.2.2.2.2.1), ((bd 3 0), aI E 4 M.2.2.2.2.2.2.2.2.2.2.2.1), ((bd 4 0), aJ E 96 M.2.2.2.2.2.2.2.2.2.2.2.2.1), ((bd 5 0), aI E 110 M.2.2.2.2.2.2.2.2.2.2.2.2.2.1), ((bd 6 0), aI E 12 M.2.2.2.2.2.2.2.2.2.2.2.2.2.2.1), ((bd 7 0), aI E 12 M.2.2.2.2.2.2.2.2.2.2.2.2.2.2.2.1), ((bd 8 0), aI E 10 M.2.2.2.2.2.2.2.2.2.2.2.2.2.2.2.2.1), ((bd 9 0), aI E 5 M.2.2.2.2.2.2.2.2.2.2.2.2.2.2.2.2.2.1), ((bd 10 0), aI E 5 M.2.2.2.2.2.2.2.2.2.2.2.2.2.2.2.2.2.2.1), ((bd 11 0), aI E 1407 M.2.2.2.2.2.2.2.2.2.2.2.2.2.2.2.2.2.2.2.1), ((bd 12 0), aJ E 24 M.2.2.2.2.2.2.2.2.2.2.2.2.2.2.2.2.2.2.2.2)]
def LX (K : KX) (b L : Nat) (xs : Nat → Int32) : Prop := va_X b L xs K.2.2.2.2.1 K.2.2.2.2.1.heap ∧ b < K.2.2.2.2.1.heap.size ∧ ¬ K.2.2.2.2.2.2.2.2.2.2.1 b
section GL
variable {E : Ev} {K : KX} {cc : ByteArray} {own : String} {nL ce sl pc : Nat} {lv : List (Nat × Value)} {st : List Value} {ws : va_W} {rm : Room}
theorem g_sld (k : OKX E K cc own nL rm) {b L κ : Nat} {xs : Nat → Int32} (X : LX K b L xs) {i : Int32} (hd : decode cc pc = .ok (.iaload, 1)) (hin : vp_in i L) (hk : i.toNatClampNeg = κ) (h : G E K nL ce sl lv (.int (xs κ) :: st) ws (pc + 1)) : G E K nL ce sl lv (.int i :: .ref b :: st) ws pc := by
  obtain ⟨p, l, e, R, s, m, args, below, meth, c, A, Q⟩ := K
  subst hk
  exact fun H locs ls hP hD hS hl => va_sld k.1 k.2.1 X.1 X.2.1 X.2.2 hS hin hd (h H locs ls hP hD hS hl)
theorem g_slen (k : OKX E K cc own nL rm) {b L : Nat} {xs : Nat → Int32} (X : LX K b L xs) (hd : decode cc pc = .ok (.arraylength, 1)) (h : G E K nL ce sl lv (.int (nI L) :: st) ws (pc + 1)) : G E K nL ce sl lv (.ref b :: st) ws pc := by
  obtain ⟨p, l, e, R, s, m, args, below, meth, c, A, Q⟩ := K
  intro H locs ls hP hD hS hl
  obtain ⟨⟨scr, h1, h2, h3, h4, h5⟩, hbl, hbA⟩ := X
  exact W.alen (n := Int32.ofNat L) k.1 k.2.1 (by rw [hS.2.1 b hbl hbA]; exact h1) h2 (by rw [h4] <;> rfl) rfl rfl hd (h H locs ls hP hD hS hl)
end GL
theorem sc_ix {x : Int32} {t L : Nat} (hx : x = nI t) (ht : t + 6 ≤ L) (hL : L ≤ 384) (j : Nat) (hj : j < 6) : vp_in (x + nI j) L ∧ (x + nI j).toNatClampNeg = t + j := by
  subst hx
  rw [nI_add]
  exact ⟨vp_in_nI (by omega) (by omega), nI_clamp (by omega)⟩
def bsX7_cell (S : BV) (o : Int32 × Int32 × (Nat → Int32) × Int32) : BV := ((o.2.1, S.1.2.1, S.1.2.2.1, S.1.2.2.2.1, S.1.2.2.2.2.1, S.1.2.2.2.2.2.1, S.1.2.2.2.2.2.2.1, S.1.2.2.2.2.2.2.2.1, S.1.2.2.2.2.2.2.2.2.1, o.2.2.1, S.1.2.2.2.2.2.2.2.2.2.2.1, S.1.2.2.2.2.2.2.2.2.2.2.2), (S.2.1.1, o.2.2.2, S.2.1.2.2.1, S.2.1.2.2.2.1, S.2.1.2.2.2.2.1, S.2.1.2.2.2.2.2.1, S.2.1.2.2.2.2.2.2.1, S.2.1.2.2.2.2.2.2.2), S.2.2.1, S.2.2.2.1, S.2.2.2.2.1, S.2.2.2.2.2.1, S.2.2.2.2.2.2.1, S.2.2.2.2.2.2.2.1, S.2.2.2.2.2.2.2.2.1, S.2.2.2.2.2.2.2.2.2)
def msX8_cell (M : MMV) (o : Int32 × (Nat → Int32)) : MMV := (M.1, M.2.1, M.2.2.1, M.2.2.2.1, M.2.2.2.2.1, M.2.2.2.2.2.1, M.2.2.2.2.2.2.1, M.2.2.2.2.2.2.2.1, M.2.2.2.2.2.2.2.2.1, o.2, M.2.2.2.2.2.2.2.2.2.2.1, M.2.2.2.2.2.2.2.2.2.2.2.1, M.2.2.2.2.2.2.2.2.2.2.2.2.1, M.2.2.2.2.2.2.2.2.2.2.2.2.2.1, M.2.2.2.2.2.2.2.2.2.2.2.2.2.2.1, M.2.2.2.2.2.2.2.2.2.2.2.2.2.2.2.1, M.2.2.2.2.2.2.2.2.2.2.2.2.2.2.2.2.1, M.2.2.2.2.2.2.2.2.2.2.2.2.2.2.2.2.2.1, M.2.2.2.2.2.2.2.2.2.2.2.2.2.2.2.2.2.2.1, M.2.2.2.2.2.2.2.2.2.2.2.2.2.2.2.2.2.2.2.1, M.2.2.2.2.2.2.2.2.2.2.2.2.2.2.2.2.2.2.2.2)
/-- X7_cell and X8_cell keep step -/
def Simcell (N : Nat) (Rel : BV → MMV → Prop) : Prop := ∀ (S : BV) (M : MMV) (y0 : Int32), Rel S M → ∃ o o', fX7_cell N S.1.1 S.1.2.2.2.2.2.2.2.2.2.1 S.2.1.2.1 y0 = some o ∧ fX8_cell N M.2.2.2.2.2.2.2.2.2.1 y0 = some o' ∧ o.1 = o'.1 ∧ Rel (bsX7_cell S o) (msX8_cell M o')
set_option maxHeartbeats 4000000 in
set_option maxRecDepth 100000 in
theorem lawc_cell {E : Ev} {K : KX} (k : OKX E K cL_law RL 4 room_1) {b L : Nat} {xs : Nat → Int32} (X : LX K b L xs) (N : Nat) {Rel : BV → MMV → Prop} (hsim : Simcell N Rel) (ad bd : Nat → Nat → Nat) {ce sl : Nat} (hce : ce ≤ room_1.cells ∧ sl ≤ room_1.slots) (S : BV) (M : MMV) (hR : Rel S M) (x3 : Int32) (t : Nat) (hx : x3 = nI t) (ht : t + 6 ≤ L) (hL : L ≤ 384) (next : ∀ S M, Rel S M → G E K 4 ce sl [(0, .ref b), (1, .ref (ad 0 0)), (2, .ref (bd 0 0)), (3, .int x3)] [] (LW E ad bd S M) 1384) : G E K 4 ce sl [(0, .ref b), (1, .ref (ad 0 0)), (2, .ref (bd 0 0)), (3, .int x3)] [] (LW E ad bd S M) 200 := by
  obtain ⟨o, o', ho, ho', hq, hRn⟩ := hsim S M (xs (t + 1)) hR
  refine g_aload_n k 1 dL_law_200 rfl rfl ?_
  refine g_aload_n k 0 dL_law_201 rfl rfl ?_
  refine g_iload_n k 3 dL_law_202 rfl rfl ?_
  refine g_iconst k dL_law_203 ic_1 ?_
  refine g_iadd k dL_law_204 ?_
  refine g_sld k X dL_law_205 (sc_ix hx ht hL 1 (by decide)).1 (sc_ix hx ht hL 1 (by decide)).2 ?_
  refine g_cv k miX7_cell mvX7_cell (ctX7_cell (kL K) E N (ad 0 0) (ad 1 0) (ad 8 0) (ad 14 0) (ad 21 0) (ad 27 0) (ad 36 0) (ad 42 0) (ad 50 0) (ad 2 0) (ad 3 0) (ad 4 0) (ad 5 0) (ad 6 0) (ad 7 0) (ad 9 0) S.2.2.2.2.1 S.1.1 S.1.2.1 S.1.2.2.1 S.1.2.2.2.1 S.1.2.2.2.2.2.2.1 S.1.2.2.2.2.2.2.2.1 S.1.2.2.2.2.2.2.2.2.1 S.1.2.2.2.2.2.2.2.2.2.1 S.2.1.1 S.2.1.2.1 (xs (t + 1)) o ho) [0, 1, 4, 5, 8] 0 (ws' := LW E ad bd (bsX7_cell S o) M) dL_law_206 lkL_13 rfl ⟨rfl, rfl⟩ hce rfl rfl rfl rfl (Nat.le_of_ble_eq_true rfl) rfl rfl rfl ?_
  refine g_st (st' := [.int o.1]) rfl ?_
  refine g_aload_n k 2 dL_law_209 rfl rfl ?_
  refine g_aload_n k 0 dL_law_210 rfl rfl ?_
  refine g_iload_n k 3 dL_law_211 rfl rfl ?_
  refine g_iconst k dL_law_212 ic_1 ?_
  refine g_iadd k dL_law_213 ?_
  refine g_sld k X dL_law_214 (sc_ix hx ht hL 1 (by decide)).1 (sc_ix hx ht hL 1 (by decide)).2 ?_
  refine g_cv k miX8_cell mvX8_cell (ctX8_cell (kL K) E N (bd 0 0) (bd 1 0) (bd 2 0) (bd 3 0) (bd 4 0) (bd 5 0) (bd 6 0) (bd 7 0) (bd 8 0) (bd 9 0) (bd 10 0) (bd 11 0) (bd 12 0) M.1 M.2.1 M.2.2.1 M.2.2.2.1 M.2.2.2.2.1 M.2.2.2.2.2.1 M.2.2.2.2.2.2.1 M.2.2.2.2.2.2.2.1 M.2.2.2.2.2.2.2.2.1 M.2.2.2.2.2.2.2.2.2.1 (xs (t + 1)) o' ho') [135, 136] 0 (ws' := LW E ad bd (bsX7_cell S o) (msX8_cell M o')) dL_law_215 lkL_17 rfl ⟨rfl, rfl⟩ hce rfl rfl rfl rfl (Nat.le_of_ble_eq_true rfl) rfl rfl rfl ?_
  refine g_st (st' := [.int o'.1, .int o.1]) rfl ?_
  exact g_icmp_eq k (tgt := 1384) dL_law_218 (by decide) (fun _ => next _ _ hRn) (fun c => absurd hq c)
def bsX7_person (S : BV) (o : Int32 × Int32 × (Nat → Int32) × (Nat → Int32) × Int32) : BV := ((S.1.1, o.2.1, S.1.2.2.1, S.1.2.2.2.1, o.2.2.1, o.2.2.2.1, S.1.2.2.2.2.2.2.1, S.1.2.2.2.2.2.2.2.1, S.1.2.2.2.2.2.2.2.2.1, S.1.2.2.2.2.2.2.2.2.2.1, S.1.2.2.2.2.2.2.2.2.2.2.1, S.1.2.2.2.2.2.2.2.2.2.2.2), (S.2.1.1, o.2.2.2.2, S.2.1.2.2.1, S.2.1.2.2.2.1, S.2.1.2.2.2.2.1, S.2.1.2.2.2.2.2.1, S.2.1.2.2.2.2.2.2.1, S.2.1.2.2.2.2.2.2.2), S.2.2.1, S.2.2.2.1, S.2.2.2.2.1, S.2.2.2.2.2.1, S.2.2.2.2.2.2.1, S.2.2.2.2.2.2.2.1, S.2.2.2.2.2.2.2.2.1, S.2.2.2.2.2.2.2.2.2)
def msX8_person (M : MMV) (o : Int32 × (Nat → Int32)) : MMV := (M.1, M.2.1, M.2.2.1, M.2.2.2.1, M.2.2.2.2.1, M.2.2.2.2.2.1, M.2.2.2.2.2.2.1, M.2.2.2.2.2.2.2.1, M.2.2.2.2.2.2.2.2.1, o.2, M.2.2.2.2.2.2.2.2.2.2.1, M.2.2.2.2.2.2.2.2.2.2.2.1, M.2.2.2.2.2.2.2.2.2.2.2.2.1, M.2.2.2.2.2.2.2.2.2.2.2.2.2.1, M.2.2.2.2.2.2.2.2.2.2.2.2.2.2.1, M.2.2.2.2.2.2.2.2.2.2.2.2.2.2.2.1, M.2.2.2.2.2.2.2.2.2.2.2.2.2.2.2.2.1, M.2.2.2.2.2.2.2.2.2.2.2.2.2.2.2.2.2.1, M.2.2.2.2.2.2.2.2.2.2.2.2.2.2.2.2.2.2.1, M.2.2.2.2.2.2.2.2.2.2.2.2.2.2.2.2.2.2.2.1, M.2.2.2.2.2.2.2.2.2.2.2.2.2.2.2.2.2.2.2.2)
/-- X7_person and X8_person keep step -/
def Simperson (N : Nat) (Rel : BV → MMV → Prop) : Prop := ∀ (S : BV) (M : MMV) (y0 : Int32) (y1 : Int32), Rel S M → ∃ o o', fX7_person N S.1.2.1 S.1.2.2.2.2.1 S.1.2.2.2.2.2.1 S.2.1.2.1 y0 y1 = some o ∧ fX8_person N M.2.2.2.2.2.2.2.2.2.1 y0 y1 = some o' ∧ o.1 = o'.1 ∧ Rel (bsX7_person S o) (msX8_person M o')
set_option maxHeartbeats 4000000 in
set_option maxRecDepth 100000 in
theorem lawc_person {E : Ev} {K : KX} (k : OKX E K cL_law RL 4 room_1) {b L : Nat} {xs : Nat → Int32} (X : LX K b L xs) (N : Nat) {Rel : BV → MMV → Prop} (hsim : Simperson N Rel) (ad bd : Nat → Nat → Nat) {ce sl : Nat} (hce : ce ≤ room_1.cells ∧ sl ≤ room_1.slots) (S : BV) (M : MMV) (hR : Rel S M) (x3 : Int32) (t : Nat) (hx : x3 = nI t) (ht : t + 6 ≤ L) (hL : L ≤ 384) (next : ∀ S M, Rel S M → G E K 4 ce sl [(0, .ref b), (1, .ref (ad 0 0)), (2, .ref (bd 0 0)), (3, .int x3)] [] (LW E ad bd S M) 1384) : G E K 4 ce sl [(0, .ref b), (1, .ref (ad 0 0)), (2, .ref (bd 0 0)), (3, .int x3)] [] (LW E ad bd S M) 223 := by
  obtain ⟨o, o', ho, ho', hq, hRn⟩ := hsim S M (xs (t + 1)) (xs (t + 2)) hR
  refine g_aload_n k 1 dL_law_223 rfl rfl ?_
  refine g_aload_n k 0 dL_law_224 rfl rfl ?_
  refine g_iload_n k 3 dL_law_225 rfl rfl ?_
  refine g_iconst k dL_law_226 ic_1 ?_
  refine g_iadd k dL_law_227 ?_
  refine g_sld k X dL_law_228 (sc_ix hx ht hL 1 (by decide)).1 (sc_ix hx ht hL 1 (by decide)).2 ?_
  refine g_aload_n k 0 dL_law_229 rfl rfl ?_
  refine g_iload_n k 3 dL_law_230 rfl rfl ?_
  refine g_iconst k dL_law_231 ic_2 ?_
  refine g_iadd k dL_law_232 ?_
  refine g_sld k X dL_law_233 (sc_ix hx ht hL 2 (by decide)).1 (sc_ix hx ht hL 2 (by decide)).2 ?_
  refine g_cv k miX7_person mvX7_person (ctX7_person (kL K) E N (ad 0 0) (ad 1 0) (ad 8 0) (ad 14 0) (ad 21 0) (ad 27 0) (ad 36 0) (ad 42 0) (ad 50 0) (ad 2 0) (ad 3 0) (ad 4 0) (ad 9 0) S.2.2.2.2.1 S.1.1 S.1.2.1 S.1.2.2.1 S.1.2.2.2.1 S.1.2.2.2.2.1 S.1.2.2.2.2.2.1 S.2.1.1 S.2.1.2.1 (xs (t + 1)) (xs (t + 2)) o ho) [0, 1, 2, 3, 8] 0 (ws' := LW E ad bd (bsX7_person S o) M) dL_law_234 lkL_18 rfl ⟨rfl, rfl⟩ hce rfl rfl rfl rfl (Nat.le_of_ble_eq_true rfl) rfl rfl rfl ?_
  refine g_st (st' := [.int o.1]) rfl ?_
  refine g_aload_n k 2 dL_law_237 rfl rfl ?_
  refine g_aload_n k 0 dL_law_238 rfl rfl ?_
  refine g_iload_n k 3 dL_law_239 rfl rfl ?_
  refine g_iconst k dL_law_240 ic_1 ?_
  refine g_iadd k dL_law_241 ?_
  refine g_sld k X dL_law_242 (sc_ix hx ht hL 1 (by decide)).1 (sc_ix hx ht hL 1 (by decide)).2 ?_
  refine g_aload_n k 0 dL_law_243 rfl rfl ?_
  refine g_iload_n k 3 dL_law_244 rfl rfl ?_
  refine g_iconst k dL_law_245 ic_2 ?_
  refine g_iadd k dL_law_246 ?_
  refine g_sld k X dL_law_247 (sc_ix hx ht hL 2 (by decide)).1 (sc_ix hx ht hL 2 (by decide)).2 ?_
  refine g_cv k miX8_person mvX8_person (ctX8_person (kL K) E N (bd 0 0) (bd 1 0) (bd 2 0) (bd 3 0) (bd 4 0) (bd 5 0) (bd 6 0) (bd 7 0) (bd 8 0) (bd 9 0) (bd 10 0) (bd 11 0) (bd 12 0) M.1 M.2.1 M.2.2.1 M.2.2.2.1 M.2.2.2.2.1 M.2.2.2.2.2.1 M.2.2.2.2.2.2.1 M.2.2.2.2.2.2.2.1 M.2.2.2.2.2.2.2.2.1 M.2.2.2.2.2.2.2.2.2.1 (xs (t + 1)) (xs (t + 2)) o' ho') [135, 136] 0 (ws' := LW E ad bd (bsX7_person S o) (msX8_person M o')) dL_law_248 lkL_22 rfl ⟨rfl, rfl⟩ hce rfl rfl rfl rfl (Nat.le_of_ble_eq_true rfl) rfl rfl rfl ?_
  refine g_st (st' := [.int o'.1, .int o.1]) rfl ?_
  exact g_icmp_eq k (tgt := 1384) dL_law_251 (by decide) (fun _ => next _ _ hRn) (fun c => absurd hq c)
def bsX7_saying (S : BV) (o : Int32 × Int32 × (Nat → Int32) × (Nat → Int32) × Int32) : BV := ((S.1.1, S.1.2.1, o.2.1, S.1.2.2.2.1, S.1.2.2.2.2.1, S.1.2.2.2.2.2.1, S.1.2.2.2.2.2.2.1, S.1.2.2.2.2.2.2.2.1, S.1.2.2.2.2.2.2.2.2.1, S.1.2.2.2.2.2.2.2.2.2.1, o.2.2.1, o.2.2.2.1), (S.2.1.1, o.2.2.2.2, S.2.1.2.2.1, S.2.1.2.2.2.1, S.2.1.2.2.2.2.1, S.2.1.2.2.2.2.2.1, S.2.1.2.2.2.2.2.2.1, S.2.1.2.2.2.2.2.2.2), S.2.2.1, S.2.2.2.1, S.2.2.2.2.1, S.2.2.2.2.2.1, S.2.2.2.2.2.2.1, S.2.2.2.2.2.2.2.1, S.2.2.2.2.2.2.2.2.1, S.2.2.2.2.2.2.2.2.2)
def msX8_saying (M : MMV) (o : Int32 × (Nat → Int32)) : MMV := (M.1, M.2.1, M.2.2.1, M.2.2.2.1, M.2.2.2.2.1, M.2.2.2.2.2.1, M.2.2.2.2.2.2.1, M.2.2.2.2.2.2.2.1, M.2.2.2.2.2.2.2.2.1, o.2, M.2.2.2.2.2.2.2.2.2.2.1, M.2.2.2.2.2.2.2.2.2.2.2.1, M.2.2.2.2.2.2.2.2.2.2.2.2.1, M.2.2.2.2.2.2.2.2.2.2.2.2.2.1, M.2.2.2.2.2.2.2.2.2.2.2.2.2.2.1, M.2.2.2.2.2.2.2.2.2.2.2.2.2.2.2.1, M.2.2.2.2.2.2.2.2.2.2.2.2.2.2.2.2.1, M.2.2.2.2.2.2.2.2.2.2.2.2.2.2.2.2.2.1, M.2.2.2.2.2.2.2.2.2.2.2.2.2.2.2.2.2.2.1, M.2.2.2.2.2.2.2.2.2.2.2.2.2.2.2.2.2.2.2.1, M.2.2.2.2.2.2.2.2.2.2.2.2.2.2.2.2.2.2.2.2)
/-- X7_saying and X8_saying keep step -/
def Simsaying (N : Nat) (Rel : BV → MMV → Prop) : Prop := ∀ (S : BV) (M : MMV) (y0 : Int32) (y1 : Int32), Rel S M → ∃ o o', fX7_saying N S.1.2.1 S.1.2.2.1 S.1.2.2.2.2.2.2.2.2.2.2.1 S.1.2.2.2.2.2.2.2.2.2.2.2 S.2.1.2.1 y0 y1 = some o ∧ fX8_saying N M.2.2.2.2.2.2.2.2.2.1 y0 y1 = some o' ∧ o.1 = o'.1 ∧ Rel (bsX7_saying S o) (msX8_saying M o')
set_option maxHeartbeats 4000000 in
set_option maxRecDepth 100000 in
theorem lawc_saying {E : Ev} {K : KX} (k : OKX E K cL_law RL 4 room_1) {b L : Nat} {xs : Nat → Int32} (X : LX K b L xs) (N : Nat) {Rel : BV → MMV → Prop} (hsim : Simsaying N Rel) (ad bd : Nat → Nat → Nat) {ce sl : Nat} (hce : ce ≤ room_1.cells ∧ sl ≤ room_1.slots) (S : BV) (M : MMV) (hR : Rel S M) (x3 : Int32) (t : Nat) (hx : x3 = nI t) (ht : t + 6 ≤ L) (hL : L ≤ 384) (next : ∀ S M, Rel S M → G E K 4 ce sl [(0, .ref b), (1, .ref (ad 0 0)), (2, .ref (bd 0 0)), (3, .int x3)] [] (LW E ad bd S M) 1384) : G E K 4 ce sl [(0, .ref b), (1, .ref (ad 0 0)), (2, .ref (bd 0 0)), (3, .int x3)] [] (LW E ad bd S M) 256 := by
  obtain ⟨o, o', ho, ho', hq, hRn⟩ := hsim S M (xs (t + 1)) (xs (t + 2)) hR
  refine g_aload_n k 1 dL_law_256 rfl rfl ?_
  refine g_aload_n k 0 dL_law_257 rfl rfl ?_
  refine g_iload_n k 3 dL_law_258 rfl rfl ?_
  refine g_iconst k dL_law_259 ic_1 ?_
  refine g_iadd k dL_law_260 ?_
  refine g_sld k X dL_law_261 (sc_ix hx ht hL 1 (by decide)).1 (sc_ix hx ht hL 1 (by decide)).2 ?_
  refine g_aload_n k 0 dL_law_262 rfl rfl ?_
  refine g_iload_n k 3 dL_law_263 rfl rfl ?_
  refine g_iconst k dL_law_264 ic_2 ?_
  refine g_iadd k dL_law_265 ?_
  refine g_sld k X dL_law_266 (sc_ix hx ht hL 2 (by decide)).1 (sc_ix hx ht hL 2 (by decide)).2 ?_
  refine g_cv k miX7_saying mvX7_saying (ctX7_saying (kL K) E N (ad 0 0) (ad 1 0) (ad 8 0) (ad 14 0) (ad 21 0) (ad 27 0) (ad 36 0) (ad 42 0) (ad 50 0) (ad 2 0) (ad 3 0) (ad 4 0) (ad 5 0) (ad 6 0) (ad 7 0) (ad 9 0) S.2.2.2.2.1 S.1.1 S.1.2.1 S.1.2.2.1 S.1.2.2.2.1 S.1.2.2.2.2.2.2.1 S.1.2.2.2.2.2.2.2.1 S.1.2.2.2.2.2.2.2.2.1 S.1.2.2.2.2.2.2.2.2.2.2.1 S.1.2.2.2.2.2.2.2.2.2.2.2 S.2.1.1 S.2.1.2.1 (xs (t + 1)) (xs (t + 2)) o ho) [0, 1, 4, 6, 7, 8] 0 (ws' := LW E ad bd (bsX7_saying S o) M) dL_law_267 lkL_23 rfl ⟨rfl, rfl⟩ hce rfl rfl rfl rfl (Nat.le_of_ble_eq_true rfl) rfl rfl rfl ?_
  refine g_st (st' := [.int o.1]) rfl ?_
  refine g_aload_n k 2 dL_law_270 rfl rfl ?_
  refine g_aload_n k 0 dL_law_271 rfl rfl ?_
  refine g_iload_n k 3 dL_law_272 rfl rfl ?_
  refine g_iconst k dL_law_273 ic_1 ?_
  refine g_iadd k dL_law_274 ?_
  refine g_sld k X dL_law_275 (sc_ix hx ht hL 1 (by decide)).1 (sc_ix hx ht hL 1 (by decide)).2 ?_
  refine g_aload_n k 0 dL_law_276 rfl rfl ?_
  refine g_iload_n k 3 dL_law_277 rfl rfl ?_
  refine g_iconst k dL_law_278 ic_2 ?_
  refine g_iadd k dL_law_279 ?_
  refine g_sld k X dL_law_280 (sc_ix hx ht hL 2 (by decide)).1 (sc_ix hx ht hL 2 (by decide)).2 ?_
  refine g_cv k miX8_saying mvX8_saying (ctX8_saying (kL K) E N (bd 0 0) (bd 1 0) (bd 2 0) (bd 3 0) (bd 4 0) (bd 5 0) (bd 6 0) (bd 7 0) (bd 8 0) (bd 9 0) (bd 10 0) (bd 11 0) (bd 12 0) M.1 M.2.1 M.2.2.1 M.2.2.2.1 M.2.2.2.2.1 M.2.2.2.2.2.1 M.2.2.2.2.2.2.1 M.2.2.2.2.2.2.2.1 M.2.2.2.2.2.2.2.2.1 M.2.2.2.2.2.2.2.2.2.1 (xs (t + 1)) (xs (t + 2)) o' ho') [135, 136] 0 (ws' := LW E ad bd (bsX7_saying S o) (msX8_saying M o')) dL_law_281 lkL_26 rfl ⟨rfl, rfl⟩ hce rfl rfl rfl rfl (Nat.le_of_ble_eq_true rfl) rfl rfl rfl ?_
  refine g_st (st' := [.int o'.1, .int o.1]) rfl ?_
  exact g_icmp_eq k (tgt := 1384) dL_law_284 (by decide) (fun _ => next _ _ hRn) (fun c => absurd hq c)
/-- X7_ice and X8_ice keep step -/
def Simice (N : Nat) (Rel : BV → MMV → Prop) : Prop := ∀ (S : BV) (M : MMV) (y0 : Int32), Rel S M → ∃ o o', fX7_ice N S.1.1 S.1.2.2.2.2.2.2.2.2.2.1 y0 = some o ∧ fX8_ice N M.2.2.2.2.2.2.2.2.2.1 y0 = some o' ∧ o = o' ∧ Rel S M
set_option maxHeartbeats 4000000 in
set_option maxRecDepth 100000 in
theorem lawc_ice {E : Ev} {K : KX} (k : OKX E K cL_law RL 4 room_1) {b L : Nat} {xs : Nat → Int32} (X : LX K b L xs) (N : Nat) {Rel : BV → MMV → Prop} (hsim : Simice N Rel) (ad bd : Nat → Nat → Nat) {ce sl : Nat} (hce : ce ≤ room_1.cells ∧ sl ≤ room_1.slots) (S : BV) (M : MMV) (hR : Rel S M) (x3 : Int32) (t : Nat) (hx : x3 = nI t) (ht : t + 6 ≤ L) (hL : L ≤ 384) (next : ∀ S M, Rel S M → G E K 4 ce sl [(0, .ref b), (1, .ref (ad 0 0)), (2, .ref (bd 0 0)), (3, .int x3)] [] (LW E ad bd S M) 1384) : G E K 4 ce sl [(0, .ref b), (1, .ref (ad 0 0)), (2, .ref (bd 0 0)), (3, .int x3)] [] (LW E ad bd S M) 289 := by
  obtain ⟨o, o', ho, ho', hq, hRn⟩ := hsim S M (xs (t + 1)) hR
  refine g_aload_n k 1 dL_law_289 rfl rfl ?_
  refine g_aload_n k 0 dL_law_290 rfl rfl ?_
  refine g_iload_n k 3 dL_law_291 rfl rfl ?_
  refine g_iconst k dL_law_292 ic_1 ?_
  refine g_iadd k dL_law_293 ?_
  refine g_sld k X dL_law_294 (sc_ix hx ht hL 1 (by decide)).1 (sc_ix hx ht hL 1 (by decide)).2 ?_
  refine g_cv k miX7_ice mvX7_ice (ctX7_ice (kL K) E N (ad 0 0) (ad 1 0) (ad 8 0) (ad 14 0) (ad 21 0) (ad 27 0) (ad 36 0) (ad 42 0) (ad 50 0) (ad 2 0) (ad 3 0) (ad 4 0) (ad 5 0) (ad 6 0) (ad 7 0) S.2.2.2.2.1 S.1.1 S.1.2.1 S.1.2.2.1 S.1.2.2.2.1 S.1.2.2.2.2.2.2.1 S.1.2.2.2.2.2.2.2.1 S.1.2.2.2.2.2.2.2.2.1 S.1.2.2.2.2.2.2.2.2.2.1 (xs (t + 1)) o ho) [0, 1, 4, 5] 0 (ws' := LW E ad bd S M) dL_law_295 lkL_27 rfl ⟨rfl, rfl⟩ hce rfl rfl rfl rfl (Nat.le_of_ble_eq_true rfl) rfl rfl rfl ?_
  refine g_st (st' := [.int o]) rfl ?_
  refine g_aload_n k 2 dL_law_298 rfl rfl ?_
  refine g_aload_n k 0 dL_law_299 rfl rfl ?_
  refine g_iload_n k 3 dL_law_300 rfl rfl ?_
  refine g_iconst k dL_law_301 ic_1 ?_
  refine g_iadd k dL_law_302 ?_
  refine g_sld k X dL_law_303 (sc_ix hx ht hL 1 (by decide)).1 (sc_ix hx ht hL 1 (by decide)).2 ?_
  refine g_cv k miX8_ice mvX8_ice (ctX8_ice (kL K) E N (bd 0 0) (bd 1 0) (bd 2 0) (bd 3 0) (bd 4 0) (bd 5 0) (bd 6 0) (bd 7 0) (bd 8 0) (bd 9 0) (bd 10 0) (bd 11 0) (bd 12 0) M.1 M.2.1 M.2.2.1 M.2.2.2.1 M.2.2.2.2.1 M.2.2.2.2.2.1 M.2.2.2.2.2.2.1 M.2.2.2.2.2.2.2.1 M.2.2.2.2.2.2.2.2.1 M.2.2.2.2.2.2.2.2.2.1 (xs (t + 1)) o' ho') [135, 136] 0 (ws' := LW E ad bd S M) dL_law_304 lkL_30 rfl ⟨rfl, rfl⟩ hce rfl rfl rfl rfl (Nat.le_of_ble_eq_true rfl) rfl rfl rfl ?_
  refine g_st (st' := [.int o', .int o]) rfl ?_
  exact g_icmp_eq k (tgt := 1384) dL_law_307 (by decide) (fun _ => next _ _ hRn) (fun c => absurd hq c)
/-- X7_of and X8_of keep step -/
def Simof (N : Nat) (Rel : BV → MMV → Prop) : Prop := ∀ (S : BV) (M : MMV) (y0 : Int32) (y1 : Int32), Rel S M → ∃ o o', fX7_of N S.1.2.1 S.1.2.2.1 S.1.2.2.2.2.1 S.1.2.2.2.2.2.1 S.1.2.2.2.2.2.2.2.2.2.2.2 y0 y1 = some o ∧ fX8_of N M.2.2.2.2.2.2.2.2.2.1 y0 y1 = some o' ∧ o = o' ∧ Rel S M
set_option maxHeartbeats 4000000 in
set_option maxRecDepth 100000 in
theorem lawc_of {E : Ev} {K : KX} (k : OKX E K cL_law RL 4 room_1) {b L : Nat} {xs : Nat → Int32} (X : LX K b L xs) (N : Nat) {Rel : BV → MMV → Prop} (hsim : Simof N Rel) (ad bd : Nat → Nat → Nat) {ce sl : Nat} (hce : ce ≤ room_1.cells ∧ sl ≤ room_1.slots) (S : BV) (M : MMV) (hR : Rel S M) (x3 : Int32) (t : Nat) (hx : x3 = nI t) (ht : t + 6 ≤ L) (hL : L ≤ 384) (next : ∀ S M, Rel S M → G E K 4 ce sl [(0, .ref b), (1, .ref (ad 0 0)), (2, .ref (bd 0 0)), (3, .int x3)] [] (LW E ad bd S M) 1384) : G E K 4 ce sl [(0, .ref b), (1, .ref (ad 0 0)), (2, .ref (bd 0 0)), (3, .int x3)] [] (LW E ad bd S M) 312 := by
  obtain ⟨o, o', ho, ho', hq, hRn⟩ := hsim S M (xs (t + 1)) (xs (t + 2)) hR
  refine g_aload_n k 1 dL_law_312 rfl rfl ?_
  refine g_aload_n k 0 dL_law_313 rfl rfl ?_
  refine g_iload_n k 3 dL_law_314 rfl rfl ?_
  refine g_iconst k dL_law_315 ic_1 ?_
  refine g_iadd k dL_law_316 ?_
  refine g_sld k X dL_law_317 (sc_ix hx ht hL 1 (by decide)).1 (sc_ix hx ht hL 1 (by decide)).2 ?_
  refine g_aload_n k 0 dL_law_318 rfl rfl ?_
  refine g_iload_n k 3 dL_law_319 rfl rfl ?_
  refine g_iconst k dL_law_320 ic_2 ?_
  refine g_iadd k dL_law_321 ?_
  refine g_sld k X dL_law_322 (sc_ix hx ht hL 2 (by decide)).1 (sc_ix hx ht hL 2 (by decide)).2 ?_
  refine g_cv k miX7_of mvX7_of (ctX7_of (kL K) E N (ad 0 0) (ad 1 0) (ad 8 0) (ad 14 0) (ad 21 0) (ad 27 0) (ad 36 0) (ad 42 0) (ad 50 0) (ad 2 0) (ad 3 0) (ad 4 0) (ad 5 0) (ad 6 0) (ad 7 0) S.2.2.2.2.1 S.1.1 S.1.2.1 S.1.2.2.1 S.1.2.2.2.1 S.1.2.2.2.2.1 S.1.2.2.2.2.2.1 S.1.2.2.2.2.2.2.1 S.1.2.2.2.2.2.2.2.1 S.1.2.2.2.2.2.2.2.2.1 S.1.2.2.2.2.2.2.2.2.2.2.2 (xs (t + 1)) (xs (t + 2)) o ho) [0, 1, 2, 3, 4, 7] 0 (ws' := LW E ad bd S M) dL_law_323 lkL_31 rfl ⟨rfl, rfl⟩ hce rfl rfl rfl rfl (Nat.le_of_ble_eq_true rfl) rfl rfl rfl ?_
  refine g_st (st' := [.int o]) rfl ?_
  refine g_aload_n k 2 dL_law_326 rfl rfl ?_
  refine g_aload_n k 0 dL_law_327 rfl rfl ?_
  refine g_iload_n k 3 dL_law_328 rfl rfl ?_
  refine g_iconst k dL_law_329 ic_1 ?_
  refine g_iadd k dL_law_330 ?_
  refine g_sld k X dL_law_331 (sc_ix hx ht hL 1 (by decide)).1 (sc_ix hx ht hL 1 (by decide)).2 ?_
  refine g_aload_n k 0 dL_law_332 rfl rfl ?_
  refine g_iload_n k 3 dL_law_333 rfl rfl ?_
  refine g_iconst k dL_law_334 ic_2 ?_
  refine g_iadd k dL_law_335 ?_
  refine g_sld k X dL_law_336 (sc_ix hx ht hL 2 (by decide)).1 (sc_ix hx ht hL 2 (by decide)).2 ?_
  refine g_cv k miX8_of mvX8_of (ctX8_of (kL K) E N (bd 0 0) (bd 1 0) (bd 2 0) (bd 3 0) (bd 4 0) (bd 5 0) (bd 6 0) (bd 7 0) (bd 8 0) (bd 9 0) (bd 10 0) (bd 11 0) (bd 12 0) M.1 M.2.1 M.2.2.1 M.2.2.2.1 M.2.2.2.2.1 M.2.2.2.2.2.1 M.2.2.2.2.2.2.1 M.2.2.2.2.2.2.2.1 M.2.2.2.2.2.2.2.2.1 M.2.2.2.2.2.2.2.2.2.1 (xs (t + 1)) (xs (t + 2)) o' ho') [135, 136] 0 (ws' := LW E ad bd S M) dL_law_337 lkL_34 rfl ⟨rfl, rfl⟩ hce rfl rfl rfl rfl (Nat.le_of_ble_eq_true rfl) rfl rfl rfl ?_
  refine g_st (st' := [.int o', .int o]) rfl ?_
  exact g_icmp_eq k (tgt := 1384) dL_law_340 (by decide) (fun _ => next _ _ hRn) (fun c => absurd hq c)
/-- X7_at and X8_at keep step -/
def Simat (N : Nat) (Rel : BV → MMV → Prop) : Prop := ∀ (S : BV) (M : MMV) (y0 : Int32) (y1 : Int32), Rel S M → ∃ o o', fX7_at N S.1.2.1 S.1.2.2.1 S.1.2.2.2.2.1 S.1.2.2.2.2.2.1 S.1.2.2.2.2.2.2.2.1 S.1.2.2.2.2.2.2.2.2.2.2.1 S.1.2.2.2.2.2.2.2.2.2.2.2 y0 y1 = some o ∧ fX8_at N M.2.2.2.2.2.2.2.2.2.1 y0 y1 = some o' ∧ o = o' ∧ Rel S M
set_option maxHeartbeats 4000000 in
set_option maxRecDepth 100000 in
theorem lawc_at {E : Ev} {K : KX} (k : OKX E K cL_law RL 4 room_1) {b L : Nat} {xs : Nat → Int32} (X : LX K b L xs) (N : Nat) {Rel : BV → MMV → Prop} (hsim : Simat N Rel) (ad bd : Nat → Nat → Nat) {ce sl : Nat} (hce : ce ≤ room_1.cells ∧ sl ≤ room_1.slots) (S : BV) (M : MMV) (hR : Rel S M) (x3 : Int32) (t : Nat) (hx : x3 = nI t) (ht : t + 6 ≤ L) (hL : L ≤ 384) (next : ∀ S M, Rel S M → G E K 4 ce sl [(0, .ref b), (1, .ref (ad 0 0)), (2, .ref (bd 0 0)), (3, .int x3)] [] (LW E ad bd S M) 1384) : G E K 4 ce sl [(0, .ref b), (1, .ref (ad 0 0)), (2, .ref (bd 0 0)), (3, .int x3)] [] (LW E ad bd S M) 345 := by
  obtain ⟨o, o', ho, ho', hq, hRn⟩ := hsim S M (xs (t + 1)) (xs (t + 2)) hR
  refine g_aload_n k 1 dL_law_345 rfl rfl ?_
  refine g_aload_n k 0 dL_law_346 rfl rfl ?_
  refine g_iload_n k 3 dL_law_347 rfl rfl ?_
  refine g_iconst k dL_law_348 ic_1 ?_
  refine g_iadd k dL_law_349 ?_
  refine g_sld k X dL_law_350 (sc_ix hx ht hL 1 (by decide)).1 (sc_ix hx ht hL 1 (by decide)).2 ?_
  refine g_aload_n k 0 dL_law_351 rfl rfl ?_
  refine g_iload_n k 3 dL_law_352 rfl rfl ?_
  refine g_iconst k dL_law_353 ic_2 ?_
  refine g_iadd k dL_law_354 ?_
  refine g_sld k X dL_law_355 (sc_ix hx ht hL 2 (by decide)).1 (sc_ix hx ht hL 2 (by decide)).2 ?_
  refine g_cv k miX7_at mvX7_at (ctX7_at (kL K) E N (ad 0 0) (ad 1 0) (ad 8 0) (ad 14 0) (ad 21 0) (ad 27 0) (ad 36 0) (ad 42 0) (ad 50 0) (ad 2 0) (ad 3 0) (ad 4 0) (ad 5 0) (ad 6 0) (ad 7 0) S.2.2.2.2.1 S.1.1 S.1.2.1 S.1.2.2.1 S.1.2.2.2.1 S.1.2.2.2.2.1 S.1.2.2.2.2.2.1 S.1.2.2.2.2.2.2.1 S.1.2.2.2.2.2.2.2.1 S.1.2.2.2.2.2.2.2.2.1 S.1.2.2.2.2.2.2.2.2.2.2.1 S.1.2.2.2.2.2.2.2.2.2.2.2 (xs (t + 1)) (xs (t + 2)) o ho) [0, 1, 2, 3, 4, 6, 7] 0 (ws' := LW E ad bd S M) dL_law_356 lkL_35 rfl ⟨rfl, rfl⟩ hce rfl rfl rfl rfl (Nat.le_of_ble_eq_true rfl) rfl rfl rfl ?_
  refine g_st (st' := [.int o]) rfl ?_
  refine g_aload_n k 2 dL_law_359 rfl rfl ?_
  refine g_aload_n k 0 dL_law_360 rfl rfl ?_
  refine g_iload_n k 3 dL_law_361 rfl rfl ?_
  refine g_iconst k dL_law_362 ic_1 ?_
  refine g_iadd k dL_law_363 ?_
  refine g_sld k X dL_law_364 (sc_ix hx ht hL 1 (by decide)).1 (sc_ix hx ht hL 1 (by decide)).2 ?_
  refine g_aload_n k 0 dL_law_365 rfl rfl ?_
  refine g_iload_n k 3 dL_law_366 rfl rfl ?_
  refine g_iconst k dL_law_367 ic_2 ?_
  refine g_iadd k dL_law_368 ?_
  refine g_sld k X dL_law_369 (sc_ix hx ht hL 2 (by decide)).1 (sc_ix hx ht hL 2 (by decide)).2 ?_
  refine g_cv k miX8_at mvX8_at (ctX8_at (kL K) E N (bd 0 0) (bd 1 0) (bd 2 0) (bd 3 0) (bd 4 0) (bd 5 0) (bd 6 0) (bd 7 0) (bd 8 0) (bd 9 0) (bd 10 0) (bd 11 0) (bd 12 0) M.1 M.2.1 M.2.2.1 M.2.2.2.1 M.2.2.2.2.1 M.2.2.2.2.2.1 M.2.2.2.2.2.2.1 M.2.2.2.2.2.2.2.1 M.2.2.2.2.2.2.2.2.1 M.2.2.2.2.2.2.2.2.2.1 (xs (t + 1)) (xs (t + 2)) o' ho') [135, 136] 0 (ws' := LW E ad bd S M) dL_law_370 lkL_38 rfl ⟨rfl, rfl⟩ hce rfl rfl rfl rfl (Nat.le_of_ble_eq_true rfl) rfl rfl rfl ?_
  refine g_st (st' := [.int o', .int o]) rfl ?_
  exact g_icmp_eq k (tgt := 1384) dL_law_373 (by decide) (fun _ => next _ _ hRn) (fun c => absurd hq c)
/-- X7_rocks and X8_rocks keep step -/
def Simrocks (N : Nat) (Rel : BV → MMV → Prop) : Prop := ∀ (S : BV) (M : MMV) (y0 : Int32) (y1 : Int32), Rel S M → ∃ o o', fX7_rocks N S.1.2.1 S.1.2.2.1 S.1.2.2.2.2.1 S.1.2.2.2.2.2.1 S.1.2.2.2.2.2.2.2.1 S.1.2.2.2.2.2.2.2.2.2.2.1 S.1.2.2.2.2.2.2.2.2.2.2.2 y0 y1 = some o ∧ fX8_rocks N M.2.2.2.2.2.2.2.2.2.1 y0 y1 = some o' ∧ o = o' ∧ Rel S M
set_option maxHeartbeats 4000000 in
set_option maxRecDepth 100000 in
theorem lawc_rocks {E : Ev} {K : KX} (k : OKX E K cL_law RL 4 room_1) {b L : Nat} {xs : Nat → Int32} (X : LX K b L xs) (N : Nat) {Rel : BV → MMV → Prop} (hsim : Simrocks N Rel) (ad bd : Nat → Nat → Nat) {ce sl : Nat} (hce : ce ≤ room_1.cells ∧ sl ≤ room_1.slots) (S : BV) (M : MMV) (hR : Rel S M) (x3 : Int32) (t : Nat) (hx : x3 = nI t) (ht : t + 6 ≤ L) (hL : L ≤ 384) (next : ∀ S M, Rel S M → G E K 4 ce sl [(0, .ref b), (1, .ref (ad 0 0)), (2, .ref (bd 0 0)), (3, .int x3)] [] (LW E ad bd S M) 1384) : G E K 4 ce sl [(0, .ref b), (1, .ref (ad 0 0)), (2, .ref (bd 0 0)), (3, .int x3)] [] (LW E ad bd S M) 378 := by
  obtain ⟨o, o', ho, ho', hq, hRn⟩ := hsim S M (xs (t + 1)) (xs (t + 2)) hR
  refine g_aload_n k 1 dL_law_378 rfl rfl ?_
  refine g_aload_n k 0 dL_law_379 rfl rfl ?_
  refine g_iload_n k 3 dL_law_380 rfl rfl ?_
  refine g_iconst k dL_law_381 ic_1 ?_
  refine g_iadd k dL_law_382 ?_
  refine g_sld k X dL_law_383 (sc_ix hx ht hL 1 (by decide)).1 (sc_ix hx ht hL 1 (by decide)).2 ?_
  refine g_aload_n k 0 dL_law_384 rfl rfl ?_
  refine g_iload_n k 3 dL_law_385 rfl rfl ?_
  refine g_iconst k dL_law_386 ic_2 ?_
  refine g_iadd k dL_law_387 ?_
  refine g_sld k X dL_law_388 (sc_ix hx ht hL 2 (by decide)).1 (sc_ix hx ht hL 2 (by decide)).2 ?_
  refine g_cv k miX7_rocks mvX7_rocks (ctX7_rocks (kL K) E N (ad 0 0) (ad 1 0) (ad 8 0) (ad 14 0) (ad 21 0) (ad 27 0) (ad 36 0) (ad 42 0) (ad 50 0) (ad 2 0) (ad 3 0) (ad 4 0) (ad 5 0) (ad 6 0) (ad 7 0) S.2.2.2.2.1 S.1.1 S.1.2.1 S.1.2.2.1 S.1.2.2.2.1 S.1.2.2.2.2.1 S.1.2.2.2.2.2.1 S.1.2.2.2.2.2.2.1 S.1.2.2.2.2.2.2.2.1 S.1.2.2.2.2.2.2.2.2.1 S.1.2.2.2.2.2.2.2.2.2.2.1 S.1.2.2.2.2.2.2.2.2.2.2.2 (xs (t + 1)) (xs (t + 2)) o ho) [0, 1, 2, 3, 4, 6, 7] 0 (ws' := LW E ad bd S M) dL_law_389 lkL_39 rfl ⟨rfl, rfl⟩ hce rfl rfl rfl rfl (Nat.le_of_ble_eq_true rfl) rfl rfl rfl ?_
  refine g_st (st' := [.int o]) rfl ?_
  refine g_aload_n k 2 dL_law_392 rfl rfl ?_
  refine g_aload_n k 0 dL_law_393 rfl rfl ?_
  refine g_iload_n k 3 dL_law_394 rfl rfl ?_
  refine g_iconst k dL_law_395 ic_1 ?_
  refine g_iadd k dL_law_396 ?_
  refine g_sld k X dL_law_397 (sc_ix hx ht hL 1 (by decide)).1 (sc_ix hx ht hL 1 (by decide)).2 ?_
  refine g_aload_n k 0 dL_law_398 rfl rfl ?_
  refine g_iload_n k 3 dL_law_399 rfl rfl ?_
  refine g_iconst k dL_law_400 ic_2 ?_
  refine g_iadd k dL_law_401 ?_
  refine g_sld k X dL_law_402 (sc_ix hx ht hL 2 (by decide)).1 (sc_ix hx ht hL 2 (by decide)).2 ?_
  refine g_cv k miX8_rocks mvX8_rocks (ctX8_rocks (kL K) E N (bd 0 0) (bd 1 0) (bd 2 0) (bd 3 0) (bd 4 0) (bd 5 0) (bd 6 0) (bd 7 0) (bd 8 0) (bd 9 0) (bd 10 0) (bd 11 0) (bd 12 0) M.1 M.2.1 M.2.2.1 M.2.2.2.1 M.2.2.2.2.1 M.2.2.2.2.2.1 M.2.2.2.2.2.2.1 M.2.2.2.2.2.2.2.1 M.2.2.2.2.2.2.2.2.1 M.2.2.2.2.2.2.2.2.2.1 (xs (t + 1)) (xs (t + 2)) o' ho') [135, 136] 0 (ws' := LW E ad bd S M) dL_law_403 lkL_42 rfl ⟨rfl, rfl⟩ hce rfl rfl rfl rfl (Nat.le_of_ble_eq_true rfl) rfl rfl rfl ?_
  refine g_st (st' := [.int o', .int o]) rfl ?_
  exact g_icmp_eq k (tgt := 1384) dL_law_406 (by decide) (fun _ => next _ _ hRn) (fun c => absurd hq c)
def bsX7_frost (S : BV) (o : Int32 × Int32) : BV := ((S.1.1, S.1.2.1, S.1.2.2.1, o.2, S.1.2.2.2.2.1, S.1.2.2.2.2.2.1, S.1.2.2.2.2.2.2.1, S.1.2.2.2.2.2.2.2.1, S.1.2.2.2.2.2.2.2.2.1, S.1.2.2.2.2.2.2.2.2.2.1, S.1.2.2.2.2.2.2.2.2.2.2.1, S.1.2.2.2.2.2.2.2.2.2.2.2), S.2.1, S.2.2.1, S.2.2.2.1, S.2.2.2.2.1, S.2.2.2.2.2.1, S.2.2.2.2.2.2.1, S.2.2.2.2.2.2.2.1, S.2.2.2.2.2.2.2.2.1, S.2.2.2.2.2.2.2.2.2)
def msX8_frost (M : MMV) (o : Int32 × (Nat → Int32)) : MMV := (M.1, M.2.1, M.2.2.1, M.2.2.2.1, M.2.2.2.2.1, M.2.2.2.2.2.1, M.2.2.2.2.2.2.1, M.2.2.2.2.2.2.2.1, M.2.2.2.2.2.2.2.2.1, o.2, M.2.2.2.2.2.2.2.2.2.2.1, M.2.2.2.2.2.2.2.2.2.2.2.1, M.2.2.2.2.2.2.2.2.2.2.2.2.1, M.2.2.2.2.2.2.2.2.2.2.2.2.2.1, M.2.2.2.2.2.2.2.2.2.2.2.2.2.2.1, M.2.2.2.2.2.2.2.2.2.2.2.2.2.2.2.1, M.2.2.2.2.2.2.2.2.2.2.2.2.2.2.2.2.1, M.2.2.2.2.2.2.2.2.2.2.2.2.2.2.2.2.2.1, M.2.2.2.2.2.2.2.2.2.2.2.2.2.2.2.2.2.2.1, M.2.2.2.2.2.2.2.2.2.2.2.2.2.2.2.2.2.2.2.1, M.2.2.2.2.2.2.2.2.2.2.2.2.2.2.2.2.2.2.2.2)
/-- X7_frost and X8_frost keep step -/
def Simfrost (N : Nat) (Rel : BV → MMV → Prop) : Prop := ∀ (S : BV) (M : MMV) (y0 : Int32), Rel S M → ∃ o o', fX7_frost N S.1.2.2.2.1 y0 = some o ∧ fX8_frost N M.2.2.2.2.2.2.2.2.2.1 y0 = some o' ∧ o.1 = o'.1 ∧ Rel (bsX7_frost S o) (msX8_frost M o')
set_option maxHeartbeats 4000000 in
set_option maxRecDepth 100000 in
theorem lawc_frost {E : Ev} {K : KX} (k : OKX E K cL_law RL 4 room_1) {b L : Nat} {xs : Nat → Int32} (X : LX K b L xs) (N : Nat) {Rel : BV → MMV → Prop} (hsim : Simfrost N Rel) (ad bd : Nat → Nat → Nat) {ce sl : Nat} (hce : ce ≤ room_1.cells ∧ sl ≤ room_1.slots) (S : BV) (M : MMV) (hR : Rel S M) (x3 : Int32) (t : Nat) (hx : x3 = nI t) (ht : t + 6 ≤ L) (hL : L ≤ 384) (next : ∀ S M, Rel S M → G E K 4 ce sl [(0, .ref b), (1, .ref (ad 0 0)), (2, .ref (bd 0 0)), (3, .int x3)] [] (LW E ad bd S M) 1384) : G E K 4 ce sl [(0, .ref b), (1, .ref (ad 0 0)), (2, .ref (bd 0 0)), (3, .int x3)] [] (LW E ad bd S M) 411 := by
  obtain ⟨o, o', ho, ho', hq, hRn⟩ := hsim S M (xs (t + 1)) hR
  refine g_aload_n k 1 dL_law_411 rfl rfl ?_
  refine g_aload_n k 0 dL_law_412 rfl rfl ?_
  refine g_iload_n k 3 dL_law_413 rfl rfl ?_
  refine g_iconst k dL_law_414 ic_1 ?_
  refine g_iadd k dL_law_415 ?_
  refine g_sld k X dL_law_416 (sc_ix hx ht hL 1 (by decide)).1 (sc_ix hx ht hL 1 (by decide)).2 ?_
  refine g_cv k miX7_frost mvX7_frost (ctX7_frost (kL K) E N (ad 0 0) (ad 1 0) (ad 8 0) (ad 14 0) (ad 21 0) (ad 27 0) (ad 36 0) (ad 42 0) (ad 50 0) (ad 2 0) (ad 3 0) (ad 4 0) S.2.2.2.2.1 S.1.1 S.1.2.1 S.1.2.2.1 S.1.2.2.2.1 (xs (t + 1)) o ho) [0, 1] 0 (ws' := LW E ad bd (bsX7_frost S o) M) dL_law_417 lkL_43 rfl ⟨rfl, rfl⟩ hce rfl rfl rfl rfl (Nat.le_of_ble_eq_true rfl) rfl rfl rfl ?_
  refine g_st (st' := [.int o.1]) rfl ?_
  refine g_aload_n k 2 dL_law_420 rfl rfl ?_
  refine g_aload_n k 0 dL_law_421 rfl rfl ?_
  refine g_iload_n k 3 dL_law_422 rfl rfl ?_
  refine g_iconst k dL_law_423 ic_1 ?_
  refine g_iadd k dL_law_424 ?_
  refine g_sld k X dL_law_425 (sc_ix hx ht hL 1 (by decide)).1 (sc_ix hx ht hL 1 (by decide)).2 ?_
  refine g_cv k miX8_frost mvX8_frost (ctX8_frost (kL K) E N (bd 0 0) (bd 1 0) (bd 2 0) (bd 3 0) (bd 4 0) (bd 5 0) (bd 6 0) (bd 7 0) (bd 8 0) (bd 9 0) (bd 10 0) (bd 11 0) (bd 12 0) M.1 M.2.1 M.2.2.1 M.2.2.2.1 M.2.2.2.2.1 M.2.2.2.2.2.1 M.2.2.2.2.2.2.1 M.2.2.2.2.2.2.2.1 M.2.2.2.2.2.2.2.2.1 M.2.2.2.2.2.2.2.2.2.1 (xs (t + 1)) o' ho') [135, 136] 0 (ws' := LW E ad bd (bsX7_frost S o) (msX8_frost M o')) dL_law_426 lkL_46 rfl ⟨rfl, rfl⟩ hce rfl rfl rfl rfl (Nat.le_of_ble_eq_true rfl) rfl rfl rfl ?_
  refine g_st (st' := [.int o'.1, .int o.1]) rfl ?_
  exact g_icmp_eq k (tgt := 1384) dL_law_429 (by decide) (fun _ => next _ _ hRn) (fun c => absurd hq c)
def bsX7_type (S : BV) (o : Int32 × Int32 × (Nat → Int32)) : BV := (S.1, S.2.1, S.2.2.1, S.2.2.2.1, S.2.2.2.2.1, (o.2.1, S.2.2.2.2.2.1.2.1, S.2.2.2.2.2.1.2.2.1, o.2.2), S.2.2.2.2.2.2.1, S.2.2.2.2.2.2.2.1, S.2.2.2.2.2.2.2.2.1, S.2.2.2.2.2.2.2.2.2)
def msX8_type (M : MMV) (o : Int32 × Int32 × (Nat → Int32)) : MMV := (M.1, o.2.1, M.2.2.1, M.2.2.2.1, M.2.2.2.2.1, M.2.2.2.2.2.1, M.2.2.2.2.2.2.1, M.2.2.2.2.2.2.2.1, M.2.2.2.2.2.2.2.2.1, M.2.2.2.2.2.2.2.2.2.1, M.2.2.2.2.2.2.2.2.2.2.1, M.2.2.2.2.2.2.2.2.2.2.2.1, M.2.2.2.2.2.2.2.2.2.2.2.2.1, o.2.2, M.2.2.2.2.2.2.2.2.2.2.2.2.2.2.1, M.2.2.2.2.2.2.2.2.2.2.2.2.2.2.2.1, M.2.2.2.2.2.2.2.2.2.2.2.2.2.2.2.2.1, M.2.2.2.2.2.2.2.2.2.2.2.2.2.2.2.2.2.1, M.2.2.2.2.2.2.2.2.2.2.2.2.2.2.2.2.2.2.1, M.2.2.2.2.2.2.2.2.2.2.2.2.2.2.2.2.2.2.2.1, M.2.2.2.2.2.2.2.2.2.2.2.2.2.2.2.2.2.2.2.2)
/-- X7_type and X8_type keep step -/
def Simtype (N : Nat) (Rel : BV → MMV → Prop) : Prop := ∀ (S : BV) (M : MMV) (y0 : Int32), Rel S M → ∃ o o', fX7_type N S.2.2.2.2.2.1.1 S.2.2.2.2.2.1.2.2.2 y0 = some o ∧ fX8_type N M.2.1 M.2.2.2.2.2.2.2.2.2.2.2.2.2.1 y0 = some o' ∧ o.1 = o'.1 ∧ Rel (bsX7_type S o) (msX8_type M o')
set_option maxHeartbeats 4000000 in
set_option maxRecDepth 100000 in
theorem lawc_type {E : Ev} {K : KX} (k : OKX E K cL_law RL 4 room_1) {b L : Nat} {xs : Nat → Int32} (X : LX K b L xs) (N : Nat) {Rel : BV → MMV → Prop} (hsim : Simtype N Rel) (ad bd : Nat → Nat → Nat) {ce sl : Nat} (hce : ce ≤ room_1.cells ∧ sl ≤ room_1.slots) (S : BV) (M : MMV) (hR : Rel S M) (x3 : Int32) (t : Nat) (hx : x3 = nI t) (ht : t + 6 ≤ L) (hL : L ≤ 384) (next : ∀ S M, Rel S M → G E K 4 ce sl [(0, .ref b), (1, .ref (ad 0 0)), (2, .ref (bd 0 0)), (3, .int x3)] [] (LW E ad bd S M) 1384) : G E K 4 ce sl [(0, .ref b), (1, .ref (ad 0 0)), (2, .ref (bd 0 0)), (3, .int x3)] [] (LW E ad bd S M) 434 := by
  obtain ⟨o, o', ho, ho', hq, hRn⟩ := hsim S M (xs (t + 1)) hR
  refine g_aload_n k 1 dL_law_434 rfl rfl ?_
  refine g_aload_n k 0 dL_law_435 rfl rfl ?_
  refine g_iload_n k 3 dL_law_436 rfl rfl ?_
  refine g_iconst k dL_law_437 ic_1 ?_
  refine g_iadd k dL_law_438 ?_
  refine g_sld k X dL_law_439 (sc_ix hx ht hL 1 (by decide)).1 (sc_ix hx ht hL 1 (by decide)).2 ?_
  refine g_cv k miX7_type mvX7_type (ctX7_type (kL K) E N (ad 0 0) (ad 1 0) (ad 8 0) (ad 14 0) (ad 21 0) (ad 27 0) (ad 36 0) (ad 42 0) (ad 50 0) (ad 28 0) (ad 29 0) S.2.2.2.2.1 S.2.2.2.2.2.1.1 S.2.2.2.2.2.1.2.1 S.2.2.2.2.2.1.2.2.1 S.2.2.2.2.2.1.2.2.2 (xs (t + 1)) o ho) [0, 83, 84] 0 (ws' := LW E ad bd (bsX7_type S o) M) dL_law_440 lkL_47 rfl ⟨rfl, rfl⟩ hce rfl rfl rfl rfl (Nat.le_of_ble_eq_true rfl) rfl rfl rfl ?_
  refine g_st (st' := [.int o.1]) rfl ?_
  refine g_aload_n k 2 dL_law_443 rfl rfl ?_
  refine g_aload_n k 0 dL_law_444 rfl rfl ?_
  refine g_iload_n k 3 dL_law_445 rfl rfl ?_
  refine g_iconst k dL_law_446 ic_1 ?_
  refine g_iadd k dL_law_447 ?_
  refine g_sld k X dL_law_448 (sc_ix hx ht hL 1 (by decide)).1 (sc_ix hx ht hL 1 (by decide)).2 ?_
  refine g_cv k miX8_type mvX8_type (ctX8_type (kL K) E N (bd 0 0) (bd 1 0) (bd 2 0) (bd 3 0) (bd 4 0) (bd 5 0) (bd 6 0) (bd 7 0) (bd 8 0) (bd 9 0) (bd 10 0) (bd 11 0) (bd 12 0) M.1 M.2.1 M.2.2.1 M.2.2.2.1 M.2.2.2.2.1 M.2.2.2.2.2.1 M.2.2.2.2.2.2.1 M.2.2.2.2.2.2.2.1 M.2.2.2.2.2.2.2.2.1 M.2.2.2.2.2.2.2.2.2.2.2.2.2.1 (xs (t + 1)) o' ho') [135, 140] 0 (ws' := LW E ad bd (bsX7_type S o) (msX8_type M o')) dL_law_449 lkL_50 rfl ⟨rfl, rfl⟩ hce rfl rfl rfl rfl (Nat.le_of_ble_eq_true rfl) rfl rfl rfl ?_
  refine g_st (st' := [.int o'.1, .int o.1]) rfl ?_
  exact g_icmp_eq k (tgt := 1384) dL_law_452 (by decide) (fun _ => next _ _ hRn) (fun c => absurd hq c)
def bsX7_canal (S : BV) (o : Int32 × Int32 × Int32 × Int32 × Int32 × (Nat → Int32) × (Nat → Int32) × Int32 × Int32 × Int32 × (Nat → Int32) × (Nat → Int32) × (Nat → Int32) × Int32 × Int32 × Int32 × Int32 × Int32 × Int32 × Int32 × Int32 × (Nat → Int32) × (Nat → Int32) × Int32 × (Nat → Int32) × (Nat → Int32) × (Nat → Int32)) : BV := ((o.2.1, o.2.2.1, o.2.2.2.1, o.2.2.2.2.1, o.2.2.2.2.2.1, o.2.2.2.2.2.2.1, o.2.2.2.2.2.2.2.1, o.2.2.2.2.2.2.2.2.1, o.2.2.2.2.2.2.2.2.2.1, o.2.2.2.2.2.2.2.2.2.2.1, o.2.2.2.2.2.2.2.2.2.2.2.1, o.2.2.2.2.2.2.2.2.2.2.2.2.1), (S.2.1.1, o.2.2.2.2.2.2.2.2.2.2.2.2.2.1, S.2.1.2.2.1, S.2.1.2.2.2.1, S.2.1.2.2.2.2.1, S.2.1.2.2.2.2.2.1, S.2.1.2.2.2.2.2.2.1, S.2.1.2.2.2.2.2.2.2), S.2.2.1, S.2.2.2.1, S.2.2.2.2.1, (o.2.2.2.2.2.2.2.2.2.2.2.2.2.2.1, o.2.2.2.2.2.2.2.2.2.2.2.2.2.2.2.1, o.2.2.2.2.2.2.2.2.2.2.2.2.2.2.2.2.1, S.2.2.2.2.2.1.2.2.2), (o.2.2.2.2.2.2.2.2.2.2.2.2.2.2.2.2.2.1, o.2.2.2.2.2.2.2.2.2.2.2.2.2.2.2.2.2.2.1, o.2.2.2.2.2.2.2.2.2.2.2.2.2.2.2.2.2.2.2.1, o.2.2.2.2.2.2.2.2.2.2.2.2.2.2.2.2.2.2.2.2.1, o.2.2.2.2.2.2.2.2.2.2.2.2.2.2.2.2.2.2.2.2.2.1, o.2.2.2.2.2.2.2.2.2.2.2.2.2.2.2.2.2.2.2.2.2.2.1, S.2.2.2.2.2.2.1.2.2.2.2.2.2.1, S.2.2.2.2.2.2.1.2.2.2.2.2.2.2.1, o.2.2.2.2.2.2.2.2.2.2.2.2.2.2.2.2.2.2.2.2.2.2.2.1, o.2.2.2.2.2.2.2.2.2.2.2.2.2.2.2.2.2.2.2.2.2.2.2.2.1, o.2.2.2.2.2.2.2.2.2.2.2.2.2.2.2.2.2.2.2.2.2.2.2.2.2.1, o.2.2.2.2.2.2.2.2.2.2.2.2.2.2.2.2.2.2.2.2.2.2.2.2.2.2), S.2.2.2.2.2.2.2.1, S.2.2.2.2.2.2.2.2.1, S.2.2.2.2.2.2.2.2.2)
def msX8_canal (M : MMV) (o : Int32 × Int32 × Int32 × Int32 × Int32 × Int32 × Int32 × (Nat → Int32) × (Nat → Int32) × (Nat → Int32) × (Nat → Int32)) : MMV := (M.1, o.2.1, o.2.2.1, o.2.2.2.1, o.2.2.2.2.1, o.2.2.2.2.2.1, o.2.2.2.2.2.2.1, M.2.2.2.2.2.2.2.1, M.2.2.2.2.2.2.2.2.1, o.2.2.2.2.2.2.2.1, M.2.2.2.2.2.2.2.2.2.2.1, M.2.2.2.2.2.2.2.2.2.2.2.1, M.2.2.2.2.2.2.2.2.2.2.2.2.1, M.2.2.2.2.2.2.2.2.2.2.2.2.2.1, o.2.2.2.2.2.2.2.2.1, o.2.2.2.2.2.2.2.2.2.1, o.2.2.2.2.2.2.2.2.2.2, M.2.2.2.2.2.2.2.2.2.2.2.2.2.2.2.2.2.1, M.2.2.2.2.2.2.2.2.2.2.2.2.2.2.2.2.2.2.1, M.2.2.2.2.2.2.2.2.2.2.2.2.2.2.2.2.2.2.2.1, M.2.2.2.2.2.2.2.2.2.2.2.2.2.2.2.2.2.2.2.2)
/-- X7_canal and X8_canal keep step -/
def Simcanal (N : Nat) (Rel : BV → MMV → Prop) : Prop := ∀ (S : BV) (M : MMV), Rel S M → ∃ o o', fX7_canal N S.1.1 S.1.2.1 S.1.2.2.1 S.1.2.2.2.1 S.1.2.2.2.2.1 S.1.2.2.2.2.2.1 S.1.2.2.2.2.2.2.1 S.1.2.2.2.2.2.2.2.1 S.1.2.2.2.2.2.2.2.2.1 S.1.2.2.2.2.2.2.2.2.2.1 S.1.2.2.2.2.2.2.2.2.2.2.1 S.1.2.2.2.2.2.2.2.2.2.2.2 S.2.1.2.1 S.2.2.2.2.2.1.1 S.2.2.2.2.2.1.2.1 S.2.2.2.2.2.1.2.2.1 S.2.2.2.2.2.1.2.2.2 S.2.2.2.2.2.2.1.1 S.2.2.2.2.2.2.1.2.1 S.2.2.2.2.2.2.1.2.2.1 S.2.2.2.2.2.2.1.2.2.2.1 S.2.2.2.2.2.2.1.2.2.2.2.1 S.2.2.2.2.2.2.1.2.2.2.2.2.1 S.2.2.2.2.2.2.1.2.2.2.2.2.2.1 S.2.2.2.2.2.2.1.2.2.2.2.2.2.2.1 S.2.2.2.2.2.2.1.2.2.2.2.2.2.2.2.1 S.2.2.2.2.2.2.1.2.2.2.2.2.2.2.2.2.1 S.2.2.2.2.2.2.1.2.2.2.2.2.2.2.2.2.2.1 S.2.2.2.2.2.2.1.2.2.2.2.2.2.2.2.2.2.2  = some o ∧ fX8_canal N M.2.1 M.2.2.1 M.2.2.2.1 M.2.2.2.2.1 M.2.2.2.2.2.1 M.2.2.2.2.2.2.1 M.2.2.2.2.2.2.2.2.2.1 M.2.2.2.2.2.2.2.2.2.2.2.2.2.1 M.2.2.2.2.2.2.2.2.2.2.2.2.2.2.1 M.2.2.2.2.2.2.2.2.2.2.2.2.2.2.2.1 M.2.2.2.2.2.2.2.2.2.2.2.2.2.2.2.2.1  = some o' ∧ o.1 = o'.1 ∧ Rel (bsX7_canal S o) (msX8_canal M o')
set_option maxHeartbeats 4000000 in
set_option maxRecDepth 100000 in
theorem lawc_canal {E : Ev} {K : KX} (k : OKX E K cL_law RL 4 room_1) {b L : Nat} {xs : Nat → Int32} (X : LX K b L xs) (N : Nat) {Rel : BV → MMV → Prop} (hsim : Simcanal N Rel) (ad bd : Nat → Nat → Nat) {ce sl : Nat} (hce : ce ≤ room_1.cells ∧ sl ≤ room_1.slots) (S : BV) (M : MMV) (hR : Rel S M) (x3 : Int32) (t : Nat) (hx : x3 = nI t) (ht : t + 6 ≤ L) (hL : L ≤ 384) (next : ∀ S M, Rel S M → G E K 4 ce sl [(0, .ref b), (1, .ref (ad 0 0)), (2, .ref (bd 0 0)), (3, .int x3)] [] (LW E ad bd S M) 1384) : G E K 4 ce sl [(0, .ref b), (1, .ref (ad 0 0)), (2, .ref (bd 0 0)), (3, .int x3)] [] (LW E ad bd S M) 457 := by
  obtain ⟨o, o', ho, ho', hq, hRn⟩ := hsim S M  hR
  refine g_aload_n k 1 dL_law_457 rfl rfl ?_
  refine g_cv k miX7_canal mvX7_canal (ctX7_canal (kL K) E N (ad 0 0) (ad 1 0) (ad 8 0) (ad 14 0) (ad 21 0) (ad 27 0) (ad 36 0) (ad 42 0) (ad 50 0) (ad 2 0) (ad 3 0) (ad 4 0) (ad 5 0) (ad 6 0) (ad 7 0) (ad 9 0) (ad 28 0) (ad 29 0) (ad 30 0) (ad 31 0) (ad 32 0) (ad 33 0) (ad 34 0) (ad 35 0) S.2.2.2.2.1 S.1.1 S.1.2.1 S.1.2.2.1 S.1.2.2.2.1 S.1.2.2.2.2.1 S.1.2.2.2.2.2.1 S.1.2.2.2.2.2.2.1 S.1.2.2.2.2.2.2.2.1 S.1.2.2.2.2.2.2.2.2.1 S.1.2.2.2.2.2.2.2.2.2.1 S.1.2.2.2.2.2.2.2.2.2.2.1 S.1.2.2.2.2.2.2.2.2.2.2.2 S.2.1.1 S.2.1.2.1 S.2.2.2.2.2.1.1 S.2.2.2.2.2.1.2.1 S.2.2.2.2.2.1.2.2.1 S.2.2.2.2.2.1.2.2.2 S.2.2.2.2.2.2.1.1 S.2.2.2.2.2.2.1.2.1 S.2.2.2.2.2.2.1.2.2.1 S.2.2.2.2.2.2.1.2.2.2.1 S.2.2.2.2.2.2.1.2.2.2.2.1 S.2.2.2.2.2.2.1.2.2.2.2.2.1 S.2.2.2.2.2.2.1.2.2.2.2.2.2.1 S.2.2.2.2.2.2.1.2.2.2.2.2.2.2.1 S.2.2.2.2.2.2.1.2.2.2.2.2.2.2.2.1 S.2.2.2.2.2.2.1.2.2.2.2.2.2.2.2.2.1 S.2.2.2.2.2.2.1.2.2.2.2.2.2.2.2.2.2.1 S.2.2.2.2.2.2.1.2.2.2.2.2.2.2.2.2.2.2  o ho) [0, 1, 2, 3, 4, 5, 6, 7, 8, 83, 84, 85, 86, 87, 88, 89, 90, 91] 0 (ws' := LW E ad bd (bsX7_canal S o) M) dL_law_458 lkL_51 rfl ⟨rfl, rfl⟩ hce rfl rfl rfl rfl (Nat.le_of_ble_eq_true rfl) rfl rfl rfl ?_
  refine g_st (st' := [.int o.1]) rfl ?_
  refine g_aload_n k 2 dL_law_461 rfl rfl ?_
  refine g_cv k miX8_canal mvX8_canal (ctX8_canal (kL K) E N (bd 0 0) (bd 1 0) (bd 2 0) (bd 3 0) (bd 4 0) (bd 5 0) (bd 6 0) (bd 7 0) (bd 8 0) (bd 9 0) (bd 10 0) (bd 11 0) (bd 12 0) M.1 M.2.1 M.2.2.1 M.2.2.2.1 M.2.2.2.2.1 M.2.2.2.2.2.1 M.2.2.2.2.2.2.1 M.2.2.2.2.2.2.2.1 M.2.2.2.2.2.2.2.2.1 M.2.2.2.2.2.2.2.2.2.1 M.2.2.2.2.2.2.2.2.2.2.2.2.2.1 M.2.2.2.2.2.2.2.2.2.2.2.2.2.2.1 M.2.2.2.2.2.2.2.2.2.2.2.2.2.2.2.1 M.2.2.2.2.2.2.2.2.2.2.2.2.2.2.2.2.1  o' ho') [135, 136, 140, 141, 142, 143] 0 (ws' := LW E ad bd (bsX7_canal S o) (msX8_canal M o')) dL_law_462 lkL_55 rfl ⟨rfl, rfl⟩ hce rfl rfl rfl rfl (Nat.le_of_ble_eq_true rfl) rfl rfl rfl ?_
  refine g_st (st' := [.int o'.1, .int o.1]) rfl ?_
  exact g_icmp_eq k (tgt := 1384) dL_law_465 (by decide) (fun _ => next _ _ hRn) (fun c => absurd hq c)
/-- X7_count and X8_count keep step -/
def Simcount (N : Nat) (Rel : BV → MMV → Prop) : Prop := ∀ (S : BV) (M : MMV) (y0 : Int32), Rel S M → ∃ o o', fX7_count N S.1.1 S.1.2.1 S.1.2.2.1 S.1.2.2.2.1 S.1.2.2.2.2.2.2.1 S.1.2.2.2.2.2.2.2.1 S.1.2.2.2.2.2.2.2.2.2.1 S.1.2.2.2.2.2.2.2.2.2.2.1 S.2.1.2.1 y0 = some o ∧ fX8_count N M.2.2.2.2.2.2.2.2.2.1 y0 = some o' ∧ o = o' ∧ Rel S M
set_option maxHeartbeats 4000000 in
set_option maxRecDepth 100000 in
theorem lawc_count {E : Ev} {K : KX} (k : OKX E K cL_law RL 4 room_1) {b L : Nat} {xs : Nat → Int32} (X : LX K b L xs) (N : Nat) {Rel : BV → MMV → Prop} (hsim : Simcount N Rel) (ad bd : Nat → Nat → Nat) {ce sl : Nat} (hce : ce ≤ room_1.cells ∧ sl ≤ room_1.slots) (S : BV) (M : MMV) (hR : Rel S M) (x3 : Int32) (t : Nat) (hx : x3 = nI t) (ht : t + 6 ≤ L) (hL : L ≤ 384) (next : ∀ S M, Rel S M → G E K 4 ce sl [(0, .ref b), (1, .ref (ad 0 0)), (2, .ref (bd 0 0)), (3, .int x3)] [] (LW E ad bd S M) 1384) : G E K 4 ce sl [(0, .ref b), (1, .ref (ad 0 0)), (2, .ref (bd 0 0)), (3, .int x3)] [] (LW E ad bd S M) 470 := by
  obtain ⟨o, o', ho, ho', hq, hRn⟩ := hsim S M (xs (t + 1)) hR
  refine g_aload_n k 1 dL_law_470 rfl rfl ?_
  refine g_aload_n k 0 dL_law_471 rfl rfl ?_
  refine g_iload_n k 3 dL_law_472 rfl rfl ?_
  refine g_iconst k dL_law_473 ic_1 ?_
  refine g_iadd k dL_law_474 ?_
  refine g_sld k X dL_law_475 (sc_ix hx ht hL 1 (by decide)).1 (sc_ix hx ht hL 1 (by decide)).2 ?_
  refine g_cv k miX7_count mvX7_count (ctX7_count (kL K) E N (ad 0 0) (ad 1 0) (ad 8 0) (ad 14 0) (ad 21 0) (ad 27 0) (ad 36 0) (ad 42 0) (ad 50 0) (ad 2 0) (ad 3 0) (ad 4 0) (ad 5 0) (ad 6 0) (ad 7 0) (ad 9 0) S.2.2.2.2.1 S.1.1 S.1.2.1 S.1.2.2.1 S.1.2.2.2.1 S.1.2.2.2.2.2.2.1 S.1.2.2.2.2.2.2.2.1 S.1.2.2.2.2.2.2.2.2.1 S.1.2.2.2.2.2.2.2.2.2.1 S.1.2.2.2.2.2.2.2.2.2.2.1 S.2.1.1 S.2.1.2.1 (xs (t + 1)) o ho) [0, 1, 4, 5, 6, 8] 0 (ws' := LW E ad bd S M) dL_law_476 lkL_56 rfl ⟨rfl, rfl⟩ hce rfl rfl rfl rfl (Nat.le_of_ble_eq_true rfl) rfl rfl rfl ?_
  refine g_st (st' := [.int o]) rfl ?_
  refine g_aload_n k 2 dL_law_479 rfl rfl ?_
  refine g_aload_n k 0 dL_law_480 rfl rfl ?_
  refine g_iload_n k 3 dL_law_481 rfl rfl ?_
  refine g_iconst k dL_law_482 ic_1 ?_
  refine g_iadd k dL_law_483 ?_
  refine g_sld k X dL_law_484 (sc_ix hx ht hL 1 (by decide)).1 (sc_ix hx ht hL 1 (by decide)).2 ?_
  refine g_cv k miX8_count mvX8_count (ctX8_count (kL K) E N (bd 0 0) (bd 1 0) (bd 2 0) (bd 3 0) (bd 4 0) (bd 5 0) (bd 6 0) (bd 7 0) (bd 8 0) (bd 9 0) (bd 10 0) (bd 11 0) (bd 12 0) M.1 M.2.1 M.2.2.1 M.2.2.2.1 M.2.2.2.2.1 M.2.2.2.2.2.1 M.2.2.2.2.2.2.1 M.2.2.2.2.2.2.2.1 M.2.2.2.2.2.2.2.2.1 M.2.2.2.2.2.2.2.2.2.1 (xs (t + 1)) o' ho') [135, 136] 0 (ws' := LW E ad bd S M) dL_law_485 lkL_59 rfl ⟨rfl, rfl⟩ hce rfl rfl rfl rfl (Nat.le_of_ble_eq_true rfl) rfl rfl rfl ?_
  refine g_st (st' := [.int o', .int o]) rfl ?_
  exact g_icmp_eq k (tgt := 1384) dL_law_488 (by decide) (fun _ => next _ _ hRn) (fun c => absurd hq c)
def bsX7_say (S : BV) (o : Int32 × Int32 × Int32 × (Nat → Int32) × (Nat → Int32) × Int32 × Int32 × (Nat → Int32) × (Nat → Int32) × (Nat → Int32) × (Nat → Nat → Int32) × (Nat → Nat → Int32) × (Nat → Nat → Int32)) : BV := ((S.1.1, S.1.2.1, S.1.2.2.1, S.1.2.2.2.1, S.1.2.2.2.2.1, S.1.2.2.2.2.2.1, o.2.1, o.2.2.1, S.1.2.2.2.2.2.2.2.2.1, o.2.2.2.1, o.2.2.2.2.1, S.1.2.2.2.2.2.2.2.2.2.2.2), (o.2.2.2.2.2.1, o.2.2.2.2.2.2.1, o.2.2.2.2.2.2.2.1, o.2.2.2.2.2.2.2.2.1, o.2.2.2.2.2.2.2.2.2.1, o.2.2.2.2.2.2.2.2.2.2.1, o.2.2.2.2.2.2.2.2.2.2.2.1, o.2.2.2.2.2.2.2.2.2.2.2.2), S.2.2.1, S.2.2.2.1, S.2.2.2.2.1, S.2.2.2.2.2.1, S.2.2.2.2.2.2.1, S.2.2.2.2.2.2.2.1, S.2.2.2.2.2.2.2.2.1, S.2.2.2.2.2.2.2.2.2)
def msX8_say (M : MMV) (o : Int32 × (Nat → Int32)) : MMV := (M.1, M.2.1, M.2.2.1, M.2.2.2.1, M.2.2.2.2.1, M.2.2.2.2.2.1, M.2.2.2.2.2.2.1, M.2.2.2.2.2.2.2.1, M.2.2.2.2.2.2.2.2.1, o.2, M.2.2.2.2.2.2.2.2.2.2.1, M.2.2.2.2.2.2.2.2.2.2.2.1, M.2.2.2.2.2.2.2.2.2.2.2.2.1, M.2.2.2.2.2.2.2.2.2.2.2.2.2.1, M.2.2.2.2.2.2.2.2.2.2.2.2.2.2.1, M.2.2.2.2.2.2.2.2.2.2.2.2.2.2.2.1, M.2.2.2.2.2.2.2.2.2.2.2.2.2.2.2.2.1, M.2.2.2.2.2.2.2.2.2.2.2.2.2.2.2.2.2.1, M.2.2.2.2.2.2.2.2.2.2.2.2.2.2.2.2.2.2.1, M.2.2.2.2.2.2.2.2.2.2.2.2.2.2.2.2.2.2.2.1, M.2.2.2.2.2.2.2.2.2.2.2.2.2.2.2.2.2.2.2.2)
/-- X7_say and X8_say keep step -/
def Simsay (N : Nat) (Rel : BV → MMV → Prop) : Prop := ∀ (S : BV) (M : MMV) (y0 : Int32), Rel S M → ∃ o o', fX7_say N S.1.1 S.1.2.1 S.1.2.2.1 S.1.2.2.2.1 S.1.2.2.2.2.1 S.1.2.2.2.2.2.1 S.1.2.2.2.2.2.2.1 S.1.2.2.2.2.2.2.2.1 S.1.2.2.2.2.2.2.2.2.1 S.1.2.2.2.2.2.2.2.2.2.1 S.1.2.2.2.2.2.2.2.2.2.2.1 S.1.2.2.2.2.2.2.2.2.2.2.2 S.2.1.1 S.2.1.2.1 S.2.1.2.2.1 S.2.1.2.2.2.1 S.2.1.2.2.2.2.1 S.2.1.2.2.2.2.2.1 S.2.1.2.2.2.2.2.2.1 S.2.1.2.2.2.2.2.2.2 y0 = some o ∧ fX8_say N M.2.2.2.2.2.2.2.2.2.1 y0 = some o' ∧ o.1 = o'.1 ∧ Rel (bsX7_say S o) (msX8_say M o')
set_option maxHeartbeats 4000000 in
set_option maxRecDepth 100000 in
theorem lawc_say {E : Ev} {K : KX} (k : OKX E K cL_law RL 4 room_1) {b L : Nat} {xs : Nat → Int32} (X : LX K b L xs) (N : Nat) {Rel : BV → MMV → Prop} (hsim : Simsay N Rel) (ad bd : Nat → Nat → Nat) {ce sl : Nat} (hce : ce ≤ room_1.cells ∧ sl ≤ room_1.slots) (S : BV) (M : MMV) (hR : Rel S M) (x3 : Int32) (t : Nat) (hx : x3 = nI t) (ht : t + 6 ≤ L) (hL : L ≤ 384) (next : ∀ S M, Rel S M → G E K 4 ce sl [(0, .ref b), (1, .ref (ad 0 0)), (2, .ref (bd 0 0)), (3, .int x3)] [] (LW E ad bd S M) 1384) : G E K 4 ce sl [(0, .ref b), (1, .ref (ad 0 0)), (2, .ref (bd 0 0)), (3, .int x3)] [] (LW E ad bd S M) 493 := by
  obtain ⟨o, o', ho, ho', hq, hRn⟩ := hsim S M (xs (t + 1)) hR
  refine g_aload_n k 1 dL_law_493 rfl rfl ?_
  refine g_aload_n k 0 dL_law_494 rfl rfl ?_
  refine g_iload_n k 3 dL_law_495 rfl rfl ?_
  refine g_iconst k dL_law_496 ic_1 ?_
  refine g_iadd k dL_law_497 ?_
  refine g_sld k X dL_law_498 (sc_ix hx ht hL 1 (by decide)).1 (sc_ix hx ht hL 1 (by decide)).2 ?_
  refine g_cv k miX7_say mvX7_say (ctX7_say (kL K) E N (ad 0 0) (ad 1 0) (ad 8 0) (ad 14 0) (ad 21 0) (ad 27 0) (ad 36 0) (ad 42 0) (ad 50 0) (ad 2 0) (ad 3 0) (ad 4 0) (ad 5 0) (ad 6 0) (ad 7 0) (ad 9 0) (ad 10) (ad 11) (ad 12) (ad 13) S.2.2.2.2.1 S.1.1 S.1.2.1 S.1.2.2.1 S.1.2.2.2.1 S.1.2.2.2.2.1 S.1.2.2.2.2.2.1 S.1.2.2.2.2.2.2.1 S.1.2.2.2.2.2.2.2.1 S.1.2.2.2.2.2.2.2.2.1 S.1.2.2.2.2.2.2.2.2.2.1 S.1.2.2.2.2.2.2.2.2.2.2.1 S.1.2.2.2.2.2.2.2.2.2.2.2 S.2.1.1 S.2.1.2.1 S.2.1.2.2.1 S.2.1.2.2.2.1 S.2.1.2.2.2.2.1 S.2.1.2.2.2.2.2.1 S.2.1.2.2.2.2.2.2.1 S.2.1.2.2.2.2.2.2.2 (xs (t + 1)) o ho) [0, 1, 2, 3, 4, 5, 6, 7, 8, 9, 10, 11, 12, 13, 14, 15, 16, 17, 18, 19, 20, 21, 22, 23, 24, 25, 26, 27, 28, 29, 30, 31, 32, 33, 34, 35, 36, 37, 38, 39, 40, 41] 0 (ws' := LW E ad bd (bsX7_say S o) M) dL_law_499 lkL_60 rfl ⟨rfl, rfl⟩ hce rfl rfl rfl rfl (Nat.le_of_ble_eq_true rfl) rfl rfl rfl ?_
  refine g_st (st' := [.int o.1]) rfl ?_
  refine g_aload_n k 2 dL_law_502 rfl rfl ?_
  refine g_aload_n k 0 dL_law_503 rfl rfl ?_
  refine g_iload_n k 3 dL_law_504 rfl rfl ?_
  refine g_iconst k dL_law_505 ic_1 ?_
  refine g_iadd k dL_law_506 ?_
  refine g_sld k X dL_law_507 (sc_ix hx ht hL 1 (by decide)).1 (sc_ix hx ht hL 1 (by decide)).2 ?_
  refine g_cv k miX8_say mvX8_say (ctX8_say (kL K) E N (bd 0 0) (bd 1 0) (bd 2 0) (bd 3 0) (bd 4 0) (bd 5 0) (bd 6 0) (bd 7 0) (bd 8 0) (bd 9 0) (bd 10 0) (bd 11 0) (bd 12 0) M.1 M.2.1 M.2.2.1 M.2.2.2.1 M.2.2.2.2.1 M.2.2.2.2.2.1 M.2.2.2.2.2.2.1 M.2.2.2.2.2.2.2.1 M.2.2.2.2.2.2.2.2.1 M.2.2.2.2.2.2.2.2.2.1 (xs (t + 1)) o' ho') [135, 136] 0 (ws' := LW E ad bd (bsX7_say S o) (msX8_say M o')) dL_law_508 lkL_63 rfl ⟨rfl, rfl⟩ hce rfl rfl rfl rfl (Nat.le_of_ble_eq_true rfl) rfl rfl rfl ?_
  refine g_st (st' := [.int o'.1, .int o.1]) rfl ?_
  exact g_icmp_eq k (tgt := 1384) dL_law_511 (by decide) (fun _ => next _ _ hRn) (fun c => absurd hq c)
def bsX7_thaw (S : BV) (o : Int32 × (Nat → Int32) × Int32 × Int32 × (Nat → Int32) × (Nat → Int32) × (Nat → Int32) × (Nat → Nat → Int32) × (Nat → Nat → Int32) × (Nat → Nat → Int32)) : BV := ((S.1.1, S.1.2.1, S.1.2.2.1, S.1.2.2.2.1, S.1.2.2.2.2.1, S.1.2.2.2.2.2.1, S.1.2.2.2.2.2.2.1, S.1.2.2.2.2.2.2.2.1, S.1.2.2.2.2.2.2.2.2.1, o.2.1, S.1.2.2.2.2.2.2.2.2.2.2.1, S.1.2.2.2.2.2.2.2.2.2.2.2), (o.2.2.1, o.2.2.2.1, o.2.2.2.2.1, o.2.2.2.2.2.1, o.2.2.2.2.2.2.1, o.2.2.2.2.2.2.2.1, o.2.2.2.2.2.2.2.2.1, o.2.2.2.2.2.2.2.2.2), S.2.2.1, S.2.2.2.1, S.2.2.2.2.1, S.2.2.2.2.2.1, S.2.2.2.2.2.2.1, S.2.2.2.2.2.2.2.1, S.2.2.2.2.2.2.2.2.1, S.2.2.2.2.2.2.2.2.2)
def msX8_thaw (M : MMV) (o : Int32 × (Nat → Int32)) : MMV := (M.1, M.2.1, M.2.2.1, M.2.2.2.1, M.2.2.2.2.1, M.2.2.2.2.2.1, M.2.2.2.2.2.2.1, M.2.2.2.2.2.2.2.1, M.2.2.2.2.2.2.2.2.1, o.2, M.2.2.2.2.2.2.2.2.2.2.1, M.2.2.2.2.2.2.2.2.2.2.2.1, M.2.2.2.2.2.2.2.2.2.2.2.2.1, M.2.2.2.2.2.2.2.2.2.2.2.2.2.1, M.2.2.2.2.2.2.2.2.2.2.2.2.2.2.1, M.2.2.2.2.2.2.2.2.2.2.2.2.2.2.2.1, M.2.2.2.2.2.2.2.2.2.2.2.2.2.2.2.2.1, M.2.2.2.2.2.2.2.2.2.2.2.2.2.2.2.2.2.1, M.2.2.2.2.2.2.2.2.2.2.2.2.2.2.2.2.2.2.1, M.2.2.2.2.2.2.2.2.2.2.2.2.2.2.2.2.2.2.2.1, M.2.2.2.2.2.2.2.2.2.2.2.2.2.2.2.2.2.2.2.2)
/-- X7_thaw and X8_thaw keep step -/
def Simthaw (N : Nat) (Rel : BV → MMV → Prop) : Prop := ∀ (S : BV) (M : MMV) (y0 : Int32) (y1 : Int32), Rel S M → ∃ o o', fX7_thaw N S.1.1 S.1.2.2.2.2.2.2.1 S.1.2.2.2.2.2.2.2.1 S.1.2.2.2.2.2.2.2.2.1 S.1.2.2.2.2.2.2.2.2.2.1 S.1.2.2.2.2.2.2.2.2.2.2.1 S.1.2.2.2.2.2.2.2.2.2.2.2 S.2.1.1 S.2.1.2.1 S.2.1.2.2.1 S.2.1.2.2.2.1 S.2.1.2.2.2.2.1 S.2.1.2.2.2.2.2.1 S.2.1.2.2.2.2.2.2.1 S.2.1.2.2.2.2.2.2.2 y0 y1 = some o ∧ fX8_thaw N M.2.2.2.2.2.2.2.2.2.1 y0 y1 = some o' ∧ o.1 = o'.1 ∧ Rel (bsX7_thaw S o) (msX8_thaw M o')
set_option maxHeartbeats 4000000 in
set_option maxRecDepth 100000 in
theorem lawc_thaw {E : Ev} {K : KX} (k : OKX E K cL_law RL 4 room_1) {b L : Nat} {xs : Nat → Int32} (X : LX K b L xs) (N : Nat) {Rel : BV → MMV → Prop} (hsim : Simthaw N Rel) (ad bd : Nat → Nat → Nat) {ce sl : Nat} (hce : ce ≤ room_1.cells ∧ sl ≤ room_1.slots) (S : BV) (M : MMV) (hR : Rel S M) (x3 : Int32) (t : Nat) (hx : x3 = nI t) (ht : t + 6 ≤ L) (hL : L ≤ 384) (next : ∀ S M, Rel S M → G E K 4 ce sl [(0, .ref b), (1, .ref (ad 0 0)), (2, .ref (bd 0 0)), (3, .int x3)] [] (LW E ad bd S M) 1384) : G E K 4 ce sl [(0, .ref b), (1, .ref (ad 0 0)), (2, .ref (bd 0 0)), (3, .int x3)] [] (LW E ad bd S M) 516 := by
  obtain ⟨o, o', ho, ho', hq, hRn⟩ := hsim S M (xs (t + 1)) (xs (t + 2)) hR
  refine g_aload_n k 1 dL_law_516 rfl rfl ?_
  refine g_aload_n k 0 dL_law_517 rfl rfl ?_
  refine g_iload_n k 3 dL_law_518 rfl rfl ?_
  refine g_iconst k dL_law_519 ic_1 ?_
  refine g_iadd k dL_law_520 ?_
  refine g_sld k X dL_law_521 (sc_ix hx ht hL 1 (by decide)).1 (sc_ix hx ht hL 1 (by decide)).2 ?_
  refine g_aload_n k 0 dL_law_522 rfl rfl ?_
  refine g_iload_n k 3 dL_law_523 rfl rfl ?_
  refine g_iconst k dL_law_524 ic_2 ?_
  refine g_iadd k dL_law_525 ?_
  refine g_sld k X dL_law_526 (sc_ix hx ht hL 2 (by decide)).1 (sc_ix hx ht hL 2 (by decide)).2 ?_
  refine g_cv k miX7_thaw mvX7_thaw (ctX7_thaw (kL K) E N (ad 0 0) (ad 1 0) (ad 8 0) (ad 14 0) (ad 21 0) (ad 27 0) (ad 36 0) (ad 42 0) (ad 50 0) (ad 2 0) (ad 3 0) (ad 4 0) (ad 5 0) (ad 6 0) (ad 7 0) (ad 9 0) (ad 10) (ad 11) (ad 12) (ad 13) S.2.2.2.2.1 S.1.1 S.1.2.1 S.1.2.2.1 S.1.2.2.2.1 S.1.2.2.2.2.2.2.1 S.1.2.2.2.2.2.2.2.1 S.1.2.2.2.2.2.2.2.2.1 S.1.2.2.2.2.2.2.2.2.2.1 S.1.2.2.2.2.2.2.2.2.2.2.1 S.1.2.2.2.2.2.2.2.2.2.2.2 S.2.1.1 S.2.1.2.1 S.2.1.2.2.1 S.2.1.2.2.2.1 S.2.1.2.2.2.2.1 S.2.1.2.2.2.2.2.1 S.2.1.2.2.2.2.2.2.1 S.2.1.2.2.2.2.2.2.2 (xs (t + 1)) (xs (t + 2)) o ho) [0, 1, 4, 5, 6, 7, 8, 9, 10, 11, 12, 13, 14, 15, 16, 17, 18, 19, 20, 21, 22, 23, 24, 25, 26, 27, 28, 29, 30, 31, 32, 33, 34, 35, 36, 37, 38, 39, 40, 41] 0 (ws' := LW E ad bd (bsX7_thaw S o) M) dL_law_527 lkL_64 rfl ⟨rfl, rfl⟩ hce rfl rfl rfl rfl (Nat.le_of_ble_eq_true rfl) rfl rfl rfl ?_
  refine g_st (st' := [.int o.1]) rfl ?_
  refine g_aload_n k 2 dL_law_530 rfl rfl ?_
  refine g_aload_n k 0 dL_law_531 rfl rfl ?_
  refine g_iload_n k 3 dL_law_532 rfl rfl ?_
  refine g_iconst k dL_law_533 ic_1 ?_
  refine g_iadd k dL_law_534 ?_
  refine g_sld k X dL_law_535 (sc_ix hx ht hL 1 (by decide)).1 (sc_ix hx ht hL 1 (by decide)).2 ?_
  refine g_aload_n k 0 dL_law_536 rfl rfl ?_
  refine g_iload_n k 3 dL_law_537 rfl rfl ?_
  refine g_iconst k dL_law_538 ic_2 ?_
  refine g_iadd k dL_law_539 ?_
  refine g_sld k X dL_law_540 (sc_ix hx ht hL 2 (by decide)).1 (sc_ix hx ht hL 2 (by decide)).2 ?_
  refine g_cv k miX8_thaw mvX8_thaw (ctX8_thaw (kL K) E N (bd 0 0) (bd 1 0) (bd 2 0) (bd 3 0) (bd 4 0) (bd 5 0) (bd 6 0) (bd 7 0) (bd 8 0) (bd 9 0) (bd 10 0) (bd 11 0) (bd 12 0) M.1 M.2.1 M.2.2.1 M.2.2.2.1 M.2.2.2.2.1 M.2.2.2.2.2.1 M.2.2.2.2.2.2.1 M.2.2.2.2.2.2.2.1 M.2.2.2.2.2.2.2.2.1 M.2.2.2.2.2.2.2.2.2.1 (xs (t + 1)) (xs (t + 2)) o' ho') [135, 136] 0 (ws' := LW E ad bd (bsX7_thaw S o) (msX8_thaw M o')) dL_law_541 lkL_67 rfl ⟨rfl, rfl⟩ hce rfl rfl rfl rfl (Nat.le_of_ble_eq_true rfl) rfl rfl rfl ?_
  refine g_st (st' := [.int o'.1, .int o.1]) rfl ?_
  exact g_icmp_eq k (tgt := 1384) dL_law_544 (by decide) (fun _ => next _ _ hRn) (fun c => absurd hq c)
def bsX7_mind (S : BV) (o : Int32 × (Nat → Int32) × Int32 × Int32 × (Nat → Int32) × (Nat → Int32) × (Nat → Int32) × (Nat → Nat → Int32) × (Nat → Nat → Int32) × (Nat → Nat → Int32)) : BV := ((S.1.1, S.1.2.1, S.1.2.2.1, S.1.2.2.2.1, S.1.2.2.2.2.1, S.1.2.2.2.2.2.1, S.1.2.2.2.2.2.2.1, S.1.2.2.2.2.2.2.2.1, S.1.2.2.2.2.2.2.2.2.1, S.1.2.2.2.2.2.2.2.2.2.1, S.1.2.2.2.2.2.2.2.2.2.2.1, o.2.1), (o.2.2.1, o.2.2.2.1, o.2.2.2.2.1, o.2.2.2.2.2.1, o.2.2.2.2.2.2.1, o.2.2.2.2.2.2.2.1, o.2.2.2.2.2.2.2.2.1, o.2.2.2.2.2.2.2.2.2), S.2.2.1, S.2.2.2.1, S.2.2.2.2.1, S.2.2.2.2.2.1, S.2.2.2.2.2.2.1, S.2.2.2.2.2.2.2.1, S.2.2.2.2.2.2.2.2.1, S.2.2.2.2.2.2.2.2.2)
def msX8_mind (M : MMV) (o : Int32 × (Nat → Int32)) : MMV := (M.1, M.2.1, M.2.2.1, M.2.2.2.1, M.2.2.2.2.1, M.2.2.2.2.2.1, M.2.2.2.2.2.2.1, M.2.2.2.2.2.2.2.1, M.2.2.2.2.2.2.2.2.1, o.2, M.2.2.2.2.2.2.2.2.2.2.1, M.2.2.2.2.2.2.2.2.2.2.2.1, M.2.2.2.2.2.2.2.2.2.2.2.2.1, M.2.2.2.2.2.2.2.2.2.2.2.2.2.1, M.2.2.2.2.2.2.2.2.2.2.2.2.2.2.1, M.2.2.2.2.2.2.2.2.2.2.2.2.2.2.2.1, M.2.2.2.2.2.2.2.2.2.2.2.2.2.2.2.2.1, M.2.2.2.2.2.2.2.2.2.2.2.2.2.2.2.2.2.1, M.2.2.2.2.2.2.2.2.2.2.2.2.2.2.2.2.2.2.1, M.2.2.2.2.2.2.2.2.2.2.2.2.2.2.2.2.2.2.2.1, M.2.2.2.2.2.2.2.2.2.2.2.2.2.2.2.2.2.2.2.2)
/-- X7_mind and X8_mind keep step -/
def Simmind (N : Nat) (Rel : BV → MMV → Prop) : Prop := ∀ (S : BV) (M : MMV) (y0 : Int32) (y1 : Int32), Rel S M → ∃ o o', fX7_mind N S.1.2.1 S.1.2.2.1 S.1.2.2.2.2.2.2.1 S.1.2.2.2.2.2.2.2.1 S.1.2.2.2.2.2.2.2.2.1 S.1.2.2.2.2.2.2.2.2.2.1 S.1.2.2.2.2.2.2.2.2.2.2.1 S.1.2.2.2.2.2.2.2.2.2.2.2 S.2.1.1 S.2.1.2.1 S.2.1.2.2.1 S.2.1.2.2.2.1 S.2.1.2.2.2.2.1 S.2.1.2.2.2.2.2.1 S.2.1.2.2.2.2.2.2.1 S.2.1.2.2.2.2.2.2.2 y0 y1 = some o ∧ fX8_mind N M.2.2.2.2.2.2.2.2.2.1 y0 y1 = some o' ∧ o.1 = o'.1 ∧ Rel (bsX7_mind S o) (msX8_mind M o')
set_option maxHeartbeats 4000000 in
set_option maxRecDepth 100000 in
theorem lawc_mind {E : Ev} {K : KX} (k : OKX E K cL_law RL 4 room_1) {b L : Nat} {xs : Nat → Int32} (X : LX K b L xs) (N : Nat) {Rel : BV → MMV → Prop} (hsim : Simmind N Rel) (ad bd : Nat → Nat → Nat) {ce sl : Nat} (hce : ce ≤ room_1.cells ∧ sl ≤ room_1.slots) (S : BV) (M : MMV) (hR : Rel S M) (x3 : Int32) (t : Nat) (hx : x3 = nI t) (ht : t + 6 ≤ L) (hL : L ≤ 384) (next : ∀ S M, Rel S M → G E K 4 ce sl [(0, .ref b), (1, .ref (ad 0 0)), (2, .ref (bd 0 0)), (3, .int x3)] [] (LW E ad bd S M) 1384) : G E K 4 ce sl [(0, .ref b), (1, .ref (ad 0 0)), (2, .ref (bd 0 0)), (3, .int x3)] [] (LW E ad bd S M) 549 := by
  obtain ⟨o, o', ho, ho', hq, hRn⟩ := hsim S M (xs (t + 1)) (xs (t + 2)) hR
  refine g_aload_n k 1 dL_law_549 rfl rfl ?_
  refine g_aload_n k 0 dL_law_550 rfl rfl ?_
  refine g_iload_n k 3 dL_law_551 rfl rfl ?_
  refine g_iconst k dL_law_552 ic_1 ?_
  refine g_iadd k dL_law_553 ?_
  refine g_sld k X dL_law_554 (sc_ix hx ht hL 1 (by decide)).1 (sc_ix hx ht hL 1 (by decide)).2 ?_
  refine g_aload_n k 0 dL_law_555 rfl rfl ?_
  refine g_iload_n k 3 dL_law_556 rfl rfl ?_
  refine g_iconst k dL_law_557 ic_2 ?_
  refine g_iadd k dL_law_558 ?_
  refine g_sld k X dL_law_559 (sc_ix hx ht hL 2 (by decide)).1 (sc_ix hx ht hL 2 (by decide)).2 ?_
  refine g_cv k miX7_mind mvX7_mind (ctX7_mind (kL K) E N (ad 0 0) (ad 1 0) (ad 8 0) (ad 14 0) (ad 21 0) (ad 27 0) (ad 36 0) (ad 42 0) (ad 50 0) (ad 2 0) (ad 3 0) (ad 4 0) (ad 5 0) (ad 6 0) (ad 7 0) (ad 9 0) (ad 10) (ad 11) (ad 12) (ad 13) S.2.2.2.2.1 S.1.1 S.1.2.1 S.1.2.2.1 S.1.2.2.2.1 S.1.2.2.2.2.2.2.1 S.1.2.2.2.2.2.2.2.1 S.1.2.2.2.2.2.2.2.2.1 S.1.2.2.2.2.2.2.2.2.2.1 S.1.2.2.2.2.2.2.2.2.2.2.1 S.1.2.2.2.2.2.2.2.2.2.2.2 S.2.1.1 S.2.1.2.1 S.2.1.2.2.1 S.2.1.2.2.2.1 S.2.1.2.2.2.2.1 S.2.1.2.2.2.2.2.1 S.2.1.2.2.2.2.2.2.1 S.2.1.2.2.2.2.2.2.2 (xs (t + 1)) (xs (t + 2)) o ho) [0, 1, 4, 5, 6, 7, 8, 9, 10, 11, 12, 13, 14, 15, 16, 17, 18, 19, 20, 21, 22, 23, 24, 25, 26, 27, 28, 29, 30, 31, 32, 33, 34, 35, 36, 37, 38, 39, 40, 41] 0 (ws' := LW E ad bd (bsX7_mind S o) M) dL_law_560 lkL_68 rfl ⟨rfl, rfl⟩ hce rfl rfl rfl rfl (Nat.le_of_ble_eq_true rfl) rfl rfl rfl ?_
  refine g_st (st' := [.int o.1]) rfl ?_
  refine g_aload_n k 2 dL_law_563 rfl rfl ?_
  refine g_aload_n k 0 dL_law_564 rfl rfl ?_
  refine g_iload_n k 3 dL_law_565 rfl rfl ?_
  refine g_iconst k dL_law_566 ic_1 ?_
  refine g_iadd k dL_law_567 ?_
  refine g_sld k X dL_law_568 (sc_ix hx ht hL 1 (by decide)).1 (sc_ix hx ht hL 1 (by decide)).2 ?_
  refine g_aload_n k 0 dL_law_569 rfl rfl ?_
  refine g_iload_n k 3 dL_law_570 rfl rfl ?_
  refine g_iconst k dL_law_571 ic_2 ?_
  refine g_iadd k dL_law_572 ?_
  refine g_sld k X dL_law_573 (sc_ix hx ht hL 2 (by decide)).1 (sc_ix hx ht hL 2 (by decide)).2 ?_
  refine g_cv k miX8_mind mvX8_mind (ctX8_mind (kL K) E N (bd 0 0) (bd 1 0) (bd 2 0) (bd 3 0) (bd 4 0) (bd 5 0) (bd 6 0) (bd 7 0) (bd 8 0) (bd 9 0) (bd 10 0) (bd 11 0) (bd 12 0) M.1 M.2.1 M.2.2.1 M.2.2.2.1 M.2.2.2.2.1 M.2.2.2.2.2.1 M.2.2.2.2.2.2.1 M.2.2.2.2.2.2.2.1 M.2.2.2.2.2.2.2.2.1 M.2.2.2.2.2.2.2.2.2.1 (xs (t + 1)) (xs (t + 2)) o' ho') [135, 136] 0 (ws' := LW E ad bd (bsX7_mind S o) (msX8_mind M o')) dL_law_574 lkL_71 rfl ⟨rfl, rfl⟩ hce rfl rfl rfl rfl (Nat.le_of_ble_eq_true rfl) rfl rfl rfl ?_
  refine g_st (st' := [.int o'.1, .int o.1]) rfl ?_
  exact g_icmp_eq k (tgt := 1384) dL_law_577 (by decide) (fun _ => next _ _ hRn) (fun c => absurd hq c)
def bsX7_drift (S : BV) (o : Int32 × Int32 × Int32 × Int32 × (Nat → Int32) × (Nat → Int32) × Int32 × Int32 × (Nat → Int32) × (Nat → Int32) × (Nat → Int32) × (Nat → Nat → Int32) × (Nat → Nat → Int32) × (Nat → Nat → Int32)) : BV := ((S.1.1, S.1.2.1, S.1.2.2.1, S.1.2.2.2.1, S.1.2.2.2.2.1, S.1.2.2.2.2.2.1, o.2.1, o.2.2.1, o.2.2.2.1, o.2.2.2.2.1, o.2.2.2.2.2.1, S.1.2.2.2.2.2.2.2.2.2.2.2), (o.2.2.2.2.2.2.1, o.2.2.2.2.2.2.2.1, o.2.2.2.2.2.2.2.2.1, o.2.2.2.2.2.2.2.2.2.1, o.2.2.2.2.2.2.2.2.2.2.1, o.2.2.2.2.2.2.2.2.2.2.2.1, o.2.2.2.2.2.2.2.2.2.2.2.2.1, o.2.2.2.2.2.2.2.2.2.2.2.2.2), S.2.2.1, S.2.2.2.1, S.2.2.2.2.1, S.2.2.2.2.2.1, S.2.2.2.2.2.2.1, S.2.2.2.2.2.2.2.1, S.2.2.2.2.2.2.2.2.1, S.2.2.2.2.2.2.2.2.2)
def msX8_drift (M : MMV) (o : Int32 × (Nat → Int32)) : MMV := (M.1, M.2.1, M.2.2.1, M.2.2.2.1, M.2.2.2.2.1, M.2.2.2.2.2.1, M.2.2.2.2.2.2.1, M.2.2.2.2.2.2.2.1, M.2.2.2.2.2.2.2.2.1, o.2, M.2.2.2.2.2.2.2.2.2.2.1, M.2.2.2.2.2.2.2.2.2.2.2.1, M.2.2.2.2.2.2.2.2.2.2.2.2.1, M.2.2.2.2.2.2.2.2.2.2.2.2.2.1, M.2.2.2.2.2.2.2.2.2.2.2.2.2.2.1, M.2.2.2.2.2.2.2.2.2.2.2.2.2.2.2.1, M.2.2.2.2.2.2.2.2.2.2.2.2.2.2.2.2.1, M.2.2.2.2.2.2.2.2.2.2.2.2.2.2.2.2.2.1, M.2.2.2.2.2.2.2.2.2.2.2.2.2.2.2.2.2.2.1, M.2.2.2.2.2.2.2.2.2.2.2.2.2.2.2.2.2.2.2.1, M.2.2.2.2.2.2.2.2.2.2.2.2.2.2.2.2.2.2.2.2)
/-- X7_drift and X8_drift keep step -/
def Simdrift (N : Nat) (Rel : BV → MMV → Prop) : Prop := ∀ (S : BV) (M : MMV) (y0 : Int32), Rel S M → ∃ o o', fX7_drift N S.1.1 S.1.2.1 S.1.2.2.1 S.1.2.2.2.1 S.1.2.2.2.2.1 S.1.2.2.2.2.2.1 S.1.2.2.2.2.2.2.1 S.1.2.2.2.2.2.2.2.1 S.1.2.2.2.2.2.2.2.2.1 S.1.2.2.2.2.2.2.2.2.2.1 S.1.2.2.2.2.2.2.2.2.2.2.1 S.1.2.2.2.2.2.2.2.2.2.2.2 S.2.1.1 S.2.1.2.1 S.2.1.2.2.1 S.2.1.2.2.2.1 S.2.1.2.2.2.2.1 S.2.1.2.2.2.2.2.1 S.2.1.2.2.2.2.2.2.1 S.2.1.2.2.2.2.2.2.2 y0 = some o ∧ fX8_drift N M.2.2.2.2.2.2.2.2.2.1 y0 = some o' ∧ o.1 = o'.1 ∧ Rel (bsX7_drift S o) (msX8_drift M o')
set_option maxHeartbeats 4000000 in
set_option maxRecDepth 100000 in
theorem lawc_drift {E : Ev} {K : KX} (k : OKX E K cL_law RL 4 room_1) {b L : Nat} {xs : Nat → Int32} (X : LX K b L xs) (N : Nat) {Rel : BV → MMV → Prop} (hsim : Simdrift N Rel) (ad bd : Nat → Nat → Nat) {ce sl : Nat} (hce : ce ≤ room_1.cells ∧ sl ≤ room_1.slots) (S : BV) (M : MMV) (hR : Rel S M) (x3 : Int32) (t : Nat) (hx : x3 = nI t) (ht : t + 6 ≤ L) (hL : L ≤ 384) (next : ∀ S M, Rel S M → G E K 4 ce sl [(0, .ref b), (1, .ref (ad 0 0)), (2, .ref (bd 0 0)), (3, .int x3)] [] (LW E ad bd S M) 1384) : G E K 4 ce sl [(0, .ref b), (1, .ref (ad 0 0)), (2, .ref (bd 0 0)), (3, .int x3)] [] (LW E ad bd S M) 582 := by
  obtain ⟨o, o', ho, ho', hq, hRn⟩ := hsim S M (xs (t + 1)) hR
  refine g_aload_n k 1 dL_law_582 rfl rfl ?_
  refine g_aload_n k 0 dL_law_583 rfl rfl ?_
  refine g_iload_n k 3 dL_law_584 rfl rfl ?_
  refine g_iconst k dL_law_585 ic_1 ?_
  refine g_iadd k dL_law_586 ?_
  refine g_sld k X dL_law_587 (sc_ix hx ht hL 1 (by decide)).1 (sc_ix hx ht hL 1 (by decide)).2 ?_
  refine g_cv k miX7_drift mvX7_drift (ctX7_drift (kL K) E N (ad 0 0) (ad 1 0) (ad 8 0) (ad 14 0) (ad 21 0) (ad 27 0) (ad 36 0) (ad 42 0) (ad 50 0) (ad 2 0) (ad 3 0) (ad 4 0) (ad 5 0) (ad 6 0) (ad 7 0) (ad 9 0) (ad 10) (ad 11) (ad 12) (ad 13) S.2.2.2.2.1 S.1.1 S.1.2.1 S.1.2.2.1 S.1.2.2.2.1 S.1.2.2.2.2.1 S.1.2.2.2.2.2.1 S.1.2.2.2.2.2.2.1 S.1.2.2.2.2.2.2.2.1 S.1.2.2.2.2.2.2.2.2.1 S.1.2.2.2.2.2.2.2.2.2.1 S.1.2.2.2.2.2.2.2.2.2.2.1 S.1.2.2.2.2.2.2.2.2.2.2.2 S.2.1.1 S.2.1.2.1 S.2.1.2.2.1 S.2.1.2.2.2.1 S.2.1.2.2.2.2.1 S.2.1.2.2.2.2.2.1 S.2.1.2.2.2.2.2.2.1 S.2.1.2.2.2.2.2.2.2 (xs (t + 1)) o ho) [0, 1, 2, 3, 4, 5, 6, 7, 8, 9, 10, 11, 12, 13, 14, 15, 16, 17, 18, 19, 20, 21, 22, 23, 24, 25, 26, 27, 28, 29, 30, 31, 32, 33, 34, 35, 36, 37, 38, 39, 40, 41] 0 (ws' := LW E ad bd (bsX7_drift S o) M) dL_law_588 lkL_72 rfl ⟨rfl, rfl⟩ hce rfl rfl rfl rfl (Nat.le_of_ble_eq_true rfl) rfl rfl rfl ?_
  refine g_st (st' := [.int o.1]) rfl ?_
  refine g_aload_n k 2 dL_law_591 rfl rfl ?_
  refine g_aload_n k 0 dL_law_592 rfl rfl ?_
  refine g_iload_n k 3 dL_law_593 rfl rfl ?_
  refine g_iconst k dL_law_594 ic_1 ?_
  refine g_iadd k dL_law_595 ?_
  refine g_sld k X dL_law_596 (sc_ix hx ht hL 1 (by decide)).1 (sc_ix hx ht hL 1 (by decide)).2 ?_
  refine g_cv k miX8_drift mvX8_drift (ctX8_drift (kL K) E N (bd 0 0) (bd 1 0) (bd 2 0) (bd 3 0) (bd 4 0) (bd 5 0) (bd 6 0) (bd 7 0) (bd 8 0) (bd 9 0) (bd 10 0) (bd 11 0) (bd 12 0) M.1 M.2.1 M.2.2.1 M.2.2.2.1 M.2.2.2.2.1 M.2.2.2.2.2.1 M.2.2.2.2.2.2.1 M.2.2.2.2.2.2.2.1 M.2.2.2.2.2.2.2.2.1 M.2.2.2.2.2.2.2.2.2.1 (xs (t + 1)) o' ho') [135, 136] 0 (ws' := LW E ad bd (bsX7_drift S o) (msX8_drift M o')) dL_law_597 lkL_75 rfl ⟨rfl, rfl⟩ hce rfl rfl rfl rfl (Nat.le_of_ble_eq_true rfl) rfl rfl rfl ?_
  refine g_st (st' := [.int o'.1, .int o.1]) rfl ?_
  exact g_icmp_eq k (tgt := 1384) dL_law_600 (by decide) (fun _ => next _ _ hRn) (fun c => absurd hq c)
def bsX7_undo (S : BV) (o : Int32 × Int32 × Int32 × Int32 × (Nat → Int32) × (Nat → Int32) × (Nat → Int32) × Int32 × Int32) : BV := ((S.1.1, S.1.2.1, S.1.2.2.1, S.1.2.2.2.1, S.1.2.2.2.2.1, S.1.2.2.2.2.2.1, o.2.1, o.2.2.1, o.2.2.2.1, o.2.2.2.2.1, o.2.2.2.2.2.1, o.2.2.2.2.2.2.1), (o.2.2.2.2.2.2.2.1, o.2.2.2.2.2.2.2.2, S.2.1.2.2.1, S.2.1.2.2.2.1, S.2.1.2.2.2.2.1, S.2.1.2.2.2.2.2.1, S.2.1.2.2.2.2.2.2.1, S.2.1.2.2.2.2.2.2.2), S.2.2.1, S.2.2.2.1, S.2.2.2.2.1, S.2.2.2.2.2.1, S.2.2.2.2.2.2.1, S.2.2.2.2.2.2.2.1, S.2.2.2.2.2.2.2.2.1, S.2.2.2.2.2.2.2.2.2)
def msX8_undo (M : MMV) (o : Int32 × (Nat → Int32)) : MMV := (M.1, M.2.1, M.2.2.1, M.2.2.2.1, M.2.2.2.2.1, M.2.2.2.2.2.1, M.2.2.2.2.2.2.1, M.2.2.2.2.2.2.2.1, M.2.2.2.2.2.2.2.2.1, o.2, M.2.2.2.2.2.2.2.2.2.2.1, M.2.2.2.2.2.2.2.2.2.2.2.1, M.2.2.2.2.2.2.2.2.2.2.2.2.1, M.2.2.2.2.2.2.2.2.2.2.2.2.2.1, M.2.2.2.2.2.2.2.2.2.2.2.2.2.2.1, M.2.2.2.2.2.2.2.2.2.2.2.2.2.2.2.1, M.2.2.2.2.2.2.2.2.2.2.2.2.2.2.2.2.1, M.2.2.2.2.2.2.2.2.2.2.2.2.2.2.2.2.2.1, M.2.2.2.2.2.2.2.2.2.2.2.2.2.2.2.2.2.2.1, M.2.2.2.2.2.2.2.2.2.2.2.2.2.2.2.2.2.2.2.1, M.2.2.2.2.2.2.2.2.2.2.2.2.2.2.2.2.2.2.2.2)
/-- X7_undo and X8_undo keep step -/
def Simundo (N : Nat) (Rel : BV → MMV → Prop) : Prop := ∀ (S : BV) (M : MMV), Rel S M → ∃ o o', fX7_undo N S.1.2.2.2.2.2.2.1 S.1.2.2.2.2.2.2.2.1 S.1.2.2.2.2.2.2.2.2.1 S.1.2.2.2.2.2.2.2.2.2.1 S.1.2.2.2.2.2.2.2.2.2.2.1 S.1.2.2.2.2.2.2.2.2.2.2.2 S.2.1.1 S.2.1.2.1 S.2.1.2.2.1 S.2.1.2.2.2.1 S.2.1.2.2.2.2.1 S.2.1.2.2.2.2.2.1 S.2.1.2.2.2.2.2.2.1 S.2.1.2.2.2.2.2.2.2  = some o ∧ fX8_undo N M.2.2.2.2.2.2.2.2.2.1  = some o' ∧ o.1 = o'.1 ∧ Rel (bsX7_undo S o) (msX8_undo M o')
set_option maxHeartbeats 4000000 in
set_option maxRecDepth 100000 in
theorem lawc_undo {E : Ev} {K : KX} (k : OKX E K cL_law RL 4 room_1) {b L : Nat} {xs : Nat → Int32} (X : LX K b L xs) (N : Nat) {Rel : BV → MMV → Prop} (hsim : Simundo N Rel) (ad bd : Nat → Nat → Nat) {ce sl : Nat} (hce : ce ≤ room_1.cells ∧ sl ≤ room_1.slots) (S : BV) (M : MMV) (hR : Rel S M) (x3 : Int32) (t : Nat) (hx : x3 = nI t) (ht : t + 6 ≤ L) (hL : L ≤ 384) (next : ∀ S M, Rel S M → G E K 4 ce sl [(0, .ref b), (1, .ref (ad 0 0)), (2, .ref (bd 0 0)), (3, .int x3)] [] (LW E ad bd S M) 1384) : G E K 4 ce sl [(0, .ref b), (1, .ref (ad 0 0)), (2, .ref (bd 0 0)), (3, .int x3)] [] (LW E ad bd S M) 605 := by
  obtain ⟨o, o', ho, ho', hq, hRn⟩ := hsim S M  hR
  refine g_aload_n k 1 dL_law_605 rfl rfl ?_
  refine g_cv k miX7_undo mvX7_undo (ctX7_undo (kL K) E N (ad 0 0) (ad 1 0) (ad 8 0) (ad 14 0) (ad 21 0) (ad 27 0) (ad 36 0) (ad 42 0) (ad 50 0) (ad 2 0) (ad 3 0) (ad 4 0) (ad 5 0) (ad 6 0) (ad 7 0) (ad 9 0) (ad 10) (ad 11) (ad 12) (ad 13) S.2.2.2.2.1 S.1.1 S.1.2.1 S.1.2.2.1 S.1.2.2.2.1 S.1.2.2.2.2.2.2.1 S.1.2.2.2.2.2.2.2.1 S.1.2.2.2.2.2.2.2.2.1 S.1.2.2.2.2.2.2.2.2.2.1 S.1.2.2.2.2.2.2.2.2.2.2.1 S.1.2.2.2.2.2.2.2.2.2.2.2 S.2.1.1 S.2.1.2.1 S.2.1.2.2.1 S.2.1.2.2.2.1 S.2.1.2.2.2.2.1 S.2.1.2.2.2.2.2.1 S.2.1.2.2.2.2.2.2.1 S.2.1.2.2.2.2.2.2.2  o ho) [0, 1, 4, 5, 6, 7, 8, 9, 10, 11, 12, 13, 14, 15, 16, 17, 18, 19, 20, 21, 22, 23, 24, 25, 26, 27, 28, 29, 30, 31, 32, 33, 34, 35, 36, 37, 38, 39, 40, 41] 0 (ws' := LW E ad bd (bsX7_undo S o) M) dL_law_606 lkL_76 rfl ⟨rfl, rfl⟩ hce rfl rfl rfl rfl (Nat.le_of_ble_eq_true rfl) rfl rfl rfl ?_
  refine g_st (st' := [.int o.1]) rfl ?_
  refine g_aload_n k 2 dL_law_609 rfl rfl ?_
  refine g_cv k miX8_undo mvX8_undo (ctX8_undo (kL K) E N (bd 0 0) (bd 1 0) (bd 2 0) (bd 3 0) (bd 4 0) (bd 5 0) (bd 6 0) (bd 7 0) (bd 8 0) (bd 9 0) (bd 10 0) (bd 11 0) (bd 12 0) M.1 M.2.1 M.2.2.1 M.2.2.2.1 M.2.2.2.2.1 M.2.2.2.2.2.1 M.2.2.2.2.2.2.1 M.2.2.2.2.2.2.2.1 M.2.2.2.2.2.2.2.2.1 M.2.2.2.2.2.2.2.2.2.1  o' ho') [135, 136] 0 (ws' := LW E ad bd (bsX7_undo S o) (msX8_undo M o')) dL_law_610 lkL_79 rfl ⟨rfl, rfl⟩ hce rfl rfl rfl rfl (Nat.le_of_ble_eq_true rfl) rfl rfl rfl ?_
  refine g_st (st' := [.int o'.1, .int o.1]) rfl ?_
  exact g_icmp_eq k (tgt := 1384) dL_law_613 (by decide) (fun _ => next _ _ hRn) (fun c => absurd hq c)
def bsX7_seed (S : BV) (o : Int32 × Int32) : BV := ((S.1.1, S.1.2.1, S.1.2.2.1, S.1.2.2.2.1, S.1.2.2.2.2.1, S.1.2.2.2.2.2.1, S.1.2.2.2.2.2.2.1, S.1.2.2.2.2.2.2.2.1, o.2, S.1.2.2.2.2.2.2.2.2.2.1, S.1.2.2.2.2.2.2.2.2.2.2.1, S.1.2.2.2.2.2.2.2.2.2.2.2), S.2.1, S.2.2.1, S.2.2.2.1, S.2.2.2.2.1, S.2.2.2.2.2.1, S.2.2.2.2.2.2.1, S.2.2.2.2.2.2.2.1, S.2.2.2.2.2.2.2.2.1, S.2.2.2.2.2.2.2.2.2)
def msX8_seed (M : MMV) (o : Int32 × (Nat → Int32)) : MMV := (M.1, M.2.1, M.2.2.1, M.2.2.2.1, M.2.2.2.2.1, M.2.2.2.2.2.1, M.2.2.2.2.2.2.1, M.2.2.2.2.2.2.2.1, M.2.2.2.2.2.2.2.2.1, o.2, M.2.2.2.2.2.2.2.2.2.2.1, M.2.2.2.2.2.2.2.2.2.2.2.1, M.2.2.2.2.2.2.2.2.2.2.2.2.1, M.2.2.2.2.2.2.2.2.2.2.2.2.2.1, M.2.2.2.2.2.2.2.2.2.2.2.2.2.2.1, M.2.2.2.2.2.2.2.2.2.2.2.2.2.2.2.1, M.2.2.2.2.2.2.2.2.2.2.2.2.2.2.2.2.1, M.2.2.2.2.2.2.2.2.2.2.2.2.2.2.2.2.2.1, M.2.2.2.2.2.2.2.2.2.2.2.2.2.2.2.2.2.2.1, M.2.2.2.2.2.2.2.2.2.2.2.2.2.2.2.2.2.2.2.1, M.2.2.2.2.2.2.2.2.2.2.2.2.2.2.2.2.2.2.2.2)
/-- X7_seed and X8_seed keep step -/
def Simseed (N : Nat) (Rel : BV → MMV → Prop) : Prop := ∀ (S : BV) (M : MMV) (y0 : Int32), Rel S M → ∃ o o', fX7_seed N S.1.2.2.2.2.2.2.2.2.1 y0 = some o ∧ fX8_seed N M.2.2.2.2.2.2.2.2.2.1 y0 = some o' ∧ o.1 = o'.1 ∧ Rel (bsX7_seed S o) (msX8_seed M o')
set_option maxHeartbeats 4000000 in
set_option maxRecDepth 100000 in
theorem lawc_seed {E : Ev} {K : KX} (k : OKX E K cL_law RL 4 room_1) {b L : Nat} {xs : Nat → Int32} (X : LX K b L xs) (N : Nat) {Rel : BV → MMV → Prop} (hsim : Simseed N Rel) (ad bd : Nat → Nat → Nat) {ce sl : Nat} (hce : ce ≤ room_1.cells ∧ sl ≤ room_1.slots) (S : BV) (M : MMV) (hR : Rel S M) (x3 : Int32) (t : Nat) (hx : x3 = nI t) (ht : t + 6 ≤ L) (hL : L ≤ 384) (next : ∀ S M, Rel S M → G E K 4 ce sl [(0, .ref b), (1, .ref (ad 0 0)), (2, .ref (bd 0 0)), (3, .int x3)] [] (LW E ad bd S M) 1384) : G E K 4 ce sl [(0, .ref b), (1, .ref (ad 0 0)), (2, .ref (bd 0 0)), (3, .int x3)] [] (LW E ad bd S M) 618 := by
  obtain ⟨o, o', ho, ho', hq, hRn⟩ := hsim S M (xs (t + 1)) hR
  refine g_aload_n k 1 dL_law_618 rfl rfl ?_
  refine g_aload_n k 0 dL_law_619 rfl rfl ?_
  refine g_iload_n k 3 dL_law_620 rfl rfl ?_
  refine g_iconst k dL_law_621 ic_1 ?_
  refine g_iadd k dL_law_622 ?_
  refine g_sld k X dL_law_623 (sc_ix hx ht hL 1 (by decide)).1 (sc_ix hx ht hL 1 (by decide)).2 ?_
  refine g_cv k miX7_seed mvX7_seed (ctX7_seed (kL K) E N (ad 0 0) (ad 1 0) (ad 8 0) (ad 14 0) (ad 21 0) (ad 27 0) (ad 36 0) (ad 42 0) (ad 50 0) (ad 2 0) (ad 3 0) (ad 4 0) (ad 5 0) (ad 6 0) (ad 7 0) S.2.2.2.2.1 S.1.1 S.1.2.1 S.1.2.2.1 S.1.2.2.2.1 S.1.2.2.2.2.2.2.1 S.1.2.2.2.2.2.2.2.1 S.1.2.2.2.2.2.2.2.2.1 (xs (t + 1)) o ho) [0, 1, 4] 0 (ws' := LW E ad bd (bsX7_seed S o) M) dL_law_624 lkL_80 rfl ⟨rfl, rfl⟩ hce rfl rfl rfl rfl (Nat.le_of_ble_eq_true rfl) rfl rfl rfl ?_
  refine g_st (st' := [.int o.1]) rfl ?_
  refine g_aload_n k 2 dL_law_627 rfl rfl ?_
  refine g_aload_n k 0 dL_law_628 rfl rfl ?_
  refine g_iload_n k 3 dL_law_629 rfl rfl ?_
  refine g_iconst k dL_law_630 ic_1 ?_
  refine g_iadd k dL_law_631 ?_
  refine g_sld k X dL_law_632 (sc_ix hx ht hL 1 (by decide)).1 (sc_ix hx ht hL 1 (by decide)).2 ?_
  refine g_cv k miX8_seed mvX8_seed (ctX8_seed (kL K) E N (bd 0 0) (bd 1 0) (bd 2 0) (bd 3 0) (bd 4 0) (bd 5 0) (bd 6 0) (bd 7 0) (bd 8 0) (bd 9 0) (bd 10 0) (bd 11 0) (bd 12 0) M.1 M.2.1 M.2.2.1 M.2.2.2.1 M.2.2.2.2.1 M.2.2.2.2.2.1 M.2.2.2.2.2.2.1 M.2.2.2.2.2.2.2.1 M.2.2.2.2.2.2.2.2.1 M.2.2.2.2.2.2.2.2.2.1 (xs (t + 1)) o' ho') [135, 136] 0 (ws' := LW E ad bd (bsX7_seed S o) (msX8_seed M o')) dL_law_633 lkL_83 rfl ⟨rfl, rfl⟩ hce rfl rfl rfl rfl (Nat.le_of_ble_eq_true rfl) rfl rfl rfl ?_
  refine g_st (st' := [.int o'.1, .int o.1]) rfl ?_
  exact g_icmp_eq k (tgt := 1384) dL_law_636 (by decide) (fun _ => next _ _ hRn) (fun c => absurd hq c)
/-- X7_rock and X8_rock keep step -/
def Simrock (N : Nat) (Rel : BV → MMV → Prop) : Prop := ∀ (S : BV) (M : MMV) (y0 : Int32), Rel S M → ∃ o o', fX7_rock N S.1.2.1 S.1.2.2.1 S.1.2.2.2.2.1 S.1.2.2.2.2.2.1 S.1.2.2.2.2.2.2.2.1 S.1.2.2.2.2.2.2.2.2.2.2.1 S.1.2.2.2.2.2.2.2.2.2.2.2 y0 = some o ∧ fX8_rock N M.2.2.2.2.2.2.2.2.2.1 y0 = some o' ∧ o = o' ∧ Rel S M
set_option maxHeartbeats 4000000 in
set_option maxRecDepth 100000 in
theorem lawc_rock {E : Ev} {K : KX} (k : OKX E K cL_law RL 4 room_1) {b L : Nat} {xs : Nat → Int32} (X : LX K b L xs) (N : Nat) {Rel : BV → MMV → Prop} (hsim : Simrock N Rel) (ad bd : Nat → Nat → Nat) {ce sl : Nat} (hce : ce ≤ room_1.cells ∧ sl ≤ room_1.slots) (S : BV) (M : MMV) (hR : Rel S M) (x3 : Int32) (t : Nat) (hx : x3 = nI t) (ht : t + 6 ≤ L) (hL : L ≤ 384) (next : ∀ S M, Rel S M → G E K 4 ce sl [(0, .ref b), (1, .ref (ad 0 0)), (2, .ref (bd 0 0)), (3, .int x3)] [] (LW E ad bd S M) 1384) : G E K 4 ce sl [(0, .ref b), (1, .ref (ad 0 0)), (2, .ref (bd 0 0)), (3, .int x3)] [] (LW E ad bd S M) 641 := by
  obtain ⟨o, o', ho, ho', hq, hRn⟩ := hsim S M (xs (t + 1)) hR
  refine g_aload_n k 1 dL_law_641 rfl rfl ?_
  refine g_aload_n k 0 dL_law_642 rfl rfl ?_
  refine g_iload_n k 3 dL_law_643 rfl rfl ?_
  refine g_iconst k dL_law_644 ic_1 ?_
  refine g_iadd k dL_law_645 ?_
  refine g_sld k X dL_law_646 (sc_ix hx ht hL 1 (by decide)).1 (sc_ix hx ht hL 1 (by decide)).2 ?_
  refine g_cv k miX7_rock mvX7_rock (ctX7_rock (kL K) E N (ad 0 0) (ad 1 0) (ad 8 0) (ad 14 0) (ad 21 0) (ad 27 0) (ad 36 0) (ad 42 0) (ad 50 0) (ad 2 0) (ad 3 0) (ad 4 0) (ad 5 0) (ad 6 0) (ad 7 0) S.2.2.2.2.1 S.1.1 S.1.2.1 S.1.2.2.1 S.1.2.2.2.1 S.1.2.2.2.2.1 S.1.2.2.2.2.2.1 S.1.2.2.2.2.2.2.1 S.1.2.2.2.2.2.2.2.1 S.1.2.2.2.2.2.2.2.2.1 S.1.2.2.2.2.2.2.2.2.2.2.1 S.1.2.2.2.2.2.2.2.2.2.2.2 (xs (t + 1)) o ho) [0, 1, 2, 3, 4, 6, 7] 0 (ws' := LW E ad bd S M) dL_law_647 lkL_84 rfl ⟨rfl, rfl⟩ hce rfl rfl rfl rfl (Nat.le_of_ble_eq_true rfl) rfl rfl rfl ?_
  refine g_st (st' := [.int o]) rfl ?_
  refine g_aload_n k 2 dL_law_650 rfl rfl ?_
  refine g_aload_n k 0 dL_law_651 rfl rfl ?_
  refine g_iload_n k 3 dL_law_652 rfl rfl ?_
  refine g_iconst k dL_law_653 ic_1 ?_
  refine g_iadd k dL_law_654 ?_
  refine g_sld k X dL_law_655 (sc_ix hx ht hL 1 (by decide)).1 (sc_ix hx ht hL 1 (by decide)).2 ?_
  refine g_cv k miX8_rock mvX8_rock (ctX8_rock (kL K) E N (bd 0 0) (bd 1 0) (bd 2 0) (bd 3 0) (bd 4 0) (bd 5 0) (bd 6 0) (bd 7 0) (bd 8 0) (bd 9 0) (bd 10 0) (bd 11 0) (bd 12 0) M.1 M.2.1 M.2.2.1 M.2.2.2.1 M.2.2.2.2.1 M.2.2.2.2.2.1 M.2.2.2.2.2.2.1 M.2.2.2.2.2.2.2.1 M.2.2.2.2.2.2.2.2.1 M.2.2.2.2.2.2.2.2.2.1 (xs (t + 1)) o' ho') [135, 136] 0 (ws' := LW E ad bd S M) dL_law_656 lkL_87 rfl ⟨rfl, rfl⟩ hce rfl rfl rfl rfl (Nat.le_of_ble_eq_true rfl) rfl rfl rfl ?_
  refine g_st (st' := [.int o', .int o]) rfl ?_
  exact g_icmp_eq k (tgt := 1384) dL_law_659 (by decide) (fun _ => next _ _ hRn) (fun c => absurd hq c)
/-- X7_next and X8_next keep step -/
def Simnext (N : Nat) (Rel : BV → MMV → Prop) : Prop := ∀ (S : BV) (M : MMV) (y0 : Int32), Rel S M → ∃ o o', fX7_next N S.1.2.1 S.1.2.2.1 S.1.2.2.2.2.1 S.1.2.2.2.2.2.1 S.1.2.2.2.2.2.2.2.1 S.1.2.2.2.2.2.2.2.2.2.2.1 S.1.2.2.2.2.2.2.2.2.2.2.2 y0 = some o ∧ fX8_next N M.2.2.2.2.2.2.2.2.2.1 y0 = some o' ∧ o = o' ∧ Rel S M
set_option maxHeartbeats 4000000 in
set_option maxRecDepth 100000 in
theorem lawc_next {E : Ev} {K : KX} (k : OKX E K cL_law RL 4 room_1) {b L : Nat} {xs : Nat → Int32} (X : LX K b L xs) (N : Nat) {Rel : BV → MMV → Prop} (hsim : Simnext N Rel) (ad bd : Nat → Nat → Nat) {ce sl : Nat} (hce : ce ≤ room_1.cells ∧ sl ≤ room_1.slots) (S : BV) (M : MMV) (hR : Rel S M) (x3 : Int32) (t : Nat) (hx : x3 = nI t) (ht : t + 6 ≤ L) (hL : L ≤ 384) (next : ∀ S M, Rel S M → G E K 4 ce sl [(0, .ref b), (1, .ref (ad 0 0)), (2, .ref (bd 0 0)), (3, .int x3)] [] (LW E ad bd S M) 1384) : G E K 4 ce sl [(0, .ref b), (1, .ref (ad 0 0)), (2, .ref (bd 0 0)), (3, .int x3)] [] (LW E ad bd S M) 664 := by
  obtain ⟨o, o', ho, ho', hq, hRn⟩ := hsim S M (xs (t + 1)) hR
  refine g_aload_n k 1 dL_law_664 rfl rfl ?_
  refine g_aload_n k 0 dL_law_665 rfl rfl ?_
  refine g_iload_n k 3 dL_law_666 rfl rfl ?_
  refine g_iconst k dL_law_667 ic_1 ?_
  refine g_iadd k dL_law_668 ?_
  refine g_sld k X dL_law_669 (sc_ix hx ht hL 1 (by decide)).1 (sc_ix hx ht hL 1 (by decide)).2 ?_
  refine g_cv k miX7_next mvX7_next (ctX7_next (kL K) E N (ad 0 0) (ad 1 0) (ad 8 0) (ad 14 0) (ad 21 0) (ad 27 0) (ad 36 0) (ad 42 0) (ad 50 0) (ad 2 0) (ad 3 0) (ad 4 0) (ad 5 0) (ad 6 0) (ad 7 0) S.2.2.2.2.1 S.1.1 S.1.2.1 S.1.2.2.1 S.1.2.2.2.1 S.1.2.2.2.2.1 S.1.2.2.2.2.2.1 S.1.2.2.2.2.2.2.1 S.1.2.2.2.2.2.2.2.1 S.1.2.2.2.2.2.2.2.2.1 S.1.2.2.2.2.2.2.2.2.2.2.1 S.1.2.2.2.2.2.2.2.2.2.2.2 (xs (t + 1)) o ho) [0, 1, 2, 3, 4, 6, 7] 0 (ws' := LW E ad bd S M) dL_law_670 lkL_88 rfl ⟨rfl, rfl⟩ hce rfl rfl rfl rfl (Nat.le_of_ble_eq_true rfl) rfl rfl rfl ?_
  refine g_st (st' := [.int o]) rfl ?_
  refine g_aload_n k 2 dL_law_673 rfl rfl ?_
  refine g_aload_n k 0 dL_law_674 rfl rfl ?_
  refine g_iload_n k 3 dL_law_675 rfl rfl ?_
  refine g_iconst k dL_law_676 ic_1 ?_
  refine g_iadd k dL_law_677 ?_
  refine g_sld k X dL_law_678 (sc_ix hx ht hL 1 (by decide)).1 (sc_ix hx ht hL 1 (by decide)).2 ?_
  refine g_cv k miX8_next mvX8_next (ctX8_next (kL K) E N (bd 0 0) (bd 1 0) (bd 2 0) (bd 3 0) (bd 4 0) (bd 5 0) (bd 6 0) (bd 7 0) (bd 8 0) (bd 9 0) (bd 10 0) (bd 11 0) (bd 12 0) M.1 M.2.1 M.2.2.1 M.2.2.2.1 M.2.2.2.2.1 M.2.2.2.2.2.1 M.2.2.2.2.2.2.1 M.2.2.2.2.2.2.2.1 M.2.2.2.2.2.2.2.2.1 M.2.2.2.2.2.2.2.2.2.1 (xs (t + 1)) o' ho') [135, 136] 0 (ws' := LW E ad bd S M) dL_law_679 lkL_91 rfl ⟨rfl, rfl⟩ hce rfl rfl rfl rfl (Nat.le_of_ble_eq_true rfl) rfl rfl rfl ?_
  refine g_st (st' := [.int o', .int o]) rfl ?_
  exact g_icmp_eq k (tgt := 1384) dL_law_682 (by decide) (fun _ => next _ _ hRn) (fun c => absurd hq c)
def bsX7_greedy (S : BV) (o : Int32 × Int32 × Int32 × Int32 × (Nat → Int32) × (Nat → Int32) × (Nat → Int32)) : BV := (S.1, S.2.1, S.2.2.1, S.2.2.2.1, S.2.2.2.2.1, S.2.2.2.2.2.1, S.2.2.2.2.2.2.1, (o.2.1, o.2.2.1, o.2.2.2.1, o.2.2.2.2.1, o.2.2.2.2.2.1, o.2.2.2.2.2.2, S.2.2.2.2.2.2.2.1.2.2.2.2.2.2), S.2.2.2.2.2.2.2.2.1, S.2.2.2.2.2.2.2.2.2)
def msX8_greedy (M : MMV) (o : Int32 × (Nat → Int32)) : MMV := (M.1, M.2.1, M.2.2.1, M.2.2.2.1, M.2.2.2.2.1, M.2.2.2.2.2.1, M.2.2.2.2.2.2.1, M.2.2.2.2.2.2.2.1, M.2.2.2.2.2.2.2.2.1, o.2, M.2.2.2.2.2.2.2.2.2.2.1, M.2.2.2.2.2.2.2.2.2.2.2.1, M.2.2.2.2.2.2.2.2.2.2.2.2.1, M.2.2.2.2.2.2.2.2.2.2.2.2.2.1, M.2.2.2.2.2.2.2.2.2.2.2.2.2.2.1, M.2.2.2.2.2.2.2.2.2.2.2.2.2.2.2.1, M.2.2.2.2.2.2.2.2.2.2.2.2.2.2.2.2.1, M.2.2.2.2.2.2.2.2.2.2.2.2.2.2.2.2.2.1, M.2.2.2.2.2.2.2.2.2.2.2.2.2.2.2.2.2.2.1, M.2.2.2.2.2.2.2.2.2.2.2.2.2.2.2.2.2.2.2.1, M.2.2.2.2.2.2.2.2.2.2.2.2.2.2.2.2.2.2.2.2)
/-- X7_greedy and X8_greedy keep step -/
def Simgreedy (N : Nat) (Rel : BV → MMV → Prop) : Prop := ∀ (S : BV) (M : MMV) (y0 : Int32) (y1 : Int32), Rel S M → ∃ o o', fX7_greedy N S.1.1 S.1.2.1 S.1.2.2.1 S.1.2.2.2.1 S.1.2.2.2.2.1 S.1.2.2.2.2.2.1 S.1.2.2.2.2.2.2.1 S.1.2.2.2.2.2.2.2.1 S.1.2.2.2.2.2.2.2.2.1 S.1.2.2.2.2.2.2.2.2.2.1 S.1.2.2.2.2.2.2.2.2.2.2.1 S.1.2.2.2.2.2.2.2.2.2.2.2 S.2.2.2.2.2.2.2.1.1 S.2.2.2.2.2.2.2.1.2.1 S.2.2.2.2.2.2.2.1.2.2.1 S.2.2.2.2.2.2.2.1.2.2.2.1 S.2.2.2.2.2.2.2.1.2.2.2.2.1 S.2.2.2.2.2.2.2.1.2.2.2.2.2.1 y0 y1 = some o ∧ fX8_greedy N M.2.2.2.2.2.2.2.2.2.1 y0 y1 = some o' ∧ o.1 = o'.1 ∧ Rel (bsX7_greedy S o) (msX8_greedy M o')
set_option maxHeartbeats 4000000 in
set_option maxRecDepth 100000 in
theorem lawc_greedy {E : Ev} {K : KX} (k : OKX E K cL_law RL 4 room_1) {b L : Nat} {xs : Nat → Int32} (X : LX K b L xs) (N : Nat) {Rel : BV → MMV → Prop} (hsim : Simgreedy N Rel) (ad bd : Nat → Nat → Nat) {ce sl : Nat} (hce : ce ≤ room_1.cells ∧ sl ≤ room_1.slots) (S : BV) (M : MMV) (hR : Rel S M) (x3 : Int32) (t : Nat) (hx : x3 = nI t) (ht : t + 6 ≤ L) (hL : L ≤ 384) (next : ∀ S M, Rel S M → G E K 4 ce sl [(0, .ref b), (1, .ref (ad 0 0)), (2, .ref (bd 0 0)), (3, .int x3)] [] (LW E ad bd S M) 1384) : G E K 4 ce sl [(0, .ref b), (1, .ref (ad 0 0)), (2, .ref (bd 0 0)), (3, .int x3)] [] (LW E ad bd S M) 687 := by
  obtain ⟨o, o', ho, ho', hq, hRn⟩ := hsim S M (xs (t + 1)) (xs (t + 2)) hR
  refine g_aload_n k 1 dL_law_687 rfl rfl ?_
  refine g_aload_n k 0 dL_law_688 rfl rfl ?_
  refine g_iload_n k 3 dL_law_689 rfl rfl ?_
  refine g_iconst k dL_law_690 ic_1 ?_
  refine g_iadd k dL_law_691 ?_
  refine g_sld k X dL_law_692 (sc_ix hx ht hL 1 (by decide)).1 (sc_ix hx ht hL 1 (by decide)).2 ?_
  refine g_aload_n k 0 dL_law_693 rfl rfl ?_
  refine g_iload_n k 3 dL_law_694 rfl rfl ?_
  refine g_iconst k dL_law_695 ic_2 ?_
  refine g_iadd k dL_law_696 ?_
  refine g_sld k X dL_law_697 (sc_ix hx ht hL 2 (by decide)).1 (sc_ix hx ht hL 2 (by decide)).2 ?_
  refine g_cv k miX7_greedy mvX7_greedy (ctX7_greedy (kL K) E N (ad 0 0) (ad 1 0) (ad 8 0) (ad 14 0) (ad 21 0) (ad 27 0) (ad 36 0) (ad 42 0) (ad 50 0) (ad 2 0) (ad 3 0) (ad 4 0) (ad 5 0) (ad 6 0) (ad 7 0) (ad 37 0) (ad 41 0) (ad 38 0) (ad 39 0) (ad 40 0) S.2.2.2.2.1 S.1.1 S.1.2.1 S.1.2.2.1 S.1.2.2.2.1 S.1.2.2.2.2.1 S.1.2.2.2.2.2.1 S.1.2.2.2.2.2.2.1 S.1.2.2.2.2.2.2.2.1 S.1.2.2.2.2.2.2.2.2.1 S.1.2.2.2.2.2.2.2.2.2.1 S.1.2.2.2.2.2.2.2.2.2.2.1 S.1.2.2.2.2.2.2.2.2.2.2.2 S.2.2.2.2.2.2.2.1.1 S.2.2.2.2.2.2.2.1.2.1 S.2.2.2.2.2.2.2.1.2.2.1 S.2.2.2.2.2.2.2.1.2.2.2.1 S.2.2.2.2.2.2.2.1.2.2.2.2.1 S.2.2.2.2.2.2.2.1.2.2.2.2.2.1 (xs (t + 1)) (xs (t + 2)) o ho) [0, 1, 2, 3, 4, 5, 6, 7, 92, 93, 94, 95, 96] 0 (ws' := LW E ad bd (bsX7_greedy S o) M) dL_law_698 lkL_92 rfl ⟨rfl, rfl⟩ hce rfl rfl rfl rfl (Nat.le_of_ble_eq_true rfl) rfl rfl rfl ?_
  refine g_st (st' := [.int o.1]) rfl ?_
  refine g_aload_n k 2 dL_law_701 rfl rfl ?_
  refine g_aload_n k 0 dL_law_702 rfl rfl ?_
  refine g_iload_n k 3 dL_law_703 rfl rfl ?_
  refine g_iconst k dL_law_704 ic_1 ?_
  refine g_iadd k dL_law_705 ?_
  refine g_sld k X dL_law_706 (sc_ix hx ht hL 1 (by decide)).1 (sc_ix hx ht hL 1 (by decide)).2 ?_
  refine g_aload_n k 0 dL_law_707 rfl rfl ?_
  refine g_iload_n k 3 dL_law_708 rfl rfl ?_
  refine g_iconst k dL_law_709 ic_2 ?_
  refine g_iadd k dL_law_710 ?_
  refine g_sld k X dL_law_711 (sc_ix hx ht hL 2 (by decide)).1 (sc_ix hx ht hL 2 (by decide)).2 ?_
  refine g_cv k miX8_greedy mvX8_greedy (ctX8_greedy (kL K) E N (bd 0 0) (bd 1 0) (bd 2 0) (bd 3 0) (bd 4 0) (bd 5 0) (bd 6 0) (bd 7 0) (bd 8 0) (bd 9 0) (bd 10 0) (bd 11 0) (bd 12 0) M.1 M.2.1 M.2.2.1 M.2.2.2.1 M.2.2.2.2.1 M.2.2.2.2.2.1 M.2.2.2.2.2.2.1 M.2.2.2.2.2.2.2.1 M.2.2.2.2.2.2.2.2.1 M.2.2.2.2.2.2.2.2.2.1 (xs (t + 1)) (xs (t + 2)) o' ho') [135, 136] 0 (ws' := LW E ad bd (bsX7_greedy S o) (msX8_greedy M o')) dL_law_712 lkL_95 rfl ⟨rfl, rfl⟩ hce rfl rfl rfl rfl (Nat.le_of_ble_eq_true rfl) rfl rfl rfl ?_
  refine g_st (st' := [.int o'.1, .int o.1]) rfl ?_
  exact g_icmp_eq k (tgt := 1384) dL_law_715 (by decide) (fun _ => next _ _ hRn) (fun c => absurd hq c)
def bsX7_through (S : BV) (o : Int32 × Int32 × Int32 × Int32 × (Nat → Int32) × (Nat → Int32) × (Nat → Int32)) : BV := (S.1, S.2.1, S.2.2.1, S.2.2.2.1, S.2.2.2.2.1, S.2.2.2.2.2.1, S.2.2.2.2.2.2.1, (o.2.1, o.2.2.1, o.2.2.2.1, o.2.2.2.2.1, o.2.2.2.2.2.1, o.2.2.2.2.2.2, S.2.2.2.2.2.2.2.1.2.2.2.2.2.2), S.2.2.2.2.2.2.2.2.1, S.2.2.2.2.2.2.2.2.2)
def msX8_through (M : MMV) (o : Int32 × (Nat → Int32)) : MMV := (M.1, M.2.1, M.2.2.1, M.2.2.2.1, M.2.2.2.2.1, M.2.2.2.2.2.1, M.2.2.2.2.2.2.1, M.2.2.2.2.2.2.2.1, M.2.2.2.2.2.2.2.2.1, o.2, M.2.2.2.2.2.2.2.2.2.2.1, M.2.2.2.2.2.2.2.2.2.2.2.1, M.2.2.2.2.2.2.2.2.2.2.2.2.1, M.2.2.2.2.2.2.2.2.2.2.2.2.2.1, M.2.2.2.2.2.2.2.2.2.2.2.2.2.2.1, M.2.2.2.2.2.2.2.2.2.2.2.2.2.2.2.1, M.2.2.2.2.2.2.2.2.2.2.2.2.2.2.2.2.1, M.2.2.2.2.2.2.2.2.2.2.2.2.2.2.2.2.2.1, M.2.2.2.2.2.2.2.2.2.2.2.2.2.2.2.2.2.2.1, M.2.2.2.2.2.2.2.2.2.2.2.2.2.2.2.2.2.2.2.1, M.2.2.2.2.2.2.2.2.2.2.2.2.2.2.2.2.2.2.2.2)
/-- X7_through and X8_through keep step -/
def Simthrough (N : Nat) (Rel : BV → MMV → Prop) : Prop := ∀ (S : BV) (M : MMV), Rel S M → ∃ o o', fX7_through N S.1.1 S.1.2.1 S.1.2.2.1 S.1.2.2.2.1 S.1.2.2.2.2.1 S.1.2.2.2.2.2.1 S.1.2.2.2.2.2.2.1 S.1.2.2.2.2.2.2.2.1 S.1.2.2.2.2.2.2.2.2.1 S.1.2.2.2.2.2.2.2.2.2.1 S.1.2.2.2.2.2.2.2.2.2.2.1 S.1.2.2.2.2.2.2.2.2.2.2.2 S.2.2.2.2.2.2.2.1.1 S.2.2.2.2.2.2.2.1.2.1 S.2.2.2.2.2.2.2.1.2.2.1 S.2.2.2.2.2.2.2.1.2.2.2.1 S.2.2.2.2.2.2.2.1.2.2.2.2.1 S.2.2.2.2.2.2.2.1.2.2.2.2.2.1  = some o ∧ fX8_through N M.2.2.2.2.2.2.2.2.2.1  = some o' ∧ o.1 = o'.1 ∧ Rel (bsX7_through S o) (msX8_through M o')
set_option maxHeartbeats 4000000 in
set_option maxRecDepth 100000 in
theorem lawc_through {E : Ev} {K : KX} (k : OKX E K cL_law RL 4 room_1) {b L : Nat} {xs : Nat → Int32} (X : LX K b L xs) (N : Nat) {Rel : BV → MMV → Prop} (hsim : Simthrough N Rel) (ad bd : Nat → Nat → Nat) {ce sl : Nat} (hce : ce ≤ room_1.cells ∧ sl ≤ room_1.slots) (S : BV) (M : MMV) (hR : Rel S M) (x3 : Int32) (t : Nat) (hx : x3 = nI t) (ht : t + 6 ≤ L) (hL : L ≤ 384) (next : ∀ S M, Rel S M → G E K 4 ce sl [(0, .ref b), (1, .ref (ad 0 0)), (2, .ref (bd 0 0)), (3, .int x3)] [] (LW E ad bd S M) 1384) : G E K 4 ce sl [(0, .ref b), (1, .ref (ad 0 0)), (2, .ref (bd 0 0)), (3, .int x3)] [] (LW E ad bd S M) 720 := by
  obtain ⟨o, o', ho, ho', hq, hRn⟩ := hsim S M  hR
  refine g_aload_n k 1 dL_law_720 rfl rfl ?_
  refine g_cv k miX7_through mvX7_through (ctX7_through (kL K) E N (ad 0 0) (ad 1 0) (ad 8 0) (ad 14 0) (ad 21 0) (ad 27 0) (ad 36 0) (ad 42 0) (ad 50 0) (ad 2 0) (ad 3 0) (ad 4 0) (ad 5 0) (ad 6 0) (ad 7 0) (ad 37 0) (ad 41 0) (ad 38 0) (ad 39 0) (ad 40 0) S.2.2.2.2.1 S.1.1 S.1.2.1 S.1.2.2.1 S.1.2.2.2.1 S.1.2.2.2.2.1 S.1.2.2.2.2.2.1 S.1.2.2.2.2.2.2.1 S.1.2.2.2.2.2.2.2.1 S.1.2.2.2.2.2.2.2.2.1 S.1.2.2.2.2.2.2.2.2.2.1 S.1.2.2.2.2.2.2.2.2.2.2.1 S.1.2.2.2.2.2.2.2.2.2.2.2 S.2.2.2.2.2.2.2.1.1 S.2.2.2.2.2.2.2.1.2.1 S.2.2.2.2.2.2.2.1.2.2.1 S.2.2.2.2.2.2.2.1.2.2.2.1 S.2.2.2.2.2.2.2.1.2.2.2.2.1 S.2.2.2.2.2.2.2.1.2.2.2.2.2.1  o ho) [0, 1, 2, 3, 4, 5, 6, 7, 92, 93, 94, 95, 96] 0 (ws' := LW E ad bd (bsX7_through S o) M) dL_law_721 lkL_96 rfl ⟨rfl, rfl⟩ hce rfl rfl rfl rfl (Nat.le_of_ble_eq_true rfl) rfl rfl rfl ?_
  refine g_st (st' := [.int o.1]) rfl ?_
  refine g_aload_n k 2 dL_law_724 rfl rfl ?_
  refine g_cv k miX8_through mvX8_through (ctX8_through (kL K) E N (bd 0 0) (bd 1 0) (bd 2 0) (bd 3 0) (bd 4 0) (bd 5 0) (bd 6 0) (bd 7 0) (bd 8 0) (bd 9 0) (bd 10 0) (bd 11 0) (bd 12 0) M.1 M.2.1 M.2.2.1 M.2.2.2.1 M.2.2.2.2.1 M.2.2.2.2.2.1 M.2.2.2.2.2.2.1 M.2.2.2.2.2.2.2.1 M.2.2.2.2.2.2.2.2.1 M.2.2.2.2.2.2.2.2.2.1  o' ho') [135, 136] 0 (ws' := LW E ad bd (bsX7_through S o) (msX8_through M o')) dL_law_725 lkL_99 rfl ⟨rfl, rfl⟩ hce rfl rfl rfl rfl (Nat.le_of_ble_eq_true rfl) rfl rfl rfl ?_
  refine g_st (st' := [.int o'.1, .int o.1]) rfl ?_
  exact g_icmp_eq k (tgt := 1384) dL_law_728 (by decide) (fun _ => next _ _ hRn) (fun c => absurd hq c)
def bsX7_plan (S : BV) (o : Int32 × Int32 × Int32 × Int32 × Int32 × (Nat → Int32) × (Nat → Int32) × (Nat → Int32) × (Nat → Nat → Int32) × (Nat → Nat → Int32) × (Nat → Nat → Int32) × (Nat → Int32) × (Nat → Int32)) : BV := (S.1, S.2.1, S.2.2.1, S.2.2.2.1, S.2.2.2.2.1, S.2.2.2.2.2.1, S.2.2.2.2.2.2.1, S.2.2.2.2.2.2.2.1, (o.2.1, o.2.2.1, o.2.2.2.1, o.2.2.2.2.1, o.2.2.2.2.2.2.2.2.2.2.2.1, o.2.2.2.2.2.2.2.2.2.2.2.2, o.2.2.2.2.2.1, o.2.2.2.2.2.2.1, o.2.2.2.2.2.2.2.1, o.2.2.2.2.2.2.2.2.1, o.2.2.2.2.2.2.2.2.2.1, o.2.2.2.2.2.2.2.2.2.2.1), S.2.2.2.2.2.2.2.2.2)
def msX8_plan (M : MMV) (o : Int32 × Int32 × Int32 × (Nat → Int32) × (Nat → Int32) × (Nat → Int32)) : MMV := (M.1, M.2.1, M.2.2.1, M.2.2.2.1, M.2.2.2.2.1, M.2.2.2.2.2.1, M.2.2.2.2.2.2.1, o.2.1, o.2.2.1, o.2.2.2.1, M.2.2.2.2.2.2.2.2.2.2.1, M.2.2.2.2.2.2.2.2.2.2.2.1, M.2.2.2.2.2.2.2.2.2.2.2.2.1, M.2.2.2.2.2.2.2.2.2.2.2.2.2.1, M.2.2.2.2.2.2.2.2.2.2.2.2.2.2.1, M.2.2.2.2.2.2.2.2.2.2.2.2.2.2.2.1, M.2.2.2.2.2.2.2.2.2.2.2.2.2.2.2.2.1, o.2.2.2.2.1, o.2.2.2.2.2, M.2.2.2.2.2.2.2.2.2.2.2.2.2.2.2.2.2.2.2.1, M.2.2.2.2.2.2.2.2.2.2.2.2.2.2.2.2.2.2.2.2)
/-- X7_plan and X8_plan keep step -/
def Simplan (N : Nat) (Rel : BV → MMV → Prop) : Prop := ∀ (S : BV) (M : MMV) (y0 : Int32) (y1 : Int32), Rel S M → ∃ o o', fX7_plan N S.1.1 S.1.2.1 S.1.2.2.1 S.1.2.2.2.1 S.1.2.2.2.2.1 S.1.2.2.2.2.2.1 S.1.2.2.2.2.2.2.1 S.1.2.2.2.2.2.2.2.1 S.1.2.2.2.2.2.2.2.2.1 S.1.2.2.2.2.2.2.2.2.2.1 S.1.2.2.2.2.2.2.2.2.2.2.1 S.1.2.2.2.2.2.2.2.2.2.2.2 S.2.2.2.2.2.2.2.2.1.1 S.2.2.2.2.2.2.2.2.1.2.1 S.2.2.2.2.2.2.2.2.1.2.2.1 S.2.2.2.2.2.2.2.2.1.2.2.2.1 S.2.2.2.2.2.2.2.2.1.2.2.2.2.2.2.1 S.2.2.2.2.2.2.2.2.1.2.2.2.2.2.2.2.1 S.2.2.2.2.2.2.2.2.1.2.2.2.2.2.2.2.2.1 S.2.2.2.2.2.2.2.2.1.2.2.2.2.2.2.2.2.2.1 S.2.2.2.2.2.2.2.2.1.2.2.2.2.2.2.2.2.2.2.1 S.2.2.2.2.2.2.2.2.1.2.2.2.2.2.2.2.2.2.2.2 S.2.2.2.2.2.2.2.2.1.2.2.2.2.1 S.2.2.2.2.2.2.2.2.1.2.2.2.2.2.1 y0 y1 = some o ∧ fX8_plan N M.2.2.2.2.2.2.2.1 M.2.2.2.2.2.2.2.2.1 M.2.2.2.2.2.2.2.2.2.1 M.2.2.2.2.2.2.2.2.2.2.2.2.2.2.2.2.2.1 M.2.2.2.2.2.2.2.2.2.2.2.2.2.2.2.2.2.2.1 y0 y1 = some o' ∧ o.1 = o'.1 ∧ Rel (bsX7_plan S o) (msX8_plan M o')
set_option maxHeartbeats 4000000 in
set_option maxRecDepth 100000 in
theorem lawc_plan {E : Ev} {K : KX} (k : OKX E K cL_law RL 4 room_1) {b L : Nat} {xs : Nat → Int32} (X : LX K b L xs) (N : Nat) {Rel : BV → MMV → Prop} (hsim : Simplan N Rel) (ad bd : Nat → Nat → Nat) {ce sl : Nat} (hce : ce ≤ room_1.cells ∧ sl ≤ room_1.slots) (S : BV) (M : MMV) (hR : Rel S M) (x3 : Int32) (t : Nat) (hx : x3 = nI t) (ht : t + 6 ≤ L) (hL : L ≤ 384) (next : ∀ S M, Rel S M → G E K 4 ce sl [(0, .ref b), (1, .ref (ad 0 0)), (2, .ref (bd 0 0)), (3, .int x3)] [] (LW E ad bd S M) 1384) : G E K 4 ce sl [(0, .ref b), (1, .ref (ad 0 0)), (2, .ref (bd 0 0)), (3, .int x3)] [] (LW E ad bd S M) 733 := by
  obtain ⟨o, o', ho, ho', hq, hRn⟩ := hsim S M (xs (t + 1)) (xs (t + 2)) hR
  refine g_aload_n k 1 dL_law_733 rfl rfl ?_
  refine g_aload_n k 0 dL_law_734 rfl rfl ?_
  refine g_iload_n k 3 dL_law_735 rfl rfl ?_
  refine g_iconst k dL_law_736 ic_1 ?_
  refine g_iadd k dL_law_737 ?_
  refine g_sld k X dL_law_738 (sc_ix hx ht hL 1 (by decide)).1 (sc_ix hx ht hL 1 (by decide)).2 ?_
  refine g_aload_n k 0 dL_law_739 rfl rfl ?_
  refine g_iload_n k 3 dL_law_740 rfl rfl ?_
  refine g_iconst k dL_law_741 ic_2 ?_
  refine g_iadd k dL_law_742 ?_
  refine g_sld k X dL_law_743 (sc_ix hx ht hL 2 (by decide)).1 (sc_ix hx ht hL 2 (by decide)).2 ?_
  refine g_cv k miX7_plan mvX7_plan (ctX7_plan (kL K) E N (ad 0 0) (ad 1 0) (ad 8 0) (ad 14 0) (ad 21 0) (ad 27 0) (ad 36 0) (ad 42 0) (ad 50 0) (ad 2 0) (ad 3 0) (ad 4 0) (ad 5 0) (ad 6 0) (ad 7 0) (ad 43 0) (ad 44 0) (ad 45 0) (ad 46) (ad 47) (ad 48) (ad 49) S.2.2.2.2.1 S.1.1 S.1.2.1 S.1.2.2.1 S.1.2.2.2.1 S.1.2.2.2.2.1 S.1.2.2.2.2.2.1 S.1.2.2.2.2.2.2.1 S.1.2.2.2.2.2.2.2.1 S.1.2.2.2.2.2.2.2.2.1 S.1.2.2.2.2.2.2.2.2.2.1 S.1.2.2.2.2.2.2.2.2.2.2.1 S.1.2.2.2.2.2.2.2.2.2.2.2 S.2.2.2.2.2.2.2.2.1.1 S.2.2.2.2.2.2.2.2.1.2.1 S.2.2.2.2.2.2.2.2.1.2.2.1 S.2.2.2.2.2.2.2.2.1.2.2.2.1 S.2.2.2.2.2.2.2.2.1.2.2.2.2.2.2.1 S.2.2.2.2.2.2.2.2.1.2.2.2.2.2.2.2.1 S.2.2.2.2.2.2.2.2.1.2.2.2.2.2.2.2.2.1 S.2.2.2.2.2.2.2.2.1.2.2.2.2.2.2.2.2.2.1 S.2.2.2.2.2.2.2.2.1.2.2.2.2.2.2.2.2.2.2.1 S.2.2.2.2.2.2.2.2.1.2.2.2.2.2.2.2.2.2.2.2 S.2.2.2.2.2.2.2.2.1.2.2.2.2.1 S.2.2.2.2.2.2.2.2.1.2.2.2.2.2.1 (xs (t + 1)) (xs (t + 2)) o ho) [0, 1, 2, 3, 4, 5, 6, 7, 98, 99, 102, 103, 104, 105, 106, 107, 108, 109, 110, 111, 112, 113, 114, 115, 116, 117, 118, 119, 120, 121, 122, 123, 124, 125, 100, 101] 0 (ws' := LW E ad bd (bsX7_plan S o) M) dL_law_744 lkL_100 rfl ⟨rfl, rfl⟩ hce rfl rfl rfl rfl (Nat.le_of_ble_eq_true rfl) rfl rfl rfl ?_
  refine g_st (st' := [.int o.1]) rfl ?_
  refine g_aload_n k 2 dL_law_747 rfl rfl ?_
  refine g_aload_n k 0 dL_law_748 rfl rfl ?_
  refine g_iload_n k 3 dL_law_749 rfl rfl ?_
  refine g_iconst k dL_law_750 ic_1 ?_
  refine g_iadd k dL_law_751 ?_
  refine g_sld k X dL_law_752 (sc_ix hx ht hL 1 (by decide)).1 (sc_ix hx ht hL 1 (by decide)).2 ?_
  refine g_aload_n k 0 dL_law_753 rfl rfl ?_
  refine g_iload_n k 3 dL_law_754 rfl rfl ?_
  refine g_iconst k dL_law_755 ic_2 ?_
  refine g_iadd k dL_law_756 ?_
  refine g_sld k X dL_law_757 (sc_ix hx ht hL 2 (by decide)).1 (sc_ix hx ht hL 2 (by decide)).2 ?_
  refine g_cv k miX8_plan mvX8_plan (ctX8_plan (kL K) E N (bd 0 0) (bd 1 0) (bd 2 0) (bd 3 0) (bd 4 0) (bd 5 0) (bd 6 0) (bd 7 0) (bd 8 0) (bd 9 0) (bd 10 0) (bd 11 0) (bd 12 0) M.1 M.2.1 M.2.2.1 M.2.2.2.1 M.2.2.2.2.1 M.2.2.2.2.2.1 M.2.2.2.2.2.2.1 M.2.2.2.2.2.2.2.1 M.2.2.2.2.2.2.2.2.1 M.2.2.2.2.2.2.2.2.2.1 M.2.2.2.2.2.2.2.2.2.2.2.2.2.2.2.2.2.1 M.2.2.2.2.2.2.2.2.2.2.2.2.2.2.2.2.2.2.1 (xs (t + 1)) (xs (t + 2)) o' ho') [135, 136, 144, 145] 0 (ws' := LW E ad bd (bsX7_plan S o) (msX8_plan M o')) dL_law_758 lkL_103 rfl ⟨rfl, rfl⟩ hce rfl rfl rfl rfl (Nat.le_of_ble_eq_true rfl) rfl rfl rfl ?_
  refine g_st (st' := [.int o'.1, .int o.1]) rfl ?_
  exact g_icmp_eq k (tgt := 1384) dL_law_761 (by decide) (fun _ => next _ _ hRn) (fun c => absurd hq c)
/-- X7_crew and X8_crew keep step -/
def Simcrew (N : Nat) (Rel : BV → MMV → Prop) : Prop := ∀ (S : BV) (M : MMV) (y0 : Int32) (y1 : Int32) (y2 : Int32), Rel S M → ∃ o o', fX7_crew N S.1.2.1 S.1.2.2.1 S.1.2.2.2.2.1 S.1.2.2.2.2.2.1 S.1.2.2.2.2.2.2.2.1 S.1.2.2.2.2.2.2.2.2.2.2.1 S.1.2.2.2.2.2.2.2.2.2.2.2 y0 y1 y2 = some o ∧ fX8_crew N M.2.2.2.2.2.2.2.2.2.1 y0 y1 y2 = some o' ∧ o = o' ∧ Rel S M
set_option maxHeartbeats 4000000 in
set_option maxRecDepth 100000 in
theorem lawc_crew {E : Ev} {K : KX} (k : OKX E K cL_law RL 4 room_1) {b L : Nat} {xs : Nat → Int32} (X : LX K b L xs) (N : Nat) {Rel : BV → MMV → Prop} (hsim : Simcrew N Rel) (ad bd : Nat → Nat → Nat) {ce sl : Nat} (hce : ce ≤ room_1.cells ∧ sl ≤ room_1.slots) (S : BV) (M : MMV) (hR : Rel S M) (x3 : Int32) (t : Nat) (hx : x3 = nI t) (ht : t + 6 ≤ L) (hL : L ≤ 384) (next : ∀ S M, Rel S M → G E K 4 ce sl [(0, .ref b), (1, .ref (ad 0 0)), (2, .ref (bd 0 0)), (3, .int x3)] [] (LW E ad bd S M) 1384) : G E K 4 ce sl [(0, .ref b), (1, .ref (ad 0 0)), (2, .ref (bd 0 0)), (3, .int x3)] [] (LW E ad bd S M) 766 := by
  obtain ⟨o, o', ho, ho', hq, hRn⟩ := hsim S M (xs (t + 1)) (xs (t + 2)) (xs (t + 3)) hR
  refine g_aload_n k 1 dL_law_766 rfl rfl ?_
  refine g_aload_n k 0 dL_law_767 rfl rfl ?_
  refine g_iload_n k 3 dL_law_768 rfl rfl ?_
  refine g_iconst k dL_law_769 ic_1 ?_
  refine g_iadd k dL_law_770 ?_
  refine g_sld k X dL_law_771 (sc_ix hx ht hL 1 (by decide)).1 (sc_ix hx ht hL 1 (by decide)).2 ?_
  refine g_aload_n k 0 dL_law_772 rfl rfl ?_
  refine g_iload_n k 3 dL_law_773 rfl rfl ?_
  refine g_iconst k dL_law_774 ic_2 ?_
  refine g_iadd k dL_law_775 ?_
  refine g_sld k X dL_law_776 (sc_ix hx ht hL 2 (by decide)).1 (sc_ix hx ht hL 2 (by decide)).2 ?_
  refine g_aload_n k 0 dL_law_777 rfl rfl ?_
  refine g_iload_n k 3 dL_law_778 rfl rfl ?_
  refine g_iconst k dL_law_779 ic_3 ?_
  refine g_iadd k dL_law_780 ?_
  refine g_sld k X dL_law_781 (sc_ix hx ht hL 3 (by decide)).1 (sc_ix hx ht hL 3 (by decide)).2 ?_
  refine g_cv k miX7_crew mvX7_crew (ctX7_crew (kL K) E N (ad 0 0) (ad 1 0) (ad 8 0) (ad 14 0) (ad 21 0) (ad 27 0) (ad 36 0) (ad 42 0) (ad 50 0) (ad 2 0) (ad 3 0) (ad 4 0) (ad 5 0) (ad 6 0) (ad 7 0) (ad 37 0) (ad 41 0) S.2.2.2.2.1 S.1.1 S.1.2.1 S.1.2.2.1 S.1.2.2.2.1 S.1.2.2.2.2.1 S.1.2.2.2.2.2.1 S.1.2.2.2.2.2.2.1 S.1.2.2.2.2.2.2.2.1 S.1.2.2.2.2.2.2.2.2.1 S.1.2.2.2.2.2.2.2.2.2.2.1 S.1.2.2.2.2.2.2.2.2.2.2.2 (xs (t + 1)) (xs (t + 2)) (xs (t + 3)) o ho) [0, 1, 2, 3, 4, 6, 7, 92] 0 (ws' := LW E ad bd S M) dL_law_782 lkL_104 rfl ⟨rfl, rfl⟩ hce rfl rfl rfl rfl (Nat.le_of_ble_eq_true rfl) rfl rfl rfl ?_
  refine g_st (st' := [.int o]) rfl ?_
  refine g_aload_n k 2 dL_law_785 rfl rfl ?_
  refine g_aload_n k 0 dL_law_786 rfl rfl ?_
  refine g_iload_n k 3 dL_law_787 rfl rfl ?_
  refine g_iconst k dL_law_788 ic_1 ?_
  refine g_iadd k dL_law_789 ?_
  refine g_sld k X dL_law_790 (sc_ix hx ht hL 1 (by decide)).1 (sc_ix hx ht hL 1 (by decide)).2 ?_
  refine g_aload_n k 0 dL_law_791 rfl rfl ?_
  refine g_iload_n k 3 dL_law_792 rfl rfl ?_
  refine g_iconst k dL_law_793 ic_2 ?_
  refine g_iadd k dL_law_794 ?_
  refine g_sld k X dL_law_795 (sc_ix hx ht hL 2 (by decide)).1 (sc_ix hx ht hL 2 (by decide)).2 ?_
  refine g_aload_n k 0 dL_law_796 rfl rfl ?_
  refine g_iload_n k 3 dL_law_797 rfl rfl ?_
  refine g_iconst k dL_law_798 ic_3 ?_
  refine g_iadd k dL_law_799 ?_
  refine g_sld k X dL_law_800 (sc_ix hx ht hL 3 (by decide)).1 (sc_ix hx ht hL 3 (by decide)).2 ?_
  refine g_cv k miX8_crew mvX8_crew (ctX8_crew (kL K) E N (bd 0 0) (bd 1 0) (bd 2 0) (bd 3 0) (bd 4 0) (bd 5 0) (bd 6 0) (bd 7 0) (bd 8 0) (bd 9 0) (bd 10 0) (bd 11 0) (bd 12 0) M.1 M.2.1 M.2.2.1 M.2.2.2.1 M.2.2.2.2.1 M.2.2.2.2.2.1 M.2.2.2.2.2.2.1 M.2.2.2.2.2.2.2.1 M.2.2.2.2.2.2.2.2.1 M.2.2.2.2.2.2.2.2.2.1 (xs (t + 1)) (xs (t + 2)) (xs (t + 3)) o' ho') [135, 136] 0 (ws' := LW E ad bd S M) dL_law_801 lkL_108 rfl ⟨rfl, rfl⟩ hce rfl rfl rfl rfl (Nat.le_of_ble_eq_true rfl) rfl rfl rfl ?_
  refine g_st (st' := [.int o', .int o]) rfl ?_
  exact g_icmp_eq k (tgt := 1384) dL_law_804 (by decide) (fun _ => next _ _ hRn) (fun c => absurd hq c)
/-- X7_minds and X8_minds keep step -/
def Simminds (N : Nat) (Rel : BV → MMV → Prop) : Prop := ∀ (S : BV) (M : MMV) (y0 : Int32) (y1 : Int32), Rel S M → ∃ o o', fX7_minds N S.1.2.1 S.1.2.2.1 S.1.2.2.2.2.1 S.1.2.2.2.2.2.1 S.1.2.2.2.2.2.2.2.1 S.1.2.2.2.2.2.2.2.2.2.2.1 S.1.2.2.2.2.2.2.2.2.2.2.2 y0 y1 = some o ∧ fX8_minds N M.2.2.2.2.2.2.2.2.2.1 y0 y1 = some o' ∧ o = o' ∧ Rel S M
set_option maxHeartbeats 4000000 in
set_option maxRecDepth 100000 in
theorem lawc_minds {E : Ev} {K : KX} (k : OKX E K cL_law RL 4 room_1) {b L : Nat} {xs : Nat → Int32} (X : LX K b L xs) (N : Nat) {Rel : BV → MMV → Prop} (hsim : Simminds N Rel) (ad bd : Nat → Nat → Nat) {ce sl : Nat} (hce : ce ≤ room_1.cells ∧ sl ≤ room_1.slots) (S : BV) (M : MMV) (hR : Rel S M) (x3 : Int32) (t : Nat) (hx : x3 = nI t) (ht : t + 6 ≤ L) (hL : L ≤ 384) (next : ∀ S M, Rel S M → G E K 4 ce sl [(0, .ref b), (1, .ref (ad 0 0)), (2, .ref (bd 0 0)), (3, .int x3)] [] (LW E ad bd S M) 1384) : G E K 4 ce sl [(0, .ref b), (1, .ref (ad 0 0)), (2, .ref (bd 0 0)), (3, .int x3)] [] (LW E ad bd S M) 809 := by
  obtain ⟨o, o', ho, ho', hq, hRn⟩ := hsim S M (xs (t + 1)) (xs (t + 2)) hR
  refine g_aload_n k 1 dL_law_809 rfl rfl ?_
  refine g_aload_n k 0 dL_law_810 rfl rfl ?_
  refine g_iload_n k 3 dL_law_811 rfl rfl ?_
  refine g_iconst k dL_law_812 ic_1 ?_
  refine g_iadd k dL_law_813 ?_
  refine g_sld k X dL_law_814 (sc_ix hx ht hL 1 (by decide)).1 (sc_ix hx ht hL 1 (by decide)).2 ?_
  refine g_aload_n k 0 dL_law_815 rfl rfl ?_
  refine g_iload_n k 3 dL_law_816 rfl rfl ?_
  refine g_iconst k dL_law_817 ic_2 ?_
  refine g_iadd k dL_law_818 ?_
  refine g_sld k X dL_law_819 (sc_ix hx ht hL 2 (by decide)).1 (sc_ix hx ht hL 2 (by decide)).2 ?_
  refine g_cv k miX7_minds mvX7_minds (ctX7_minds (kL K) E N (ad 0 0) (ad 1 0) (ad 8 0) (ad 14 0) (ad 21 0) (ad 27 0) (ad 36 0) (ad 42 0) (ad 50 0) (ad 2 0) (ad 3 0) (ad 4 0) (ad 5 0) (ad 6 0) (ad 7 0) (ad 37 0) (ad 41 0) S.2.2.2.2.1 S.1.1 S.1.2.1 S.1.2.2.1 S.1.2.2.2.1 S.1.2.2.2.2.1 S.1.2.2.2.2.2.1 S.1.2.2.2.2.2.2.1 S.1.2.2.2.2.2.2.2.1 S.1.2.2.2.2.2.2.2.2.1 S.1.2.2.2.2.2.2.2.2.2.2.1 S.1.2.2.2.2.2.2.2.2.2.2.2 (xs (t + 1)) (xs (t + 2)) o ho) [0, 1, 2, 3, 4, 6, 7, 92] 0 (ws' := LW E ad bd S M) dL_law_820 lkL_109 rfl ⟨rfl, rfl⟩ hce rfl rfl rfl rfl (Nat.le_of_ble_eq_true rfl) rfl rfl rfl ?_
  refine g_st (st' := [.int o]) rfl ?_
  refine g_aload_n k 2 dL_law_823 rfl rfl ?_
  refine g_aload_n k 0 dL_law_824 rfl rfl ?_
  refine g_iload_n k 3 dL_law_825 rfl rfl ?_
  refine g_iconst k dL_law_826 ic_1 ?_
  refine g_iadd k dL_law_827 ?_
  refine g_sld k X dL_law_828 (sc_ix hx ht hL 1 (by decide)).1 (sc_ix hx ht hL 1 (by decide)).2 ?_
  refine g_aload_n k 0 dL_law_829 rfl rfl ?_
  refine g_iload_n k 3 dL_law_830 rfl rfl ?_
  refine g_iconst k dL_law_831 ic_2 ?_
  refine g_iadd k dL_law_832 ?_
  refine g_sld k X dL_law_833 (sc_ix hx ht hL 2 (by decide)).1 (sc_ix hx ht hL 2 (by decide)).2 ?_
  refine g_cv k miX8_minds mvX8_minds (ctX8_minds (kL K) E N (bd 0 0) (bd 1 0) (bd 2 0) (bd 3 0) (bd 4 0) (bd 5 0) (bd 6 0) (bd 7 0) (bd 8 0) (bd 9 0) (bd 10 0) (bd 11 0) (bd 12 0) M.1 M.2.1 M.2.2.1 M.2.2.2.1 M.2.2.2.2.1 M.2.2.2.2.2.1 M.2.2.2.2.2.2.1 M.2.2.2.2.2.2.2.1 M.2.2.2.2.2.2.2.2.1 M.2.2.2.2.2.2.2.2.2.1 (xs (t + 1)) (xs (t + 2)) o' ho') [135, 136] 0 (ws' := LW E ad bd S M) dL_law_834 lkL_112 rfl ⟨rfl, rfl⟩ hce rfl rfl rfl rfl (Nat.le_of_ble_eq_true rfl) rfl rfl rfl ?_
  refine g_st (st' := [.int o', .int o]) rfl ?_
  exact g_icmp_eq k (tgt := 1384) dL_law_837 (by decide) (fun _ => next _ _ hRn) (fun c => absurd hq c)
def bsX7_once (S : BV) (o : Int32 × Int32 × Int32 × Int32 × Int32 × (Nat → Int32) × (Nat → Int32) × (Nat → Int32) × (Nat → Nat → Int32) × (Nat → Nat → Int32) × (Nat → Nat → Int32) × (Nat → Int32) × (Nat → Int32)) : BV := (S.1, S.2.1, S.2.2.1, S.2.2.2.1, S.2.2.2.2.1, S.2.2.2.2.2.1, S.2.2.2.2.2.2.1, S.2.2.2.2.2.2.2.1, (o.2.1, o.2.2.1, o.2.2.2.1, o.2.2.2.2.1, o.2.2.2.2.2.2.2.2.2.2.2.1, o.2.2.2.2.2.2.2.2.2.2.2.2, o.2.2.2.2.2.1, o.2.2.2.2.2.2.1, o.2.2.2.2.2.2.2.1, o.2.2.2.2.2.2.2.2.1, o.2.2.2.2.2.2.2.2.2.1, o.2.2.2.2.2.2.2.2.2.2.1), S.2.2.2.2.2.2.2.2.2)
def msX8_once (M : MMV) (o : Int32 × Int32 × Int32 × (Nat → Int32) × (Nat → Int32) × (Nat → Int32)) : MMV := (M.1, M.2.1, M.2.2.1, M.2.2.2.1, M.2.2.2.2.1, M.2.2.2.2.2.1, M.2.2.2.2.2.2.1, o.2.1, o.2.2.1, o.2.2.2.1, M.2.2.2.2.2.2.2.2.2.2.1, M.2.2.2.2.2.2.2.2.2.2.2.1, M.2.2.2.2.2.2.2.2.2.2.2.2.1, M.2.2.2.2.2.2.2.2.2.2.2.2.2.1, M.2.2.2.2.2.2.2.2.2.2.2.2.2.2.1, M.2.2.2.2.2.2.2.2.2.2.2.2.2.2.2.1, M.2.2.2.2.2.2.2.2.2.2.2.2.2.2.2.2.1, o.2.2.2.2.1, o.2.2.2.2.2, M.2.2.2.2.2.2.2.2.2.2.2.2.2.2.2.2.2.2.2.1, M.2.2.2.2.2.2.2.2.2.2.2.2.2.2.2.2.2.2.2.2)
/-- X7_once and X8_once keep step -/
def Simonce (N : Nat) (Rel : BV → MMV → Prop) : Prop := ∀ (S : BV) (M : MMV) (y0 : Int32), Rel S M → ∃ o o', fX7_once N S.1.1 S.1.2.1 S.1.2.2.1 S.1.2.2.2.1 S.1.2.2.2.2.1 S.1.2.2.2.2.2.1 S.1.2.2.2.2.2.2.1 S.1.2.2.2.2.2.2.2.1 S.1.2.2.2.2.2.2.2.2.1 S.1.2.2.2.2.2.2.2.2.2.1 S.1.2.2.2.2.2.2.2.2.2.2.1 S.1.2.2.2.2.2.2.2.2.2.2.2 S.2.2.2.2.2.2.2.2.1.1 S.2.2.2.2.2.2.2.2.1.2.1 S.2.2.2.2.2.2.2.2.1.2.2.1 S.2.2.2.2.2.2.2.2.1.2.2.2.1 S.2.2.2.2.2.2.2.2.1.2.2.2.2.2.2.1 S.2.2.2.2.2.2.2.2.1.2.2.2.2.2.2.2.1 S.2.2.2.2.2.2.2.2.1.2.2.2.2.2.2.2.2.1 S.2.2.2.2.2.2.2.2.1.2.2.2.2.2.2.2.2.2.1 S.2.2.2.2.2.2.2.2.1.2.2.2.2.2.2.2.2.2.2.1 S.2.2.2.2.2.2.2.2.1.2.2.2.2.2.2.2.2.2.2.2 S.2.2.2.2.2.2.2.2.1.2.2.2.2.1 S.2.2.2.2.2.2.2.2.1.2.2.2.2.2.1 y0 = some o ∧ fX8_once N M.2.2.2.2.2.2.2.1 M.2.2.2.2.2.2.2.2.1 M.2.2.2.2.2.2.2.2.2.1 M.2.2.2.2.2.2.2.2.2.2.2.2.2.2.2.2.2.1 M.2.2.2.2.2.2.2.2.2.2.2.2.2.2.2.2.2.2.1 y0 = some o' ∧ o.1 = o'.1 ∧ Rel (bsX7_once S o) (msX8_once M o')
set_option maxHeartbeats 4000000 in
set_option maxRecDepth 100000 in
theorem lawc_once {E : Ev} {K : KX} (k : OKX E K cL_law RL 4 room_1) {b L : Nat} {xs : Nat → Int32} (X : LX K b L xs) (N : Nat) {Rel : BV → MMV → Prop} (hsim : Simonce N Rel) (ad bd : Nat → Nat → Nat) {ce sl : Nat} (hce : ce ≤ room_1.cells ∧ sl ≤ room_1.slots) (S : BV) (M : MMV) (hR : Rel S M) (x3 : Int32) (t : Nat) (hx : x3 = nI t) (ht : t + 6 ≤ L) (hL : L ≤ 384) (next : ∀ S M, Rel S M → G E K 4 ce sl [(0, .ref b), (1, .ref (ad 0 0)), (2, .ref (bd 0 0)), (3, .int x3)] [] (LW E ad bd S M) 1384) : G E K 4 ce sl [(0, .ref b), (1, .ref (ad 0 0)), (2, .ref (bd 0 0)), (3, .int x3)] [] (LW E ad bd S M) 842 := by
  obtain ⟨o, o', ho, ho', hq, hRn⟩ := hsim S M (xs (t + 1)) hR
  refine g_aload_n k 1 dL_law_842 rfl rfl ?_
  refine g_aload_n k 0 dL_law_843 rfl rfl ?_
  refine g_iload_n k 3 dL_law_844 rfl rfl ?_
  refine g_iconst k dL_law_845 ic_1 ?_
  refine g_iadd k dL_law_846 ?_
  refine g_sld k X dL_law_847 (sc_ix hx ht hL 1 (by decide)).1 (sc_ix hx ht hL 1 (by decide)).2 ?_
  refine g_cv k miX7_once mvX7_once (ctX7_once (kL K) E N (ad 0 0) (ad 1 0) (ad 8 0) (ad 14 0) (ad 21 0) (ad 27 0) (ad 36 0) (ad 42 0) (ad 50 0) (ad 2 0) (ad 3 0) (ad 4 0) (ad 5 0) (ad 6 0) (ad 7 0) (ad 43 0) (ad 44 0) (ad 45 0) (ad 46) (ad 47) (ad 48) (ad 49) S.2.2.2.2.1 S.1.1 S.1.2.1 S.1.2.2.1 S.1.2.2.2.1 S.1.2.2.2.2.1 S.1.2.2.2.2.2.1 S.1.2.2.2.2.2.2.1 S.1.2.2.2.2.2.2.2.1 S.1.2.2.2.2.2.2.2.2.1 S.1.2.2.2.2.2.2.2.2.2.1 S.1.2.2.2.2.2.2.2.2.2.2.1 S.1.2.2.2.2.2.2.2.2.2.2.2 S.2.2.2.2.2.2.2.2.1.1 S.2.2.2.2.2.2.2.2.1.2.1 S.2.2.2.2.2.2.2.2.1.2.2.1 S.2.2.2.2.2.2.2.2.1.2.2.2.1 S.2.2.2.2.2.2.2.2.1.2.2.2.2.2.2.1 S.2.2.2.2.2.2.2.2.1.2.2.2.2.2.2.2.1 S.2.2.2.2.2.2.2.2.1.2.2.2.2.2.2.2.2.1 S.2.2.2.2.2.2.2.2.1.2.2.2.2.2.2.2.2.2.1 S.2.2.2.2.2.2.2.2.1.2.2.2.2.2.2.2.2.2.2.1 S.2.2.2.2.2.2.2.2.1.2.2.2.2.2.2.2.2.2.2.2 S.2.2.2.2.2.2.2.2.1.2.2.2.2.1 S.2.2.2.2.2.2.2.2.1.2.2.2.2.2.1 (xs (t + 1)) o ho) [0, 1, 2, 3, 4, 5, 6, 7, 98, 99, 102, 103, 104, 105, 106, 107, 108, 109, 110, 111, 112, 113, 114, 115, 116, 117, 118, 119, 120, 121, 122, 123, 124, 125, 100, 101] 0 (ws' := LW E ad bd (bsX7_once S o) M) dL_law_848 lkL_113 rfl ⟨rfl, rfl⟩ hce rfl rfl rfl rfl (Nat.le_of_ble_eq_true rfl) rfl rfl rfl ?_
  refine g_st (st' := [.int o.1]) rfl ?_
  refine g_aload_n k 2 dL_law_851 rfl rfl ?_
  refine g_aload_n k 0 dL_law_852 rfl rfl ?_
  refine g_iload_n k 3 dL_law_853 rfl rfl ?_
  refine g_iconst k dL_law_854 ic_1 ?_
  refine g_iadd k dL_law_855 ?_
  refine g_sld k X dL_law_856 (sc_ix hx ht hL 1 (by decide)).1 (sc_ix hx ht hL 1 (by decide)).2 ?_
  refine g_cv k miX8_once mvX8_once (ctX8_once (kL K) E N (bd 0 0) (bd 1 0) (bd 2 0) (bd 3 0) (bd 4 0) (bd 5 0) (bd 6 0) (bd 7 0) (bd 8 0) (bd 9 0) (bd 10 0) (bd 11 0) (bd 12 0) M.1 M.2.1 M.2.2.1 M.2.2.2.1 M.2.2.2.2.1 M.2.2.2.2.2.1 M.2.2.2.2.2.2.1 M.2.2.2.2.2.2.2.1 M.2.2.2.2.2.2.2.2.1 M.2.2.2.2.2.2.2.2.2.1 M.2.2.2.2.2.2.2.2.2.2.2.2.2.2.2.2.2.1 M.2.2.2.2.2.2.2.2.2.2.2.2.2.2.2.2.2.2.1 (xs (t + 1)) o' ho') [135, 136, 144, 145] 0 (ws' := LW E ad bd (bsX7_once S o) (msX8_once M o')) dL_law_857 lkL_116 rfl ⟨rfl, rfl⟩ hce rfl rfl rfl rfl (Nat.le_of_ble_eq_true rfl) rfl rfl rfl ?_
  refine g_st (st' := [.int o'.1, .int o.1]) rfl ?_
  exact g_icmp_eq k (tgt := 1384) dL_law_860 (by decide) (fun _ => next _ _ hRn) (fun c => absurd hq c)
/-- X7_sway and X8_sway keep step -/
def Simsway (N : Nat) (Rel : BV → MMV → Prop) : Prop := ∀ (S : BV) (M : MMV) (y0 : Int32) (y1 : Int32) (y2 : Int32), Rel S M → ∃ o o', fX7_sway N S.1.2.1 S.1.2.2.1 S.1.2.2.2.2.1 S.1.2.2.2.2.2.1 S.1.2.2.2.2.2.2.2.1 S.1.2.2.2.2.2.2.2.2.2.2.1 S.1.2.2.2.2.2.2.2.2.2.2.2 y0 y1 y2 = some o ∧ fX8_sway N M.2.2.2.2.2.2.2.2.2.1 y0 y1 y2 = some o' ∧ o = o' ∧ Rel S M
set_option maxHeartbeats 4000000 in
set_option maxRecDepth 100000 in
theorem lawc_sway {E : Ev} {K : KX} (k : OKX E K cL_law RL 4 room_1) {b L : Nat} {xs : Nat → Int32} (X : LX K b L xs) (N : Nat) {Rel : BV → MMV → Prop} (hsim : Simsway N Rel) (ad bd : Nat → Nat → Nat) {ce sl : Nat} (hce : ce ≤ room_1.cells ∧ sl ≤ room_1.slots) (S : BV) (M : MMV) (hR : Rel S M) (x3 : Int32) (t : Nat) (hx : x3 = nI t) (ht : t + 6 ≤ L) (hL : L ≤ 384) (next : ∀ S M, Rel S M → G E K 4 ce sl [(0, .ref b), (1, .ref (ad 0 0)), (2, .ref (bd 0 0)), (3, .int x3)] [] (LW E ad bd S M) 1384) : G E K 4 ce sl [(0, .ref b), (1, .ref (ad 0 0)), (2, .ref (bd 0 0)), (3, .int x3)] [] (LW E ad bd S M) 865 := by
  obtain ⟨o, o', ho, ho', hq, hRn⟩ := hsim S M (xs (t + 1)) (xs (t + 2)) (xs (t + 3)) hR
  refine g_aload_n k 1 dL_law_865 rfl rfl ?_
  refine g_aload_n k 0 dL_law_866 rfl rfl ?_
  refine g_iload_n k 3 dL_law_867 rfl rfl ?_
  refine g_iconst k dL_law_868 ic_1 ?_
  refine g_iadd k dL_law_869 ?_
  refine g_sld k X dL_law_870 (sc_ix hx ht hL 1 (by decide)).1 (sc_ix hx ht hL 1 (by decide)).2 ?_
  refine g_aload_n k 0 dL_law_871 rfl rfl ?_
  refine g_iload_n k 3 dL_law_872 rfl rfl ?_
  refine g_iconst k dL_law_873 ic_2 ?_
  refine g_iadd k dL_law_874 ?_
  refine g_sld k X dL_law_875 (sc_ix hx ht hL 2 (by decide)).1 (sc_ix hx ht hL 2 (by decide)).2 ?_
  refine g_aload_n k 0 dL_law_876 rfl rfl ?_
  refine g_iload_n k 3 dL_law_877 rfl rfl ?_
  refine g_iconst k dL_law_878 ic_3 ?_
  refine g_iadd k dL_law_879 ?_
  refine g_sld k X dL_law_880 (sc_ix hx ht hL 3 (by decide)).1 (sc_ix hx ht hL 3 (by decide)).2 ?_
  refine g_cv k miX7_sway mvX7_sway (ctX7_sway (kL K) E N (ad 0 0) (ad 1 0) (ad 8 0) (ad 14 0) (ad 21 0) (ad 27 0) (ad 36 0) (ad 42 0) (ad 50 0) (ad 2 0) (ad 3 0) (ad 4 0) (ad 5 0) (ad 6 0) (ad 7 0) (ad 37 0) (ad 41 0) S.2.2.2.2.1 S.1.1 S.1.2.1 S.1.2.2.1 S.1.2.2.2.1 S.1.2.2.2.2.1 S.1.2.2.2.2.2.1 S.1.2.2.2.2.2.2.1 S.1.2.2.2.2.2.2.2.1 S.1.2.2.2.2.2.2.2.2.1 S.1.2.2.2.2.2.2.2.2.2.2.1 S.1.2.2.2.2.2.2.2.2.2.2.2 (xs (t + 1)) (xs (t + 2)) (xs (t + 3)) o ho) [0, 1, 2, 3, 4, 6, 7, 92] 0 (ws' := LW E ad bd S M) dL_law_881 lkL_117 rfl ⟨rfl, rfl⟩ hce rfl rfl rfl rfl (Nat.le_of_ble_eq_true rfl) rfl rfl rfl ?_
  refine g_st (st' := [.int o]) rfl ?_
  refine g_aload_n k 2 dL_law_884 rfl rfl ?_
  refine g_aload_n k 0 dL_law_885 rfl rfl ?_
  refine g_iload_n k 3 dL_law_886 rfl rfl ?_
  refine g_iconst k dL_law_887 ic_1 ?_
  refine g_iadd k dL_law_888 ?_
  refine g_sld k X dL_law_889 (sc_ix hx ht hL 1 (by decide)).1 (sc_ix hx ht hL 1 (by decide)).2 ?_
  refine g_aload_n k 0 dL_law_890 rfl rfl ?_
  refine g_iload_n k 3 dL_law_891 rfl rfl ?_
  refine g_iconst k dL_law_892 ic_2 ?_
  refine g_iadd k dL_law_893 ?_
  refine g_sld k X dL_law_894 (sc_ix hx ht hL 2 (by decide)).1 (sc_ix hx ht hL 2 (by decide)).2 ?_
  refine g_aload_n k 0 dL_law_895 rfl rfl ?_
  refine g_iload_n k 3 dL_law_896 rfl rfl ?_
  refine g_iconst k dL_law_897 ic_3 ?_
  refine g_iadd k dL_law_898 ?_
  refine g_sld k X dL_law_899 (sc_ix hx ht hL 3 (by decide)).1 (sc_ix hx ht hL 3 (by decide)).2 ?_
  refine g_cv k miX8_sway mvX8_sway (ctX8_sway (kL K) E N (bd 0 0) (bd 1 0) (bd 2 0) (bd 3 0) (bd 4 0) (bd 5 0) (bd 6 0) (bd 7 0) (bd 8 0) (bd 9 0) (bd 10 0) (bd 11 0) (bd 12 0) M.1 M.2.1 M.2.2.1 M.2.2.2.1 M.2.2.2.2.1 M.2.2.2.2.2.1 M.2.2.2.2.2.2.1 M.2.2.2.2.2.2.2.1 M.2.2.2.2.2.2.2.2.1 M.2.2.2.2.2.2.2.2.2.1 (xs (t + 1)) (xs (t + 2)) (xs (t + 3)) o' ho') [135, 136] 0 (ws' := LW E ad bd S M) dL_law_900 lkL_120 rfl ⟨rfl, rfl⟩ hce rfl rfl rfl rfl (Nat.le_of_ble_eq_true rfl) rfl rfl rfl ?_
  refine g_st (st' := [.int o', .int o]) rfl ?_
  exact g_icmp_eq k (tgt := 1384) dL_law_903 (by decide) (fun _ => next _ _ hRn) (fun c => absurd hq c)
/-- X7_boats and X8_boats keep step -/
def Simboats (N : Nat) (Rel : BV → MMV → Prop) : Prop := ∀ (S : BV) (M : MMV) (y0 : Int32), Rel S M → ∃ o o', fX7_boats N S.1.2.1 S.1.2.2.1 S.1.2.2.2.2.1 S.1.2.2.2.2.2.1 S.1.2.2.2.2.2.2.2.1 S.1.2.2.2.2.2.2.2.2.2.2.1 S.1.2.2.2.2.2.2.2.2.2.2.2 y0 = some o ∧ fX8_boats N M.2.2.2.2.2.2.2.2.2.1 y0 = some o' ∧ o = o' ∧ Rel S M
set_option maxHeartbeats 4000000 in
set_option maxRecDepth 100000 in
theorem lawc_boats {E : Ev} {K : KX} (k : OKX E K cL_law RL 4 room_1) {b L : Nat} {xs : Nat → Int32} (X : LX K b L xs) (N : Nat) {Rel : BV → MMV → Prop} (hsim : Simboats N Rel) (ad bd : Nat → Nat → Nat) {ce sl : Nat} (hce : ce ≤ room_1.cells ∧ sl ≤ room_1.slots) (S : BV) (M : MMV) (hR : Rel S M) (x3 : Int32) (t : Nat) (hx : x3 = nI t) (ht : t + 6 ≤ L) (hL : L ≤ 384) (next : ∀ S M, Rel S M → G E K 4 ce sl [(0, .ref b), (1, .ref (ad 0 0)), (2, .ref (bd 0 0)), (3, .int x3)] [] (LW E ad bd S M) 1384) : G E K 4 ce sl [(0, .ref b), (1, .ref (ad 0 0)), (2, .ref (bd 0 0)), (3, .int x3)] [] (LW E ad bd S M) 908 := by
  obtain ⟨o, o', ho, ho', hq, hRn⟩ := hsim S M (xs (t + 1)) hR
  refine g_aload_n k 1 dL_law_908 rfl rfl ?_
  refine g_aload_n k 0 dL_law_909 rfl rfl ?_
  refine g_iload_n k 3 dL_law_910 rfl rfl ?_
  refine g_iconst k dL_law_911 ic_1 ?_
  refine g_iadd k dL_law_912 ?_
  refine g_sld k X dL_law_913 (sc_ix hx ht hL 1 (by decide)).1 (sc_ix hx ht hL 1 (by decide)).2 ?_
  refine g_cv k miX7_boats mvX7_boats (ctX7_boats (kL K) E N (ad 0 0) (ad 1 0) (ad 8 0) (ad 14 0) (ad 21 0) (ad 27 0) (ad 36 0) (ad 42 0) (ad 50 0) (ad 2 0) (ad 3 0) (ad 4 0) (ad 5 0) (ad 6 0) (ad 7 0) (ad 37 0) (ad 41 0) S.2.2.2.2.1 S.1.1 S.1.2.1 S.1.2.2.1 S.1.2.2.2.1 S.1.2.2.2.2.1 S.1.2.2.2.2.2.1 S.1.2.2.2.2.2.2.1 S.1.2.2.2.2.2.2.2.1 S.1.2.2.2.2.2.2.2.2.1 S.1.2.2.2.2.2.2.2.2.2.2.1 S.1.2.2.2.2.2.2.2.2.2.2.2 (xs (t + 1)) o ho) [0, 1, 2, 3, 4, 6, 7, 92] 0 (ws' := LW E ad bd S M) dL_law_914 lkL_121 rfl ⟨rfl, rfl⟩ hce rfl rfl rfl rfl (Nat.le_of_ble_eq_true rfl) rfl rfl rfl ?_
  refine g_st (st' := [.int o]) rfl ?_
  refine g_aload_n k 2 dL_law_917 rfl rfl ?_
  refine g_aload_n k 0 dL_law_918 rfl rfl ?_
  refine g_iload_n k 3 dL_law_919 rfl rfl ?_
  refine g_iconst k dL_law_920 ic_1 ?_
  refine g_iadd k dL_law_921 ?_
  refine g_sld k X dL_law_922 (sc_ix hx ht hL 1 (by decide)).1 (sc_ix hx ht hL 1 (by decide)).2 ?_
  refine g_cv k miX8_boats mvX8_boats (ctX8_boats (kL K) E N (bd 0 0) (bd 1 0) (bd 2 0) (bd 3 0) (bd 4 0) (bd 5 0) (bd 6 0) (bd 7 0) (bd 8 0) (bd 9 0) (bd 10 0) (bd 11 0) (bd 12 0) M.1 M.2.1 M.2.2.1 M.2.2.2.1 M.2.2.2.2.1 M.2.2.2.2.2.1 M.2.2.2.2.2.2.1 M.2.2.2.2.2.2.2.1 M.2.2.2.2.2.2.2.2.1 M.2.2.2.2.2.2.2.2.2.1 (xs (t + 1)) o' ho') [135, 136] 0 (ws' := LW E ad bd S M) dL_law_923 lkL_124 rfl ⟨rfl, rfl⟩ hce rfl rfl rfl rfl (Nat.le_of_ble_eq_true rfl) rfl rfl rfl ?_
  refine g_st (st' := [.int o', .int o]) rfl ?_
  exact g_icmp_eq k (tgt := 1384) dL_law_926 (by decide) (fun _ => next _ _ hRn) (fun c => absurd hq c)
def bsX7_ring (S : BV) (o : Int32 × Int32 × Int32 × Int32 × (Nat → Int32) × (Nat → Int32) × (Nat → Int32) × (Nat → Int64)) : BV := (S.1, S.2.1, S.2.2.1, S.2.2.2.1, S.2.2.2.2.1, S.2.2.2.2.2.1, S.2.2.2.2.2.2.1, (o.2.1, o.2.2.1, o.2.2.2.1, o.2.2.2.2.1, o.2.2.2.2.2.1, o.2.2.2.2.2.2.1, o.2.2.2.2.2.2.2), S.2.2.2.2.2.2.2.2.1, S.2.2.2.2.2.2.2.2.2)
def msX8_ring (M : MMV) (o : Int32 × (Nat → Int32) × (Nat → Int32)) : MMV := (M.1, M.2.1, M.2.2.1, M.2.2.2.1, M.2.2.2.2.1, M.2.2.2.2.2.1, M.2.2.2.2.2.2.1, M.2.2.2.2.2.2.2.1, M.2.2.2.2.2.2.2.2.1, o.2.1, M.2.2.2.2.2.2.2.2.2.2.1, M.2.2.2.2.2.2.2.2.2.2.2.1, M.2.2.2.2.2.2.2.2.2.2.2.2.1, M.2.2.2.2.2.2.2.2.2.2.2.2.2.1, M.2.2.2.2.2.2.2.2.2.2.2.2.2.2.1, M.2.2.2.2.2.2.2.2.2.2.2.2.2.2.2.1, M.2.2.2.2.2.2.2.2.2.2.2.2.2.2.2.2.1, M.2.2.2.2.2.2.2.2.2.2.2.2.2.2.2.2.2.1, M.2.2.2.2.2.2.2.2.2.2.2.2.2.2.2.2.2.2.1, o.2.2, M.2.2.2.2.2.2.2.2.2.2.2.2.2.2.2.2.2.2.2.2)
/-- X7_ring and X8_ring keep step -/
def Simring (N : Nat) (Rel : BV → MMV → Prop) : Prop := ∀ (S : BV) (M : MMV) (y0 : Int32), Rel S M → ∃ o o', fX7_ring N S.1.1 S.1.2.1 S.1.2.2.1 S.1.2.2.2.1 S.1.2.2.2.2.1 S.1.2.2.2.2.2.1 S.1.2.2.2.2.2.2.1 S.1.2.2.2.2.2.2.2.1 S.1.2.2.2.2.2.2.2.2.1 S.1.2.2.2.2.2.2.2.2.2.1 S.1.2.2.2.2.2.2.2.2.2.2.1 S.1.2.2.2.2.2.2.2.2.2.2.2 S.2.2.2.2.2.2.2.1.1 S.2.2.2.2.2.2.2.1.2.1 S.2.2.2.2.2.2.2.1.2.2.1 S.2.2.2.2.2.2.2.1.2.2.2.1 S.2.2.2.2.2.2.2.1.2.2.2.2.1 S.2.2.2.2.2.2.2.1.2.2.2.2.2.1 S.2.2.2.2.2.2.2.1.2.2.2.2.2.2 y0 = some o ∧ fX8_ring N M.2.2.2.2.2.2.2.2.2.1 M.2.2.2.2.2.2.2.2.2.2.2.2.2.2.2.2.2.2.2.1 y0 = some o' ∧ o.1 = o'.1 ∧ Rel (bsX7_ring S o) (msX8_ring M o')
set_option maxHeartbeats 4000000 in
set_option maxRecDepth 100000 in
theorem lawc_ring {E : Ev} {K : KX} (k : OKX E K cL_law RL 4 room_1) {b L : Nat} {xs : Nat → Int32} (X : LX K b L xs) (N : Nat) {Rel : BV → MMV → Prop} (hsim : Simring N Rel) (ad bd : Nat → Nat → Nat) {ce sl : Nat} (hce : ce ≤ room_1.cells ∧ sl ≤ room_1.slots) (S : BV) (M : MMV) (hR : Rel S M) (x3 : Int32) (t : Nat) (hx : x3 = nI t) (ht : t + 6 ≤ L) (hL : L ≤ 384) (next : ∀ S M, Rel S M → G E K 4 ce sl [(0, .ref b), (1, .ref (ad 0 0)), (2, .ref (bd 0 0)), (3, .int x3)] [] (LW E ad bd S M) 1384) : G E K 4 ce sl [(0, .ref b), (1, .ref (ad 0 0)), (2, .ref (bd 0 0)), (3, .int x3)] [] (LW E ad bd S M) 931 := by
  obtain ⟨o, o', ho, ho', hq, hRn⟩ := hsim S M (xs (t + 1)) hR
  refine g_aload_n k 1 dL_law_931 rfl rfl ?_
  refine g_aload_n k 0 dL_law_932 rfl rfl ?_
  refine g_iload_n k 3 dL_law_933 rfl rfl ?_
  refine g_iconst k dL_law_934 ic_1 ?_
  refine g_iadd k dL_law_935 ?_
  refine g_sld k X dL_law_936 (sc_ix hx ht hL 1 (by decide)).1 (sc_ix hx ht hL 1 (by decide)).2 ?_
  refine g_cv k miX7_ring mvX7_ring (ctX7_ring (kL K) E N (ad 0 0) (ad 1 0) (ad 8 0) (ad 14 0) (ad 21 0) (ad 27 0) (ad 36 0) (ad 42 0) (ad 50 0) (ad 2 0) (ad 3 0) (ad 4 0) (ad 5 0) (ad 6 0) (ad 7 0) (ad 37 0) (ad 41 0) (ad 38 0) (ad 39 0) (ad 40 0) S.2.2.2.2.1 S.1.1 S.1.2.1 S.1.2.2.1 S.1.2.2.2.1 S.1.2.2.2.2.1 S.1.2.2.2.2.2.1 S.1.2.2.2.2.2.2.1 S.1.2.2.2.2.2.2.2.1 S.1.2.2.2.2.2.2.2.2.1 S.1.2.2.2.2.2.2.2.2.2.1 S.1.2.2.2.2.2.2.2.2.2.2.1 S.1.2.2.2.2.2.2.2.2.2.2.2 S.2.2.2.2.2.2.2.1.1 S.2.2.2.2.2.2.2.1.2.1 S.2.2.2.2.2.2.2.1.2.2.1 S.2.2.2.2.2.2.2.1.2.2.2.1 S.2.2.2.2.2.2.2.1.2.2.2.2.1 S.2.2.2.2.2.2.2.1.2.2.2.2.2.1 S.2.2.2.2.2.2.2.1.2.2.2.2.2.2 (xs (t + 1)) o ho) [0, 1, 2, 3, 4, 5, 6, 7, 92, 93, 94, 95, 96, 97] 0 (ws' := LW E ad bd (bsX7_ring S o) M) dL_law_937 lkL_125 rfl ⟨rfl, rfl⟩ hce rfl rfl rfl rfl (Nat.le_of_ble_eq_true rfl) rfl rfl rfl ?_
  refine g_st (st' := [.int o.1]) rfl ?_
  refine g_aload_n k 2 dL_law_940 rfl rfl ?_
  refine g_aload_n k 0 dL_law_941 rfl rfl ?_
  refine g_iload_n k 3 dL_law_942 rfl rfl ?_
  refine g_iconst k dL_law_943 ic_1 ?_
  refine g_iadd k dL_law_944 ?_
  refine g_sld k X dL_law_945 (sc_ix hx ht hL 1 (by decide)).1 (sc_ix hx ht hL 1 (by decide)).2 ?_
  refine g_cv k miX8_ring mvX8_ring (ctX8_ring (kL K) E N (bd 0 0) (bd 1 0) (bd 2 0) (bd 3 0) (bd 4 0) (bd 5 0) (bd 6 0) (bd 7 0) (bd 8 0) (bd 9 0) (bd 10 0) (bd 11 0) (bd 12 0) M.1 M.2.1 M.2.2.1 M.2.2.2.1 M.2.2.2.2.1 M.2.2.2.2.2.1 M.2.2.2.2.2.2.1 M.2.2.2.2.2.2.2.1 M.2.2.2.2.2.2.2.2.1 M.2.2.2.2.2.2.2.2.2.1 M.2.2.2.2.2.2.2.2.2.2.2.2.2.2.2.2.2.2.2.1 (xs (t + 1)) o' ho') [135, 136, 146] 0 (ws' := LW E ad bd (bsX7_ring S o) (msX8_ring M o')) dL_law_946 lkL_128 rfl ⟨rfl, rfl⟩ hce rfl rfl rfl rfl (Nat.le_of_ble_eq_true rfl) rfl rfl rfl ?_
  refine g_st (st' := [.int o'.1, .int o.1]) rfl ?_
  exact g_icmp_eq k (tgt := 1384) dL_law_949 (by decide) (fun _ => next _ _ hRn) (fun c => absurd hq c)
/-- X7_enough and X8_enough keep step -/
def Simenough (N : Nat) (Rel : BV → MMV → Prop) : Prop := ∀ (S : BV) (M : MMV) (y0 : Int32), Rel S M → ∃ o o', fX7_enough N S.1.1 S.1.2.1 S.1.2.2.1 S.1.2.2.2.2.1 S.1.2.2.2.2.2.1 S.1.2.2.2.2.2.2.1 S.1.2.2.2.2.2.2.2.1 S.1.2.2.2.2.2.2.2.2.2.1 S.1.2.2.2.2.2.2.2.2.2.2.2 y0 = some o ∧ fX8_enough N M.2.2.2.2.2.2.2.2.2.1 y0 = some o' ∧ o = o' ∧ Rel S M
set_option maxHeartbeats 4000000 in
set_option maxRecDepth 100000 in
theorem lawc_enough {E : Ev} {K : KX} (k : OKX E K cL_law RL 4 room_1) {b L : Nat} {xs : Nat → Int32} (X : LX K b L xs) (N : Nat) {Rel : BV → MMV → Prop} (hsim : Simenough N Rel) (ad bd : Nat → Nat → Nat) {ce sl : Nat} (hce : ce ≤ room_1.cells ∧ sl ≤ room_1.slots) (S : BV) (M : MMV) (hR : Rel S M) (x3 : Int32) (t : Nat) (hx : x3 = nI t) (ht : t + 6 ≤ L) (hL : L ≤ 384) (next : ∀ S M, Rel S M → G E K 4 ce sl [(0, .ref b), (1, .ref (ad 0 0)), (2, .ref (bd 0 0)), (3, .int x3)] [] (LW E ad bd S M) 1384) : G E K 4 ce sl [(0, .ref b), (1, .ref (ad 0 0)), (2, .ref (bd 0 0)), (3, .int x3)] [] (LW E ad bd S M) 954 := by
  obtain ⟨o, o', ho, ho', hq, hRn⟩ := hsim S M (xs (t + 1)) hR
  refine g_aload_n k 1 dL_law_954 rfl rfl ?_
  refine g_aload_n k 0 dL_law_955 rfl rfl ?_
  refine g_iload_n k 3 dL_law_956 rfl rfl ?_
  refine g_iconst k dL_law_957 ic_1 ?_
  refine g_iadd k dL_law_958 ?_
  refine g_sld k X dL_law_959 (sc_ix hx ht hL 1 (by decide)).1 (sc_ix hx ht hL 1 (by decide)).2 ?_
  refine g_cv k miX7_enough mvX7_enough (ctX7_enough (kL K) E N (ad 0 0) (ad 1 0) (ad 8 0) (ad 14 0) (ad 21 0) (ad 27 0) (ad 36 0) (ad 42 0) (ad 50 0) (ad 2 0) (ad 3 0) (ad 4 0) (ad 5 0) (ad 6 0) (ad 7 0) (ad 37 0) (ad 41 0) S.2.2.2.2.1 S.1.1 S.1.2.1 S.1.2.2.1 S.1.2.2.2.1 S.1.2.2.2.2.1 S.1.2.2.2.2.2.1 S.1.2.2.2.2.2.2.1 S.1.2.2.2.2.2.2.2.1 S.1.2.2.2.2.2.2.2.2.1 S.1.2.2.2.2.2.2.2.2.2.1 S.1.2.2.2.2.2.2.2.2.2.2.2 (xs (t + 1)) o ho) [0, 1, 2, 3, 4, 5, 7, 92] 0 (ws' := LW E ad bd S M) dL_law_960 lkL_129 rfl ⟨rfl, rfl⟩ hce rfl rfl rfl rfl (Nat.le_of_ble_eq_true rfl) rfl rfl rfl ?_
  refine g_st (st' := [.int o]) rfl ?_
  refine g_aload_n k 2 dL_law_963 rfl rfl ?_
  refine g_aload_n k 0 dL_law_964 rfl rfl ?_
  refine g_iload_n k 3 dL_law_965 rfl rfl ?_
  refine g_iconst k dL_law_966 ic_1 ?_
  refine g_iadd k dL_law_967 ?_
  refine g_sld k X dL_law_968 (sc_ix hx ht hL 1 (by decide)).1 (sc_ix hx ht hL 1 (by decide)).2 ?_
  refine g_cv k miX8_enough mvX8_enough (ctX8_enough (kL K) E N (bd 0 0) (bd 1 0) (bd 2 0) (bd 3 0) (bd 4 0) (bd 5 0) (bd 6 0) (bd 7 0) (bd 8 0) (bd 9 0) (bd 10 0) (bd 11 0) (bd 12 0) M.1 M.2.1 M.2.2.1 M.2.2.2.1 M.2.2.2.2.1 M.2.2.2.2.2.1 M.2.2.2.2.2.2.1 M.2.2.2.2.2.2.2.1 M.2.2.2.2.2.2.2.2.1 M.2.2.2.2.2.2.2.2.2.1 (xs (t + 1)) o' ho') [135, 136] 0 (ws' := LW E ad bd S M) dL_law_969 lkL_132 rfl ⟨rfl, rfl⟩ hce rfl rfl rfl rfl (Nat.le_of_ble_eq_true rfl) rfl rfl rfl ?_
  refine g_st (st' := [.int o', .int o]) rfl ?_
  exact g_icmp_eq k (tgt := 1384) dL_law_972 (by decide) (fun _ => next _ _ hRn) (fun c => absurd hq c)
/-- X7_sick and X8_sick keep step -/
def Simsick (N : Nat) (Rel : BV → MMV → Prop) : Prop := ∀ (S : BV) (M : MMV) (y0 : Int32) (y1 : Int32) (y2 : Int32), Rel S M → ∃ o o', fX7_sick N S.1.1 S.1.2.1 S.1.2.2.1 S.1.2.2.2.2.1 S.1.2.2.2.2.2.1 S.1.2.2.2.2.2.2.1 S.1.2.2.2.2.2.2.2.1 S.1.2.2.2.2.2.2.2.2.2.1 S.1.2.2.2.2.2.2.2.2.2.2.1 S.1.2.2.2.2.2.2.2.2.2.2.2 y0 y1 y2 = some o ∧ fX8_sick N M.2.2.2.2.2.2.2.2.2.1 y0 y1 y2 = some o' ∧ o = o' ∧ Rel S M
set_option maxHeartbeats 4000000 in
set_option maxRecDepth 100000 in
theorem lawc_sick {E : Ev} {K : KX} (k : OKX E K cL_law RL 4 room_1) {b L : Nat} {xs : Nat → Int32} (X : LX K b L xs) (N : Nat) {Rel : BV → MMV → Prop} (hsim : Simsick N Rel) (ad bd : Nat → Nat → Nat) {ce sl : Nat} (hce : ce ≤ room_1.cells ∧ sl ≤ room_1.slots) (S : BV) (M : MMV) (hR : Rel S M) (x3 : Int32) (t : Nat) (hx : x3 = nI t) (ht : t + 6 ≤ L) (hL : L ≤ 384) (next : ∀ S M, Rel S M → G E K 4 ce sl [(0, .ref b), (1, .ref (ad 0 0)), (2, .ref (bd 0 0)), (3, .int x3)] [] (LW E ad bd S M) 1384) : G E K 4 ce sl [(0, .ref b), (1, .ref (ad 0 0)), (2, .ref (bd 0 0)), (3, .int x3)] [] (LW E ad bd S M) 977 := by
  obtain ⟨o, o', ho, ho', hq, hRn⟩ := hsim S M (xs (t + 1)) (xs (t + 2)) (xs (t + 3)) hR
  refine g_aload_n k 1 dL_law_977 rfl rfl ?_
  refine g_aload_n k 0 dL_law_978 rfl rfl ?_
  refine g_iload_n k 3 dL_law_979 rfl rfl ?_
  refine g_iconst k dL_law_980 ic_1 ?_
  refine g_iadd k dL_law_981 ?_
  refine g_sld k X dL_law_982 (sc_ix hx ht hL 1 (by decide)).1 (sc_ix hx ht hL 1 (by decide)).2 ?_
  refine g_aload_n k 0 dL_law_983 rfl rfl ?_
  refine g_iload_n k 3 dL_law_984 rfl rfl ?_
  refine g_iconst k dL_law_985 ic_2 ?_
  refine g_iadd k dL_law_986 ?_
  refine g_sld k X dL_law_987 (sc_ix hx ht hL 2 (by decide)).1 (sc_ix hx ht hL 2 (by decide)).2 ?_
  refine g_aload_n k 0 dL_law_988 rfl rfl ?_
  refine g_iload_n k 3 dL_law_989 rfl rfl ?_
  refine g_iconst k dL_law_990 ic_3 ?_
  refine g_iadd k dL_law_991 ?_
  refine g_sld k X dL_law_992 (sc_ix hx ht hL 3 (by decide)).1 (sc_ix hx ht hL 3 (by decide)).2 ?_
  refine g_cv k miX7_sick mvX7_sick (ctX7_sick (kL K) E N (ad 0 0) (ad 1 0) (ad 8 0) (ad 14 0) (ad 21 0) (ad 27 0) (ad 36 0) (ad 42 0) (ad 50 0) (ad 2 0) (ad 3 0) (ad 4 0) (ad 5 0) (ad 6 0) (ad 7 0) (ad 37 0) (ad 41 0) S.2.2.2.2.1 S.1.1 S.1.2.1 S.1.2.2.1 S.1.2.2.2.1 S.1.2.2.2.2.1 S.1.2.2.2.2.2.1 S.1.2.2.2.2.2.2.1 S.1.2.2.2.2.2.2.2.1 S.1.2.2.2.2.2.2.2.2.1 S.1.2.2.2.2.2.2.2.2.2.1 S.1.2.2.2.2.2.2.2.2.2.2.1 S.1.2.2.2.2.2.2.2.2.2.2.2 (xs (t + 1)) (xs (t + 2)) (xs (t + 3)) o ho) [0, 1, 2, 3, 4, 5, 6, 7, 92] 0 (ws' := LW E ad bd S M) dL_law_993 lkL_133 rfl ⟨rfl, rfl⟩ hce rfl rfl rfl rfl (Nat.le_of_ble_eq_true rfl) rfl rfl rfl ?_
  refine g_st (st' := [.int o]) rfl ?_
  refine g_aload_n k 2 dL_law_996 rfl rfl ?_
  refine g_aload_n k 0 dL_law_997 rfl rfl ?_
  refine g_iload_n k 3 dL_law_998 rfl rfl ?_
  refine g_iconst k dL_law_999 ic_1 ?_
  refine g_iadd k dL_law_1000 ?_
  refine g_sld k X dL_law_1001 (sc_ix hx ht hL 1 (by decide)).1 (sc_ix hx ht hL 1 (by decide)).2 ?_
  refine g_aload_n k 0 dL_law_1002 rfl rfl ?_
  refine g_iload_n k 3 dL_law_1003 rfl rfl ?_
  refine g_iconst k dL_law_1004 ic_2 ?_
  refine g_iadd k dL_law_1005 ?_
  refine g_sld k X dL_law_1006 (sc_ix hx ht hL 2 (by decide)).1 (sc_ix hx ht hL 2 (by decide)).2 ?_
  refine g_aload_n k 0 dL_law_1007 rfl rfl ?_
  refine g_iload_n k 3 dL_law_1008 rfl rfl ?_
  refine g_iconst k dL_law_1009 ic_3 ?_
  refine g_iadd k dL_law_1010 ?_
  refine g_sld k X dL_law_1011 (sc_ix hx ht hL 3 (by decide)).1 (sc_ix hx ht hL 3 (by decide)).2 ?_
  refine g_cv k miX8_sick mvX8_sick (ctX8_sick (kL K) E N (bd 0 0) (bd 1 0) (bd 2 0) (bd 3 0) (bd 4 0) (bd 5 0) (bd 6 0) (bd 7 0) (bd 8 0) (bd 9 0) (bd 10 0) (bd 11 0) (bd 12 0) M.1 M.2.1 M.2.2.1 M.2.2.2.1 M.2.2.2.2.1 M.2.2.2.2.2.1 M.2.2.2.2.2.2.1 M.2.2.2.2.2.2.2.1 M.2.2.2.2.2.2.2.2.1 M.2.2.2.2.2.2.2.2.2.1 (xs (t + 1)) (xs (t + 2)) (xs (t + 3)) o' ho') [135, 136] 0 (ws' := LW E ad bd S M) dL_law_1012 lkL_136 rfl ⟨rfl, rfl⟩ hce rfl rfl rfl rfl (Nat.le_of_ble_eq_true rfl) rfl rfl rfl ?_
  refine g_st (st' := [.int o', .int o]) rfl ?_
  exact g_icmp_eq k (tgt := 1384) dL_law_1015 (by decide) (fun _ => next _ _ hRn) (fun c => absurd hq c)
def bsX7_image (S : BV) (o : Int32 × Int32 × Int32 × Int32 × Int32 × Int32 × (Nat → Int32) × (Nat → Int32) × Int32 × Int32 × Int32 × (Nat → Int32) × (Nat → Int32) × (Nat → Int32) × Int32 × Int32 × (Nat → Int32) × (Nat → Int32) × (Nat → Int32) × (Nat → Nat → Int32) × (Nat → Nat → Int32) × (Nat → Nat → Int32)) : BV := (S.1, S.2.1, (o.2.2.1, o.2.2.2.1, o.2.2.2.2.1, o.2.2.2.2.2.1, o.2.2.2.2.2.2.1, o.2.2.2.2.2.2.2.1, o.2.2.2.2.2.2.2.2.1, o.2.2.2.2.2.2.2.2.2.1, o.2.2.2.2.2.2.2.2.2.2.1, o.2.2.2.2.2.2.2.2.2.2.2.1, o.2.2.2.2.2.2.2.2.2.2.2.2.1, o.2.2.2.2.2.2.2.2.2.2.2.2.2.1), (o.2.2.2.2.2.2.2.2.2.2.2.2.2.2.1, o.2.2.2.2.2.2.2.2.2.2.2.2.2.2.2.1, o.2.2.2.2.2.2.2.2.2.2.2.2.2.2.2.2.1, o.2.2.2.2.2.2.2.2.2.2.2.2.2.2.2.2.2.1, o.2.2.2.2.2.2.2.2.2.2.2.2.2.2.2.2.2.2.1, o.2.2.2.2.2.2.2.2.2.2.2.2.2.2.2.2.2.2.2.1, o.2.2.2.2.2.2.2.2.2.2.2.2.2.2.2.2.2.2.2.2.1, o.2.2.2.2.2.2.2.2.2.2.2.2.2.2.2.2.2.2.2.2.2), o.2.1, S.2.2.2.2.2.1, S.2.2.2.2.2.2.1, S.2.2.2.2.2.2.2.1, S.2.2.2.2.2.2.2.2.1, S.2.2.2.2.2.2.2.2.2)
def msX8_image (M : MMV) (o : Int32 × Int32 × (Nat → Int32)) : MMV := (o.2.1, M.2.1, M.2.2.1, M.2.2.2.1, M.2.2.2.2.1, M.2.2.2.2.2.1, M.2.2.2.2.2.2.1, M.2.2.2.2.2.2.2.1, M.2.2.2.2.2.2.2.2.1, o.2.2, M.2.2.2.2.2.2.2.2.2.2.1, M.2.2.2.2.2.2.2.2.2.2.2.1, M.2.2.2.2.2.2.2.2.2.2.2.2.1, M.2.2.2.2.2.2.2.2.2.2.2.2.2.1, M.2.2.2.2.2.2.2.2.2.2.2.2.2.2.1, M.2.2.2.2.2.2.2.2.2.2.2.2.2.2.2.1, M.2.2.2.2.2.2.2.2.2.2.2.2.2.2.2.2.1, M.2.2.2.2.2.2.2.2.2.2.2.2.2.2.2.2.2.1, M.2.2.2.2.2.2.2.2.2.2.2.2.2.2.2.2.2.2.1, M.2.2.2.2.2.2.2.2.2.2.2.2.2.2.2.2.2.2.2.1, M.2.2.2.2.2.2.2.2.2.2.2.2.2.2.2.2.2.2.2.2)
/-- X7_image and X8_image keep step -/
def Simimage (N : Nat) (Rel : BV → MMV → Prop) : Prop := ∀ (S : BV) (M : MMV), Rel S M → ∃ o o', fX7_image N S.2.2.2.2.1 S.1.1 S.1.2.1 S.1.2.2.1 S.1.2.2.2.1 S.1.2.2.2.2.1 S.1.2.2.2.2.2.1 S.1.2.2.2.2.2.2.1 S.1.2.2.2.2.2.2.2.1 S.1.2.2.2.2.2.2.2.2.1 S.1.2.2.2.2.2.2.2.2.2.1 S.1.2.2.2.2.2.2.2.2.2.2.1 S.1.2.2.2.2.2.2.2.2.2.2.2 S.2.1.1 S.2.1.2.1 S.2.1.2.2.1 S.2.1.2.2.2.1 S.2.1.2.2.2.2.1 S.2.1.2.2.2.2.2.1 S.2.1.2.2.2.2.2.2.1 S.2.1.2.2.2.2.2.2.2 S.2.2.1.1 S.2.2.1.2.1 S.2.2.1.2.2.1 S.2.2.1.2.2.2.1 S.2.2.1.2.2.2.2.1 S.2.2.1.2.2.2.2.2.1 S.2.2.1.2.2.2.2.2.2.1 S.2.2.1.2.2.2.2.2.2.2.1 S.2.2.1.2.2.2.2.2.2.2.2.1 S.2.2.1.2.2.2.2.2.2.2.2.2.1 S.2.2.1.2.2.2.2.2.2.2.2.2.2.1 S.2.2.1.2.2.2.2.2.2.2.2.2.2.2 S.2.2.2.1.1 S.2.2.2.1.2.1 S.2.2.2.1.2.2.1 S.2.2.2.1.2.2.2.1 S.2.2.2.1.2.2.2.2.1 S.2.2.2.1.2.2.2.2.2.1 S.2.2.2.1.2.2.2.2.2.2.1 S.2.2.2.1.2.2.2.2.2.2.2  = some o ∧ fX8_image N M.1 M.2.2.2.2.2.2.2.2.2.1  = some o' ∧ o.1 = o'.1 ∧ Rel (bsX7_image S o) (msX8_image M o')
set_option maxHeartbeats 4000000 in
set_option maxRecDepth 100000 in
theorem lawc_image {E : Ev} {K : KX} (k : OKX E K cL_law RL 4 room_1) {b L : Nat} {xs : Nat → Int32} (X : LX K b L xs) (N : Nat) {Rel : BV → MMV → Prop} (hsim : Simimage N Rel) (ad bd : Nat → Nat → Nat) {ce sl : Nat} (hce : ce ≤ room_1.cells ∧ sl ≤ room_1.slots) (S : BV) (M : MMV) (hR : Rel S M) (x3 : Int32) (t : Nat) (hx : x3 = nI t) (ht : t + 6 ≤ L) (hL : L ≤ 384) (next : ∀ S M, Rel S M → G E K 4 ce sl [(0, .ref b), (1, .ref (ad 0 0)), (2, .ref (bd 0 0)), (3, .int x3)] [] (LW E ad bd S M) 1384) : G E K 4 ce sl [(0, .ref b), (1, .ref (ad 0 0)), (2, .ref (bd 0 0)), (3, .int x3)] [] (LW E ad bd S M) 1020 := by
  obtain ⟨o, o', ho, ho', hq, hRn⟩ := hsim S M  hR
  refine g_aload_n k 1 dL_law_1020 rfl rfl ?_
  refine g_cv k miX7_image mvX7_image (ctX7_image (kL K) E N (ad 0 0) (ad 1 0) (ad 8 0) (ad 14 0) (ad 21 0) (ad 27 0) (ad 36 0) (ad 42 0) (ad 50 0) (ad 2 0) (ad 3 0) (ad 4 0) (ad 5 0) (ad 6 0) (ad 7 0) (ad 9 0) (ad 10) (ad 11) (ad 12) (ad 13) (ad 15 0) (ad 16 0) (ad 17 0) (ad 18 0) (ad 19 0) (ad 20 0) (ad 22 0) (ad 23) (ad 24) (ad 25) (ad 26) S.2.2.2.2.1 S.1.1 S.1.2.1 S.1.2.2.1 S.1.2.2.2.1 S.1.2.2.2.2.1 S.1.2.2.2.2.2.1 S.1.2.2.2.2.2.2.1 S.1.2.2.2.2.2.2.2.1 S.1.2.2.2.2.2.2.2.2.1 S.1.2.2.2.2.2.2.2.2.2.1 S.1.2.2.2.2.2.2.2.2.2.2.1 S.1.2.2.2.2.2.2.2.2.2.2.2 S.2.1.1 S.2.1.2.1 S.2.1.2.2.1 S.2.1.2.2.2.1 S.2.1.2.2.2.2.1 S.2.1.2.2.2.2.2.1 S.2.1.2.2.2.2.2.2.1 S.2.1.2.2.2.2.2.2.2 S.2.2.1.1 S.2.2.1.2.1 S.2.2.1.2.2.1 S.2.2.1.2.2.2.1 S.2.2.1.2.2.2.2.1 S.2.2.1.2.2.2.2.2.1 S.2.2.1.2.2.2.2.2.2.1 S.2.2.1.2.2.2.2.2.2.2.1 S.2.2.1.2.2.2.2.2.2.2.2.1 S.2.2.1.2.2.2.2.2.2.2.2.2.1 S.2.2.1.2.2.2.2.2.2.2.2.2.2.1 S.2.2.1.2.2.2.2.2.2.2.2.2.2.2 S.2.2.2.1.1 S.2.2.2.1.2.1 S.2.2.2.1.2.2.1 S.2.2.2.1.2.2.2.1 S.2.2.2.1.2.2.2.2.1 S.2.2.2.1.2.2.2.2.2.1 S.2.2.2.1.2.2.2.2.2.2.1 S.2.2.2.1.2.2.2.2.2.2.2  o ho) [0, 1, 2, 3, 4, 5, 6, 7, 8, 9, 10, 11, 12, 13, 14, 15, 16, 17, 18, 19, 20, 21, 22, 23, 24, 25, 26, 27, 28, 29, 30, 31, 32, 33, 34, 35, 36, 37, 38, 39, 40, 41, 42, 43, 44, 45, 46, 47, 48, 49, 50, 51, 52, 53, 54, 55, 56, 57, 58, 59, 60, 61, 62, 63, 64, 65, 66, 67, 68, 69, 70, 71, 72, 73, 74, 75, 76, 77, 78, 79, 80, 81, 82] 0 (ws' := LW E ad bd (bsX7_image S o) M) dL_law_1021 lkL_137 rfl ⟨rfl, rfl⟩ hce rfl rfl rfl rfl (Nat.le_of_ble_eq_true rfl) rfl rfl rfl ?_
  refine g_st (st' := [.int o.1]) rfl ?_
  refine g_aload_n k 2 dL_law_1024 rfl rfl ?_
  refine g_cv k miX8_image mvX8_image (ctX8_image (kL K) E N (bd 0 0) (bd 1 0) (bd 2 0) (bd 3 0) (bd 4 0) (bd 5 0) (bd 6 0) (bd 7 0) (bd 8 0) (bd 9 0) (bd 10 0) (bd 11 0) (bd 12 0) M.1 M.2.1 M.2.2.1 M.2.2.2.1 M.2.2.2.2.1 M.2.2.2.2.2.1 M.2.2.2.2.2.2.1 M.2.2.2.2.2.2.2.1 M.2.2.2.2.2.2.2.2.1 M.2.2.2.2.2.2.2.2.2.1  o' ho') [135, 136] 0 (ws' := LW E ad bd (bsX7_image S o) (msX8_image M o')) dL_law_1025 lkL_140 rfl ⟨rfl, rfl⟩ hce rfl rfl rfl rfl (Nat.le_of_ble_eq_true rfl) rfl rfl rfl ?_
  refine g_st (st' := [.int o'.1, .int o.1]) rfl ?_
  exact g_icmp_eq k (tgt := 1384) dL_law_1028 (by decide) (fun _ => next _ _ hRn) (fun c => absurd hq c)
def bsX7_restore (S : BV) (o : Int32 × Int32 × Int32 × Int32 × Int32 × (Nat → Int32) × (Nat → Int32) × Int32 × Int32 × Int32 × (Nat → Int32) × (Nat → Int32) × (Nat → Int32) × Int32 × Int32 × (Nat → Int32) × (Nat → Int32) × (Nat → Int32) × (Nat → Nat → Int32) × (Nat → Nat → Int32) × (Nat → Nat → Int32)) : BV := ((o.2.1, o.2.2.1, o.2.2.2.1, o.2.2.2.2.1, o.2.2.2.2.2.1, o.2.2.2.2.2.2.1, o.2.2.2.2.2.2.2.1, o.2.2.2.2.2.2.2.2.1, o.2.2.2.2.2.2.2.2.2.1, o.2.2.2.2.2.2.2.2.2.2.1, o.2.2.2.2.2.2.2.2.2.2.2.1, o.2.2.2.2.2.2.2.2.2.2.2.2.1), (o.2.2.2.2.2.2.2.2.2.2.2.2.2.1, o.2.2.2.2.2.2.2.2.2.2.2.2.2.2.1, o.2.2.2.2.2.2.2.2.2.2.2.2.2.2.2.1, o.2.2.2.2.2.2.2.2.2.2.2.2.2.2.2.2.1, o.2.2.2.2.2.2.2.2.2.2.2.2.2.2.2.2.2.1, o.2.2.2.2.2.2.2.2.2.2.2.2.2.2.2.2.2.2.1, o.2.2.2.2.2.2.2.2.2.2.2.2.2.2.2.2.2.2.2.1, o.2.2.2.2.2.2.2.2.2.2.2.2.2.2.2.2.2.2.2.2), S.2.2.1, S.2.2.2.1, S.2.2.2.2.1, S.2.2.2.2.2.1, S.2.2.2.2.2.2.1, S.2.2.2.2.2.2.2.1, S.2.2.2.2.2.2.2.2.1, S.2.2.2.2.2.2.2.2.2)
def msX8_restore (M : MMV) (o : Int32 × (Nat → Int32)) : MMV := (M.1, M.2.1, M.2.2.1, M.2.2.2.1, M.2.2.2.2.1, M.2.2.2.2.2.1, M.2.2.2.2.2.2.1, M.2.2.2.2.2.2.2.1, M.2.2.2.2.2.2.2.2.1, o.2, M.2.2.2.2.2.2.2.2.2.2.1, M.2.2.2.2.2.2.2.2.2.2.2.1, M.2.2.2.2.2.2.2.2.2.2.2.2.1, M.2.2.2.2.2.2.2.2.2.2.2.2.2.1, M.2.2.2.2.2.2.2.2.2.2.2.2.2.2.1, M.2.2.2.2.2.2.2.2.2.2.2.2.2.2.2.1, M.2.2.2.2.2.2.2.2.2.2.2.2.2.2.2.2.1, M.2.2.2.2.2.2.2.2.2.2.2.2.2.2.2.2.2.1, M.2.2.2.2.2.2.2.2.2.2.2.2.2.2.2.2.2.2.1, M.2.2.2.2.2.2.2.2.2.2.2.2.2.2.2.2.2.2.2.1, M.2.2.2.2.2.2.2.2.2.2.2.2.2.2.2.2.2.2.2.2)
/-- X7_restore and X8_restore keep step -/
def Simrestore (N : Nat) (Rel : BV → MMV → Prop) : Prop := ∀ (S : BV) (M : MMV), Rel S M → ∃ o o', fX7_restore N S.2.2.2.2.1 S.1.1 S.1.2.1 S.1.2.2.1 S.1.2.2.2.1 S.1.2.2.2.2.1 S.1.2.2.2.2.2.1 S.1.2.2.2.2.2.2.1 S.1.2.2.2.2.2.2.2.1 S.1.2.2.2.2.2.2.2.2.1 S.1.2.2.2.2.2.2.2.2.2.1 S.1.2.2.2.2.2.2.2.2.2.2.1 S.1.2.2.2.2.2.2.2.2.2.2.2 S.2.1.1 S.2.1.2.1 S.2.1.2.2.1 S.2.1.2.2.2.1 S.2.1.2.2.2.2.1 S.2.1.2.2.2.2.2.1 S.2.1.2.2.2.2.2.2.1 S.2.1.2.2.2.2.2.2.2 S.2.2.1.1 S.2.2.1.2.1 S.2.2.1.2.2.1 S.2.2.1.2.2.2.1 S.2.2.1.2.2.2.2.1 S.2.2.1.2.2.2.2.2.1 S.2.2.1.2.2.2.2.2.2.1 S.2.2.1.2.2.2.2.2.2.2.1 S.2.2.1.2.2.2.2.2.2.2.2.1 S.2.2.1.2.2.2.2.2.2.2.2.2.1 S.2.2.1.2.2.2.2.2.2.2.2.2.2.1 S.2.2.1.2.2.2.2.2.2.2.2.2.2.2 S.2.2.2.1.1 S.2.2.2.1.2.1 S.2.2.2.1.2.2.1 S.2.2.2.1.2.2.2.1 S.2.2.2.1.2.2.2.2.1 S.2.2.2.1.2.2.2.2.2.1 S.2.2.2.1.2.2.2.2.2.2.1 S.2.2.2.1.2.2.2.2.2.2.2  = some o ∧ fX8_restore N M.1 M.2.2.2.2.2.2.2.2.2.1  = some o' ∧ o.1 = o'.1 ∧ Rel (bsX7_restore S o) (msX8_restore M o')
set_option maxHeartbeats 4000000 in
set_option maxRecDepth 100000 in
theorem lawc_restore {E : Ev} {K : KX} (k : OKX E K cL_law RL 4 room_1) {b L : Nat} {xs : Nat → Int32} (X : LX K b L xs) (N : Nat) {Rel : BV → MMV → Prop} (hsim : Simrestore N Rel) (ad bd : Nat → Nat → Nat) {ce sl : Nat} (hce : ce ≤ room_1.cells ∧ sl ≤ room_1.slots) (S : BV) (M : MMV) (hR : Rel S M) (x3 : Int32) (t : Nat) (hx : x3 = nI t) (ht : t + 6 ≤ L) (hL : L ≤ 384) (next : ∀ S M, Rel S M → G E K 4 ce sl [(0, .ref b), (1, .ref (ad 0 0)), (2, .ref (bd 0 0)), (3, .int x3)] [] (LW E ad bd S M) 1384) : G E K 4 ce sl [(0, .ref b), (1, .ref (ad 0 0)), (2, .ref (bd 0 0)), (3, .int x3)] [] (LW E ad bd S M) 1033 := by
  obtain ⟨o, o', ho, ho', hq, hRn⟩ := hsim S M  hR
  refine g_aload_n k 1 dL_law_1033 rfl rfl ?_
  refine g_cv k miX7_restore mvX7_restore (ctX7_restore (kL K) E N (ad 0 0) (ad 1 0) (ad 8 0) (ad 14 0) (ad 21 0) (ad 27 0) (ad 36 0) (ad 42 0) (ad 50 0) (ad 2 0) (ad 3 0) (ad 4 0) (ad 5 0) (ad 6 0) (ad 7 0) (ad 9 0) (ad 10) (ad 11) (ad 12) (ad 13) (ad 15 0) (ad 16 0) (ad 17 0) (ad 18 0) (ad 19 0) (ad 20 0) (ad 22 0) (ad 23) (ad 24) (ad 25) (ad 26) S.2.2.2.2.1 S.1.1 S.1.2.1 S.1.2.2.1 S.1.2.2.2.1 S.1.2.2.2.2.1 S.1.2.2.2.2.2.1 S.1.2.2.2.2.2.2.1 S.1.2.2.2.2.2.2.2.1 S.1.2.2.2.2.2.2.2.2.1 S.1.2.2.2.2.2.2.2.2.2.1 S.1.2.2.2.2.2.2.2.2.2.2.1 S.1.2.2.2.2.2.2.2.2.2.2.2 S.2.1.1 S.2.1.2.1 S.2.1.2.2.1 S.2.1.2.2.2.1 S.2.1.2.2.2.2.1 S.2.1.2.2.2.2.2.1 S.2.1.2.2.2.2.2.2.1 S.2.1.2.2.2.2.2.2.2 S.2.2.1.1 S.2.2.1.2.1 S.2.2.1.2.2.1 S.2.2.1.2.2.2.1 S.2.2.1.2.2.2.2.1 S.2.2.1.2.2.2.2.2.1 S.2.2.1.2.2.2.2.2.2.1 S.2.2.1.2.2.2.2.2.2.2.1 S.2.2.1.2.2.2.2.2.2.2.2.1 S.2.2.1.2.2.2.2.2.2.2.2.2.1 S.2.2.1.2.2.2.2.2.2.2.2.2.2.1 S.2.2.1.2.2.2.2.2.2.2.2.2.2.2 S.2.2.2.1.1 S.2.2.2.1.2.1 S.2.2.2.1.2.2.1 S.2.2.2.1.2.2.2.1 S.2.2.2.1.2.2.2.2.1 S.2.2.2.1.2.2.2.2.2.1 S.2.2.2.1.2.2.2.2.2.2.1 S.2.2.2.1.2.2.2.2.2.2.2  o ho) [0, 1, 2, 3, 4, 5, 6, 7, 8, 9, 10, 11, 12, 13, 14, 15, 16, 17, 18, 19, 20, 21, 22, 23, 24, 25, 26, 27, 28, 29, 30, 31, 32, 33, 34, 35, 36, 37, 38, 39, 40, 41, 42, 43, 44, 45, 46, 47, 48, 49, 50, 51, 52, 53, 54, 55, 56, 57, 58, 59, 60, 61, 62, 63, 64, 65, 66, 67, 68, 69, 70, 71, 72, 73, 74, 75, 76, 77, 78, 79, 80, 81, 82] 0 (ws' := LW E ad bd (bsX7_restore S o) M) dL_law_1034 lkL_141 rfl ⟨rfl, rfl⟩ hce rfl rfl rfl rfl (Nat.le_of_ble_eq_true rfl) rfl rfl rfl ?_
  refine g_st (st' := [.int o.1]) rfl ?_
  refine g_aload_n k 2 dL_law_1037 rfl rfl ?_
  refine g_cv k miX8_restore mvX8_restore (ctX8_restore (kL K) E N (bd 0 0) (bd 1 0) (bd 2 0) (bd 3 0) (bd 4 0) (bd 5 0) (bd 6 0) (bd 7 0) (bd 8 0) (bd 9 0) (bd 10 0) (bd 11 0) (bd 12 0) M.1 M.2.1 M.2.2.1 M.2.2.2.1 M.2.2.2.2.1 M.2.2.2.2.2.1 M.2.2.2.2.2.2.1 M.2.2.2.2.2.2.2.1 M.2.2.2.2.2.2.2.2.1 M.2.2.2.2.2.2.2.2.2.1  o' ho') [135, 136] 0 (ws' := LW E ad bd (bsX7_restore S o) (msX8_restore M o')) dL_law_1038 lkL_144 rfl ⟨rfl, rfl⟩ hce rfl rfl rfl rfl (Nat.le_of_ble_eq_true rfl) rfl rfl rfl ?_
  refine g_st (st' := [.int o'.1, .int o.1]) rfl ?_
  exact g_icmp_eq k (tgt := 1384) dL_law_1041 (by decide) (fun _ => next _ _ hRn) (fun c => absurd hq c)
/-- X7_felt and X8_felt keep step -/
def Simfelt (N : Nat) (Rel : BV → MMV → Prop) : Prop := ∀ (S : BV) (M : MMV) (y0 : Int32) (y1 : Int32) (y2 : Int32) (y3 : Int32) (y4 : Int32), Rel S M → ∃ o o', fX7_felt N S.1.2.1 S.1.2.2.1 S.1.2.2.2.2.1 S.1.2.2.2.2.2.1 S.1.2.2.2.2.2.2.2.1 S.1.2.2.2.2.2.2.2.2.2.2.1 S.2.2.2.2.2.2.2.2.2.1 S.2.2.2.2.2.2.2.2.2.2.1 S.2.2.2.2.2.2.2.2.2.2.2 y0 y1 y2 y3 y4 = some o ∧ fX8_felt N M.2.2.2.2.2.2.2.2.2.1 M.2.2.2.2.2.2.2.2.2.2.1 M.2.2.2.2.2.2.2.2.2.2.2.1 M.2.2.2.2.2.2.2.2.2.2.2.2.1 y0 y1 y2 y3 y4 = some o' ∧ o = o' ∧ Rel S M
set_option maxHeartbeats 4000000 in
set_option maxRecDepth 100000 in
theorem lawc_felt {E : Ev} {K : KX} (k : OKX E K cL_law RL 4 room_1) {b L : Nat} {xs : Nat → Int32} (X : LX K b L xs) (N : Nat) {Rel : BV → MMV → Prop} (hsim : Simfelt N Rel) (ad bd : Nat → Nat → Nat) {ce sl : Nat} (hce : ce ≤ room_1.cells ∧ sl ≤ room_1.slots) (S : BV) (M : MMV) (hR : Rel S M) (x3 : Int32) (t : Nat) (hx : x3 = nI t) (ht : t + 6 ≤ L) (hL : L ≤ 384) (next : ∀ S M, Rel S M → G E K 4 ce sl [(0, .ref b), (1, .ref (ad 0 0)), (2, .ref (bd 0 0)), (3, .int x3)] [] (LW E ad bd S M) 1384) : G E K 4 ce sl [(0, .ref b), (1, .ref (ad 0 0)), (2, .ref (bd 0 0)), (3, .int x3)] [] (LW E ad bd S M) 1046 := by
  obtain ⟨o, o', ho, ho', hq, hRn⟩ := hsim S M (xs (t + 1)) (xs (t + 2)) (xs (t + 3)) (xs (t + 4)) (xs (t + 5)) hR
  refine g_aload_n k 1 dL_law_1046 rfl rfl ?_
  refine g_aload_n k 0 dL_law_1047 rfl rfl ?_
  refine g_iload_n k 3 dL_law_1048 rfl rfl ?_
  refine g_iconst k dL_law_1049 ic_1 ?_
  refine g_iadd k dL_law_1050 ?_
  refine g_sld k X dL_law_1051 (sc_ix hx ht hL 1 (by decide)).1 (sc_ix hx ht hL 1 (by decide)).2 ?_
  refine g_aload_n k 0 dL_law_1052 rfl rfl ?_
  refine g_iload_n k 3 dL_law_1053 rfl rfl ?_
  refine g_iconst k dL_law_1054 ic_2 ?_
  refine g_iadd k dL_law_1055 ?_
  refine g_sld k X dL_law_1056 (sc_ix hx ht hL 2 (by decide)).1 (sc_ix hx ht hL 2 (by decide)).2 ?_
  refine g_aload_n k 0 dL_law_1057 rfl rfl ?_
  refine g_iload_n k 3 dL_law_1058 rfl rfl ?_
  refine g_iconst k dL_law_1059 ic_3 ?_
  refine g_iadd k dL_law_1060 ?_
  refine g_sld k X dL_law_1061 (sc_ix hx ht hL 3 (by decide)).1 (sc_ix hx ht hL 3 (by decide)).2 ?_
  refine g_aload_n k 0 dL_law_1062 rfl rfl ?_
  refine g_iload_n k 3 dL_law_1063 rfl rfl ?_
  refine g_iconst k dL_law_1064 ic_4 ?_
  refine g_iadd k dL_law_1065 ?_
  refine g_sld k X dL_law_1066 (sc_ix hx ht hL 4 (by decide)).1 (sc_ix hx ht hL 4 (by decide)).2 ?_
  refine g_aload_n k 0 dL_law_1067 rfl rfl ?_
  refine g_iload_n k 3 dL_law_1068 rfl rfl ?_
  refine g_iconst k dL_law_1069 ic_5 ?_
  refine g_iadd k dL_law_1070 ?_
  refine g_sld k X dL_law_1071 (sc_ix hx ht hL 5 (by decide)).1 (sc_ix hx ht hL 5 (by decide)).2 ?_
  refine g_cv k miX7_felt mvX7_felt (ctX7_felt (kL K) E N (ad 0 0) (ad 1 0) (ad 8 0) (ad 14 0) (ad 21 0) (ad 27 0) (ad 36 0) (ad 42 0) (ad 50 0) (ad 2 0) (ad 3 0) (ad 4 0) (ad 5 0) (ad 6 0) (ad 7 0) (ad 51) (ad 52) S.2.2.2.2.1 S.1.1 S.1.2.1 S.1.2.2.1 S.1.2.2.2.1 S.1.2.2.2.2.1 S.1.2.2.2.2.2.1 S.1.2.2.2.2.2.2.1 S.1.2.2.2.2.2.2.2.1 S.1.2.2.2.2.2.2.2.2.1 S.1.2.2.2.2.2.2.2.2.2.2.1 S.2.2.2.2.2.2.2.2.2.1 S.2.2.2.2.2.2.2.2.2.2.1 S.2.2.2.2.2.2.2.2.2.2.2 (xs (t + 1)) (xs (t + 2)) (xs (t + 3)) (xs (t + 4)) (xs (t + 5)) o ho) [0, 1, 2, 3, 4, 6, 126, 127, 128, 129, 130, 131, 132, 133, 134] 0 (ws' := LW E ad bd S M) dL_law_1072 lkL_145 rfl ⟨rfl, rfl⟩ hce rfl rfl rfl rfl (Nat.le_of_ble_eq_true rfl) rfl rfl rfl ?_
  refine g_st (st' := [.int o]) rfl ?_
  refine g_aload_n k 2 dL_law_1075 rfl rfl ?_
  refine g_aload_n k 0 dL_law_1076 rfl rfl ?_
  refine g_iload_n k 3 dL_law_1077 rfl rfl ?_
  refine g_iconst k dL_law_1078 ic_1 ?_
  refine g_iadd k dL_law_1079 ?_
  refine g_sld k X dL_law_1080 (sc_ix hx ht hL 1 (by decide)).1 (sc_ix hx ht hL 1 (by decide)).2 ?_
  refine g_aload_n k 0 dL_law_1081 rfl rfl ?_
  refine g_iload_n k 3 dL_law_1082 rfl rfl ?_
  refine g_iconst k dL_law_1083 ic_2 ?_
  refine g_iadd k dL_law_1084 ?_
  refine g_sld k X dL_law_1085 (sc_ix hx ht hL 2 (by decide)).1 (sc_ix hx ht hL 2 (by decide)).2 ?_
  refine g_aload_n k 0 dL_law_1086 rfl rfl ?_
  refine g_iload_n k 3 dL_law_1087 rfl rfl ?_
  refine g_iconst k dL_law_1088 ic_3 ?_
  refine g_iadd k dL_law_1089 ?_
  refine g_sld k X dL_law_1090 (sc_ix hx ht hL 3 (by decide)).1 (sc_ix hx ht hL 3 (by decide)).2 ?_
  refine g_aload_n k 0 dL_law_1091 rfl rfl ?_
  refine g_iload_n k 3 dL_law_1092 rfl rfl ?_
  refine g_iconst k dL_law_1093 ic_4 ?_
  refine g_iadd k dL_law_1094 ?_
  refine g_sld k X dL_law_1095 (sc_ix hx ht hL 4 (by decide)).1 (sc_ix hx ht hL 4 (by decide)).2 ?_
  refine g_aload_n k 0 dL_law_1096 rfl rfl ?_
  refine g_iload_n k 3 dL_law_1097 rfl rfl ?_
  refine g_iconst k dL_law_1098 ic_5 ?_
  refine g_iadd k dL_law_1099 ?_
  refine g_sld k X dL_law_1100 (sc_ix hx ht hL 5 (by decide)).1 (sc_ix hx ht hL 5 (by decide)).2 ?_
  refine g_cv k miX8_felt mvX8_felt (ctX8_felt (kL K) E N (bd 0 0) (bd 1 0) (bd 2 0) (bd 3 0) (bd 4 0) (bd 5 0) (bd 6 0) (bd 7 0) (bd 8 0) (bd 9 0) (bd 10 0) (bd 11 0) (bd 12 0) M.1 M.2.1 M.2.2.1 M.2.2.2.1 M.2.2.2.2.1 M.2.2.2.2.2.1 M.2.2.2.2.2.2.1 M.2.2.2.2.2.2.2.1 M.2.2.2.2.2.2.2.2.1 M.2.2.2.2.2.2.2.2.2.1 M.2.2.2.2.2.2.2.2.2.2.1 M.2.2.2.2.2.2.2.2.2.2.2.1 M.2.2.2.2.2.2.2.2.2.2.2.2.1 (xs (t + 1)) (xs (t + 2)) (xs (t + 3)) (xs (t + 4)) (xs (t + 5)) o' ho') [135, 136, 137, 138, 139] 0 (ws' := LW E ad bd S M) dL_law_1101 lkL_149 rfl ⟨rfl, rfl⟩ hce rfl rfl rfl rfl (Nat.le_of_ble_eq_true rfl) rfl rfl rfl ?_
  refine g_st (st' := [.int o', .int o]) rfl ?_
  exact g_icmp_eq k (tgt := 1384) dL_law_1104 (by decide) (fun _ => next _ _ hRn) (fun c => absurd hq c)
def bsX7_film (S : BV) (o : Int32 × (Nat → Nat → Int64)) : BV := (S.1, S.2.1, S.2.2.1, S.2.2.2.1, S.2.2.2.2.1, S.2.2.2.2.2.1, S.2.2.2.2.2.2.1, S.2.2.2.2.2.2.2.1, S.2.2.2.2.2.2.2.2.1, (S.2.2.2.2.2.2.2.2.2.1, S.2.2.2.2.2.2.2.2.2.2.1, o.2))
def msX8_film (M : MMV) (o : Int32 × (Nat → Int64)) : MMV := (M.1, M.2.1, M.2.2.1, M.2.2.2.1, M.2.2.2.2.1, M.2.2.2.2.2.1, M.2.2.2.2.2.2.1, M.2.2.2.2.2.2.2.1, M.2.2.2.2.2.2.2.2.1, M.2.2.2.2.2.2.2.2.2.1, M.2.2.2.2.2.2.2.2.2.2.1, M.2.2.2.2.2.2.2.2.2.2.2.1, o.2, M.2.2.2.2.2.2.2.2.2.2.2.2.2.1, M.2.2.2.2.2.2.2.2.2.2.2.2.2.2.1, M.2.2.2.2.2.2.2.2.2.2.2.2.2.2.2.1, M.2.2.2.2.2.2.2.2.2.2.2.2.2.2.2.2.1, M.2.2.2.2.2.2.2.2.2.2.2.2.2.2.2.2.2.1, M.2.2.2.2.2.2.2.2.2.2.2.2.2.2.2.2.2.2.1, M.2.2.2.2.2.2.2.2.2.2.2.2.2.2.2.2.2.2.2.1, M.2.2.2.2.2.2.2.2.2.2.2.2.2.2.2.2.2.2.2.2)
/-- X7_film and X8_film keep step -/
def Simfilm (N : Nat) (Rel : BV → MMV → Prop) : Prop := ∀ (S : BV) (M : MMV) (y0 : Int32) (y1 : Int32) (y2 : Int32) (y3 : Int32) (y4 : Int32), Rel S M → ∃ o o', fX7_film N S.1.1 S.1.2.2.2.2.2.2.2.2.2.1 S.2.2.2.2.2.2.2.2.2.1 S.2.2.2.2.2.2.2.2.2.2.1 S.2.2.2.2.2.2.2.2.2.2.2 y0 y1 y2 y3 y4 = some o ∧ fX8_film N M.2.2.2.2.2.2.2.2.2.1 M.2.2.2.2.2.2.2.2.2.2.1 M.2.2.2.2.2.2.2.2.2.2.2.1 M.2.2.2.2.2.2.2.2.2.2.2.2.1 y0 y1 y2 y3 y4 = some o' ∧ o.1 = o'.1 ∧ Rel (bsX7_film S o) (msX8_film M o')
set_option maxHeartbeats 4000000 in
set_option maxRecDepth 100000 in
theorem lawc_film {E : Ev} {K : KX} (k : OKX E K cL_law RL 4 room_1) {b L : Nat} {xs : Nat → Int32} (X : LX K b L xs) (N : Nat) {Rel : BV → MMV → Prop} (hsim : Simfilm N Rel) (ad bd : Nat → Nat → Nat) {ce sl : Nat} (hce : ce ≤ room_1.cells ∧ sl ≤ room_1.slots) (S : BV) (M : MMV) (hR : Rel S M) (x3 : Int32) (t : Nat) (hx : x3 = nI t) (ht : t + 6 ≤ L) (hL : L ≤ 384) (next : ∀ S M, Rel S M → G E K 4 ce sl [(0, .ref b), (1, .ref (ad 0 0)), (2, .ref (bd 0 0)), (3, .int x3)] [] (LW E ad bd S M) 1384) : G E K 4 ce sl [(0, .ref b), (1, .ref (ad 0 0)), (2, .ref (bd 0 0)), (3, .int x3)] [] (LW E ad bd S M) 1109 := by
  obtain ⟨o, o', ho, ho', hq, hRn⟩ := hsim S M (xs (t + 1)) (xs (t + 2)) (xs (t + 3)) (xs (t + 4)) (xs (t + 5)) hR
  refine g_aload_n k 1 dL_law_1109 rfl rfl ?_
  refine g_aload_n k 0 dL_law_1110 rfl rfl ?_
  refine g_iload_n k 3 dL_law_1111 rfl rfl ?_
  refine g_iconst k dL_law_1112 ic_1 ?_
  refine g_iadd k dL_law_1113 ?_
  refine g_sld k X dL_law_1114 (sc_ix hx ht hL 1 (by decide)).1 (sc_ix hx ht hL 1 (by decide)).2 ?_
  refine g_aload_n k 0 dL_law_1115 rfl rfl ?_
  refine g_iload_n k 3 dL_law_1116 rfl rfl ?_
  refine g_iconst k dL_law_1117 ic_2 ?_
  refine g_iadd k dL_law_1118 ?_
  refine g_sld k X dL_law_1119 (sc_ix hx ht hL 2 (by decide)).1 (sc_ix hx ht hL 2 (by decide)).2 ?_
  refine g_aload_n k 0 dL_law_1120 rfl rfl ?_
  refine g_iload_n k 3 dL_law_1121 rfl rfl ?_
  refine g_iconst k dL_law_1122 ic_3 ?_
  refine g_iadd k dL_law_1123 ?_
  refine g_sld k X dL_law_1124 (sc_ix hx ht hL 3 (by decide)).1 (sc_ix hx ht hL 3 (by decide)).2 ?_
  refine g_aload_n k 0 dL_law_1125 rfl rfl ?_
  refine g_iload_n k 3 dL_law_1126 rfl rfl ?_
  refine g_iconst k dL_law_1127 ic_4 ?_
  refine g_iadd k dL_law_1128 ?_
  refine g_sld k X dL_law_1129 (sc_ix hx ht hL 4 (by decide)).1 (sc_ix hx ht hL 4 (by decide)).2 ?_
  refine g_aload_n k 0 dL_law_1130 rfl rfl ?_
  refine g_iload_n k 3 dL_law_1131 rfl rfl ?_
  refine g_iconst k dL_law_1132 ic_5 ?_
  refine g_iadd k dL_law_1133 ?_
  refine g_sld k X dL_law_1134 (sc_ix hx ht hL 5 (by decide)).1 (sc_ix hx ht hL 5 (by decide)).2 ?_
  refine g_cv k miX7_film mvX7_film (ctX7_film (kL K) E N (ad 0 0) (ad 1 0) (ad 8 0) (ad 14 0) (ad 21 0) (ad 27 0) (ad 36 0) (ad 42 0) (ad 50 0) (ad 2 0) (ad 3 0) (ad 4 0) (ad 5 0) (ad 6 0) (ad 7 0) (ad 51) (ad 52) S.2.2.2.2.1 S.1.1 S.1.2.1 S.1.2.2.1 S.1.2.2.2.1 S.1.2.2.2.2.2.2.1 S.1.2.2.2.2.2.2.2.1 S.1.2.2.2.2.2.2.2.2.1 S.1.2.2.2.2.2.2.2.2.2.1 S.2.2.2.2.2.2.2.2.2.1 S.2.2.2.2.2.2.2.2.2.2.1 S.2.2.2.2.2.2.2.2.2.2.2 (xs (t + 1)) (xs (t + 2)) (xs (t + 3)) (xs (t + 4)) (xs (t + 5)) o ho) [0, 1, 4, 5, 126, 127, 128, 129, 130, 131, 132, 133, 134] 0 (ws' := LW E ad bd (bsX7_film S o) M) dL_law_1135 lkL_150 rfl ⟨rfl, rfl⟩ hce rfl rfl rfl rfl (Nat.le_of_ble_eq_true rfl) rfl rfl rfl ?_
  refine g_st (st' := [.int o.1]) rfl ?_
  refine g_aload_n k 2 dL_law_1138 rfl rfl ?_
  refine g_aload_n k 0 dL_law_1139 rfl rfl ?_
  refine g_iload_n k 3 dL_law_1140 rfl rfl ?_
  refine g_iconst k dL_law_1141 ic_1 ?_
  refine g_iadd k dL_law_1142 ?_
  refine g_sld k X dL_law_1143 (sc_ix hx ht hL 1 (by decide)).1 (sc_ix hx ht hL 1 (by decide)).2 ?_
  refine g_aload_n k 0 dL_law_1144 rfl rfl ?_
  refine g_iload_n k 3 dL_law_1145 rfl rfl ?_
  refine g_iconst k dL_law_1146 ic_2 ?_
  refine g_iadd k dL_law_1147 ?_
  refine g_sld k X dL_law_1148 (sc_ix hx ht hL 2 (by decide)).1 (sc_ix hx ht hL 2 (by decide)).2 ?_
  refine g_aload_n k 0 dL_law_1149 rfl rfl ?_
  refine g_iload_n k 3 dL_law_1150 rfl rfl ?_
  refine g_iconst k dL_law_1151 ic_3 ?_
  refine g_iadd k dL_law_1152 ?_
  refine g_sld k X dL_law_1153 (sc_ix hx ht hL 3 (by decide)).1 (sc_ix hx ht hL 3 (by decide)).2 ?_
  refine g_aload_n k 0 dL_law_1154 rfl rfl ?_
  refine g_iload_n k 3 dL_law_1155 rfl rfl ?_
  refine g_iconst k dL_law_1156 ic_4 ?_
  refine g_iadd k dL_law_1157 ?_
  refine g_sld k X dL_law_1158 (sc_ix hx ht hL 4 (by decide)).1 (sc_ix hx ht hL 4 (by decide)).2 ?_
  refine g_aload_n k 0 dL_law_1159 rfl rfl ?_
  refine g_iload_n k 3 dL_law_1160 rfl rfl ?_
  refine g_iconst k dL_law_1161 ic_5 ?_
  refine g_iadd k dL_law_1162 ?_
  refine g_sld k X dL_law_1163 (sc_ix hx ht hL 5 (by decide)).1 (sc_ix hx ht hL 5 (by decide)).2 ?_
  refine g_cv k miX8_film mvX8_film (ctX8_film (kL K) E N (bd 0 0) (bd 1 0) (bd 2 0) (bd 3 0) (bd 4 0) (bd 5 0) (bd 6 0) (bd 7 0) (bd 8 0) (bd 9 0) (bd 10 0) (bd 11 0) (bd 12 0) M.1 M.2.1 M.2.2.1 M.2.2.2.1 M.2.2.2.2.1 M.2.2.2.2.2.1 M.2.2.2.2.2.2.1 M.2.2.2.2.2.2.2.1 M.2.2.2.2.2.2.2.2.1 M.2.2.2.2.2.2.2.2.2.1 M.2.2.2.2.2.2.2.2.2.2.1 M.2.2.2.2.2.2.2.2.2.2.2.1 M.2.2.2.2.2.2.2.2.2.2.2.2.1 (xs (t + 1)) (xs (t + 2)) (xs (t + 3)) (xs (t + 4)) (xs (t + 5)) o' ho') [135, 136, 137, 138, 139] 0 (ws' := LW E ad bd (bsX7_film S o) (msX8_film M o')) dL_law_1164 lkL_153 rfl ⟨rfl, rfl⟩ hce rfl rfl rfl rfl (Nat.le_of_ble_eq_true rfl) rfl rfl rfl ?_
  refine g_st (st' := [.int o'.1, .int o.1]) rfl ?_
  exact g_icmp_eq k (tgt := 1384) dL_law_1167 (by decide) (fun _ => next _ _ hRn) (fun c => absurd hq c)
def bsX7_sheet (S : BV) (o : Int32 × (Nat → Int32) × (Nat → Int32) × (Nat → Nat → Int64)) : BV := (S.1, S.2.1, S.2.2.1, S.2.2.2.1, S.2.2.2.2.1, S.2.2.2.2.2.1, S.2.2.2.2.2.2.1, S.2.2.2.2.2.2.2.1, S.2.2.2.2.2.2.2.2.1, (o.2.1, o.2.2.1, o.2.2.2))
def msX8_sheet (M : MMV) (o : Int32 × (Nat → Int32) × (Nat → Int32) × (Nat → Int64)) : MMV := (M.1, M.2.1, M.2.2.1, M.2.2.2.1, M.2.2.2.2.1, M.2.2.2.2.2.1, M.2.2.2.2.2.2.1, M.2.2.2.2.2.2.2.1, M.2.2.2.2.2.2.2.2.1, M.2.2.2.2.2.2.2.2.2.1, o.2.1, o.2.2.1, o.2.2.2, M.2.2.2.2.2.2.2.2.2.2.2.2.2.1, M.2.2.2.2.2.2.2.2.2.2.2.2.2.2.1, M.2.2.2.2.2.2.2.2.2.2.2.2.2.2.2.1, M.2.2.2.2.2.2.2.2.2.2.2.2.2.2.2.2.1, M.2.2.2.2.2.2.2.2.2.2.2.2.2.2.2.2.2.1, M.2.2.2.2.2.2.2.2.2.2.2.2.2.2.2.2.2.2.1, M.2.2.2.2.2.2.2.2.2.2.2.2.2.2.2.2.2.2.2.1, M.2.2.2.2.2.2.2.2.2.2.2.2.2.2.2.2.2.2.2.2)
/-- X7_sheet and X8_sheet keep step -/
def Simsheet (N : Nat) (Rel : BV → MMV → Prop) : Prop := ∀ (S : BV) (M : MMV) (y0 : Int32) (y1 : Int32) (y2 : Int32), Rel S M → ∃ o o', fX7_sheet N S.2.2.2.2.2.2.2.2.2.1 S.2.2.2.2.2.2.2.2.2.2.1 S.2.2.2.2.2.2.2.2.2.2.2 y0 y1 y2 = some o ∧ fX8_sheet N M.2.2.2.2.2.2.2.2.2.2.1 M.2.2.2.2.2.2.2.2.2.2.2.1 M.2.2.2.2.2.2.2.2.2.2.2.2.1 y0 y1 y2 = some o' ∧ o.1 = o'.1 ∧ Rel (bsX7_sheet S o) (msX8_sheet M o')
set_option maxHeartbeats 4000000 in
set_option maxRecDepth 100000 in
theorem lawc_sheet {E : Ev} {K : KX} (k : OKX E K cL_law RL 4 room_1) {b L : Nat} {xs : Nat → Int32} (X : LX K b L xs) (N : Nat) {Rel : BV → MMV → Prop} (hsim : Simsheet N Rel) (ad bd : Nat → Nat → Nat) {ce sl : Nat} (hce : ce ≤ room_1.cells ∧ sl ≤ room_1.slots) (S : BV) (M : MMV) (hR : Rel S M) (x3 : Int32) (t : Nat) (hx : x3 = nI t) (ht : t + 6 ≤ L) (hL : L ≤ 384) (next : ∀ S M, Rel S M → G E K 4 ce sl [(0, .ref b), (1, .ref (ad 0 0)), (2, .ref (bd 0 0)), (3, .int x3)] [] (LW E ad bd S M) 1384) : G E K 4 ce sl [(0, .ref b), (1, .ref (ad 0 0)), (2, .ref (bd 0 0)), (3, .int x3)] [] (LW E ad bd S M) 1172 := by
  obtain ⟨o, o', ho, ho', hq, hRn⟩ := hsim S M (xs (t + 1)) (xs (t + 2)) (xs (t + 3)) hR
  refine g_aload_n k 1 dL_law_1172 rfl rfl ?_
  refine g_aload_n k 0 dL_law_1173 rfl rfl ?_
  refine g_iload_n k 3 dL_law_1174 rfl rfl ?_
  refine g_iconst k dL_law_1175 ic_1 ?_
  refine g_iadd k dL_law_1176 ?_
  refine g_sld k X dL_law_1177 (sc_ix hx ht hL 1 (by decide)).1 (sc_ix hx ht hL 1 (by decide)).2 ?_
  refine g_aload_n k 0 dL_law_1178 rfl rfl ?_
  refine g_iload_n k 3 dL_law_1179 rfl rfl ?_
  refine g_iconst k dL_law_1180 ic_2 ?_
  refine g_iadd k dL_law_1181 ?_
  refine g_sld k X dL_law_1182 (sc_ix hx ht hL 2 (by decide)).1 (sc_ix hx ht hL 2 (by decide)).2 ?_
  refine g_aload_n k 0 dL_law_1183 rfl rfl ?_
  refine g_iload_n k 3 dL_law_1184 rfl rfl ?_
  refine g_iconst k dL_law_1185 ic_3 ?_
  refine g_iadd k dL_law_1186 ?_
  refine g_sld k X dL_law_1187 (sc_ix hx ht hL 3 (by decide)).1 (sc_ix hx ht hL 3 (by decide)).2 ?_
  refine g_cv k miX7_sheet mvX7_sheet (ctX7_sheet (kL K) E N (ad 0 0) (ad 1 0) (ad 8 0) (ad 14 0) (ad 21 0) (ad 27 0) (ad 36 0) (ad 42 0) (ad 50 0) (ad 51) (ad 52) S.2.2.2.2.1 S.2.2.2.2.2.2.2.2.2.1 S.2.2.2.2.2.2.2.2.2.2.1 S.2.2.2.2.2.2.2.2.2.2.2 (xs (t + 1)) (xs (t + 2)) (xs (t + 3)) o ho) [0, 126, 127, 128, 129, 130, 131, 132, 133, 134] 0 (ws' := LW E ad bd (bsX7_sheet S o) M) dL_law_1188 lkL_154 rfl ⟨rfl, rfl⟩ hce rfl rfl rfl rfl (Nat.le_of_ble_eq_true rfl) rfl rfl rfl ?_
  refine g_st (st' := [.int o.1]) rfl ?_
  refine g_aload_n k 2 dL_law_1191 rfl rfl ?_
  refine g_aload_n k 0 dL_law_1192 rfl rfl ?_
  refine g_iload_n k 3 dL_law_1193 rfl rfl ?_
  refine g_iconst k dL_law_1194 ic_1 ?_
  refine g_iadd k dL_law_1195 ?_
  refine g_sld k X dL_law_1196 (sc_ix hx ht hL 1 (by decide)).1 (sc_ix hx ht hL 1 (by decide)).2 ?_
  refine g_aload_n k 0 dL_law_1197 rfl rfl ?_
  refine g_iload_n k 3 dL_law_1198 rfl rfl ?_
  refine g_iconst k dL_law_1199 ic_2 ?_
  refine g_iadd k dL_law_1200 ?_
  refine g_sld k X dL_law_1201 (sc_ix hx ht hL 2 (by decide)).1 (sc_ix hx ht hL 2 (by decide)).2 ?_
  refine g_aload_n k 0 dL_law_1202 rfl rfl ?_
  refine g_iload_n k 3 dL_law_1203 rfl rfl ?_
  refine g_iconst k dL_law_1204 ic_3 ?_
  refine g_iadd k dL_law_1205 ?_
  refine g_sld k X dL_law_1206 (sc_ix hx ht hL 3 (by decide)).1 (sc_ix hx ht hL 3 (by decide)).2 ?_
  refine g_cv k miX8_sheet mvX8_sheet (ctX8_sheet (kL K) E N (bd 0 0) (bd 1 0) (bd 2 0) (bd 3 0) (bd 4 0) (bd 5 0) (bd 6 0) (bd 7 0) (bd 8 0) (bd 9 0) (bd 10 0) (bd 11 0) (bd 12 0) M.1 M.2.1 M.2.2.1 M.2.2.2.1 M.2.2.2.2.1 M.2.2.2.2.2.1 M.2.2.2.2.2.2.1 M.2.2.2.2.2.2.2.1 M.2.2.2.2.2.2.2.2.1 M.2.2.2.2.2.2.2.2.2.2.1 M.2.2.2.2.2.2.2.2.2.2.2.1 M.2.2.2.2.2.2.2.2.2.2.2.2.1 (xs (t + 1)) (xs (t + 2)) (xs (t + 3)) o' ho') [135, 137, 138, 139] 0 (ws' := LW E ad bd (bsX7_sheet S o) (msX8_sheet M o')) dL_law_1207 lkL_157 rfl ⟨rfl, rfl⟩ hce rfl rfl rfl rfl (Nat.le_of_ble_eq_true rfl) rfl rfl rfl ?_
  refine g_st (st' := [.int o'.1, .int o.1]) rfl ?_
  exact g_icmp_eq k (tgt := 1384) dL_law_1210 (by decide) (fun _ => next _ _ hRn) (fun c => absurd hq c)
def bsX7_drop (S : BV) (o : Int32 × (Nat → Int32)) : BV := (S.1, S.2.1, S.2.2.1, S.2.2.2.1, S.2.2.2.2.1, S.2.2.2.2.2.1, S.2.2.2.2.2.2.1, S.2.2.2.2.2.2.2.1, S.2.2.2.2.2.2.2.2.1, (S.2.2.2.2.2.2.2.2.2.1, o.2, S.2.2.2.2.2.2.2.2.2.2.2))
def msX8_drop (M : MMV) (o : Int32 × (Nat → Int32)) : MMV := (M.1, M.2.1, M.2.2.1, M.2.2.2.1, M.2.2.2.2.1, M.2.2.2.2.2.1, M.2.2.2.2.2.2.1, M.2.2.2.2.2.2.2.1, M.2.2.2.2.2.2.2.2.1, M.2.2.2.2.2.2.2.2.2.1, M.2.2.2.2.2.2.2.2.2.2.1, o.2, M.2.2.2.2.2.2.2.2.2.2.2.2.1, M.2.2.2.2.2.2.2.2.2.2.2.2.2.1, M.2.2.2.2.2.2.2.2.2.2.2.2.2.2.1, M.2.2.2.2.2.2.2.2.2.2.2.2.2.2.2.1, M.2.2.2.2.2.2.2.2.2.2.2.2.2.2.2.2.1, M.2.2.2.2.2.2.2.2.2.2.2.2.2.2.2.2.2.1, M.2.2.2.2.2.2.2.2.2.2.2.2.2.2.2.2.2.2.1, M.2.2.2.2.2.2.2.2.2.2.2.2.2.2.2.2.2.2.2.1, M.2.2.2.2.2.2.2.2.2.2.2.2.2.2.2.2.2.2.2.2)
/-- X7_drop and X8_drop keep step -/
def Simdrop (N : Nat) (Rel : BV → MMV → Prop) : Prop := ∀ (S : BV) (M : MMV) (y0 : Int32), Rel S M → ∃ o o', fX7_drop N S.2.2.2.2.2.2.2.2.2.2.1 y0 = some o ∧ fX8_drop N M.2.2.2.2.2.2.2.2.2.2.2.1 y0 = some o' ∧ o.1 = o'.1 ∧ Rel (bsX7_drop S o) (msX8_drop M o')
set_option maxHeartbeats 4000000 in
set_option maxRecDepth 100000 in
theorem lawc_drop {E : Ev} {K : KX} (k : OKX E K cL_law RL 4 room_1) {b L : Nat} {xs : Nat → Int32} (X : LX K b L xs) (N : Nat) {Rel : BV → MMV → Prop} (hsim : Simdrop N Rel) (ad bd : Nat → Nat → Nat) {ce sl : Nat} (hce : ce ≤ room_1.cells ∧ sl ≤ room_1.slots) (S : BV) (M : MMV) (hR : Rel S M) (x3 : Int32) (t : Nat) (hx : x3 = nI t) (ht : t + 6 ≤ L) (hL : L ≤ 384) (next : ∀ S M, Rel S M → G E K 4 ce sl [(0, .ref b), (1, .ref (ad 0 0)), (2, .ref (bd 0 0)), (3, .int x3)] [] (LW E ad bd S M) 1384) : G E K 4 ce sl [(0, .ref b), (1, .ref (ad 0 0)), (2, .ref (bd 0 0)), (3, .int x3)] [] (LW E ad bd S M) 1215 := by
  obtain ⟨o, o', ho, ho', hq, hRn⟩ := hsim S M (xs (t + 1)) hR
  refine g_aload_n k 1 dL_law_1215 rfl rfl ?_
  refine g_aload_n k 0 dL_law_1216 rfl rfl ?_
  refine g_iload_n k 3 dL_law_1217 rfl rfl ?_
  refine g_iconst k dL_law_1218 ic_1 ?_
  refine g_iadd k dL_law_1219 ?_
  refine g_sld k X dL_law_1220 (sc_ix hx ht hL 1 (by decide)).1 (sc_ix hx ht hL 1 (by decide)).2 ?_
  refine g_cv k miX7_drop mvX7_drop (ctX7_drop (kL K) E N (ad 0 0) (ad 1 0) (ad 8 0) (ad 14 0) (ad 21 0) (ad 27 0) (ad 36 0) (ad 42 0) (ad 50 0) (ad 51) (ad 52) S.2.2.2.2.1 S.2.2.2.2.2.2.2.2.2.1 S.2.2.2.2.2.2.2.2.2.2.1 (xs (t + 1)) o ho) [0, 126, 127, 129, 131, 133] 0 (ws' := LW E ad bd (bsX7_drop S o) M) dL_law_1221 lkL_158 rfl ⟨rfl, rfl⟩ hce rfl rfl rfl rfl (Nat.le_of_ble_eq_true rfl) rfl rfl rfl ?_
  refine g_st (st' := [.int o.1]) rfl ?_
  refine g_aload_n k 2 dL_law_1224 rfl rfl ?_
  refine g_aload_n k 0 dL_law_1225 rfl rfl ?_
  refine g_iload_n k 3 dL_law_1226 rfl rfl ?_
  refine g_iconst k dL_law_1227 ic_1 ?_
  refine g_iadd k dL_law_1228 ?_
  refine g_sld k X dL_law_1229 (sc_ix hx ht hL 1 (by decide)).1 (sc_ix hx ht hL 1 (by decide)).2 ?_
  refine g_cv k miX8_drop mvX8_drop (ctX8_drop (kL K) E N (bd 0 0) (bd 1 0) (bd 2 0) (bd 3 0) (bd 4 0) (bd 5 0) (bd 6 0) (bd 7 0) (bd 8 0) (bd 9 0) (bd 10 0) (bd 11 0) (bd 12 0) M.1 M.2.1 M.2.2.1 M.2.2.2.1 M.2.2.2.2.1 M.2.2.2.2.2.1 M.2.2.2.2.2.2.1 M.2.2.2.2.2.2.2.1 M.2.2.2.2.2.2.2.2.1 M.2.2.2.2.2.2.2.2.2.2.2.1 (xs (t + 1)) o' ho') [135, 138] 0 (ws' := LW E ad bd (bsX7_drop S o) (msX8_drop M o')) dL_law_1230 lkL_161 rfl ⟨rfl, rfl⟩ hce rfl rfl rfl rfl (Nat.le_of_ble_eq_true rfl) rfl rfl rfl ?_
  refine g_st (st' := [.int o'.1, .int o.1]) rfl ?_
  exact g_icmp_eq k (tgt := 1384) dL_law_1233 (by decide) (fun _ => next _ _ hRn) (fun c => absurd hq c)
def bsX7_item (S : BV) (o : Int32 × (Nat → Nat → Int64)) : BV := (S.1, S.2.1, S.2.2.1, S.2.2.2.1, S.2.2.2.2.1, S.2.2.2.2.2.1, S.2.2.2.2.2.2.1, S.2.2.2.2.2.2.2.1, S.2.2.2.2.2.2.2.2.1, (S.2.2.2.2.2.2.2.2.2.1, S.2.2.2.2.2.2.2.2.2.2.1, o.2))
def msX8_item (M : MMV) (o : Int32 × (Nat → Int64)) : MMV := (M.1, M.2.1, M.2.2.1, M.2.2.2.1, M.2.2.2.2.1, M.2.2.2.2.2.1, M.2.2.2.2.2.2.1, M.2.2.2.2.2.2.2.1, M.2.2.2.2.2.2.2.2.1, M.2.2.2.2.2.2.2.2.2.1, M.2.2.2.2.2.2.2.2.2.2.1, M.2.2.2.2.2.2.2.2.2.2.2.1, o.2, M.2.2.2.2.2.2.2.2.2.2.2.2.2.1, M.2.2.2.2.2.2.2.2.2.2.2.2.2.2.1, M.2.2.2.2.2.2.2.2.2.2.2.2.2.2.2.1, M.2.2.2.2.2.2.2.2.2.2.2.2.2.2.2.2.1, M.2.2.2.2.2.2.2.2.2.2.2.2.2.2.2.2.2.1, M.2.2.2.2.2.2.2.2.2.2.2.2.2.2.2.2.2.2.1, M.2.2.2.2.2.2.2.2.2.2.2.2.2.2.2.2.2.2.2.1, M.2.2.2.2.2.2.2.2.2.2.2.2.2.2.2.2.2.2.2.2)
/-- X7_item and X8_item keep step -/
def Simitem (N : Nat) (Rel : BV → MMV → Prop) : Prop := ∀ (S : BV) (M : MMV) (y0 : Int32) (y1 : Int32) (y2 : Int32) (y3 : Int64), Rel S M → ∃ o o', fX7_item N S.2.2.2.2.2.2.2.2.2.1 S.2.2.2.2.2.2.2.2.2.2.1 S.2.2.2.2.2.2.2.2.2.2.2 y0 y1 y2 y3 = some o ∧ fX8_item N M.2.2.2.2.2.2.2.2.2.2.1 M.2.2.2.2.2.2.2.2.2.2.2.1 M.2.2.2.2.2.2.2.2.2.2.2.2.1 y0 y1 y2 y3 = some o' ∧ o.1 = o'.1 ∧ Rel (bsX7_item S o) (msX8_item M o')
set_option maxHeartbeats 4000000 in
set_option maxRecDepth 100000 in
theorem lawc_item {E : Ev} {K : KX} (k : OKX E K cL_law RL 4 room_1) {b L : Nat} {xs : Nat → Int32} (X : LX K b L xs) (N : Nat) {Rel : BV → MMV → Prop} (hsim : Simitem N Rel) (ad bd : Nat → Nat → Nat) {ce sl : Nat} (hce : ce ≤ room_1.cells ∧ sl ≤ room_1.slots) (S : BV) (M : MMV) (hR : Rel S M) (x3 : Int32) (t : Nat) (hx : x3 = nI t) (ht : t + 6 ≤ L) (hL : L ≤ 384) (next : ∀ S M, Rel S M → G E K 4 ce sl [(0, .ref b), (1, .ref (ad 0 0)), (2, .ref (bd 0 0)), (3, .int x3)] [] (LW E ad bd S M) 1384) : G E K 4 ce sl [(0, .ref b), (1, .ref (ad 0 0)), (2, .ref (bd 0 0)), (3, .int x3)] [] (LW E ad bd S M) 1238 := by
  obtain ⟨o, o', ho, ho', hq, hRn⟩ := hsim S M (xs (t + 1)) (xs (t + 2)) (xs (t + 3)) (((xs (t + 4)).toInt64 <<< ((32 : Int32).toInt64 &&& 63)) ||| ((xs (t + 5)).toInt64 &&& 4294967295)) hR
  refine g_aload_n k 1 dL_law_1238 rfl rfl ?_
  refine g_aload_n k 0 dL_law_1239 rfl rfl ?_
  refine g_iload_n k 3 dL_law_1240 rfl rfl ?_
  refine g_iconst k dL_law_1241 ic_1 ?_
  refine g_iadd k dL_law_1242 ?_
  refine g_sld k X dL_law_1243 (sc_ix hx ht hL 1 (by decide)).1 (sc_ix hx ht hL 1 (by decide)).2 ?_
  refine g_aload_n k 0 dL_law_1244 rfl rfl ?_
  refine g_iload_n k 3 dL_law_1245 rfl rfl ?_
  refine g_iconst k dL_law_1246 ic_2 ?_
  refine g_iadd k dL_law_1247 ?_
  refine g_sld k X dL_law_1248 (sc_ix hx ht hL 2 (by decide)).1 (sc_ix hx ht hL 2 (by decide)).2 ?_
  refine g_aload_n k 0 dL_law_1249 rfl rfl ?_
  refine g_iload_n k 3 dL_law_1250 rfl rfl ?_
  refine g_iconst k dL_law_1251 ic_3 ?_
  refine g_iadd k dL_law_1252 ?_
  refine g_sld k X dL_law_1253 (sc_ix hx ht hL 3 (by decide)).1 (sc_ix hx ht hL 3 (by decide)).2 ?_
  refine g_aload_n k 0 dL_law_1254 rfl rfl ?_
  refine g_iload_n k 3 dL_law_1255 rfl rfl ?_
  refine g_iconst k dL_law_1256 ic_4 ?_
  refine g_iadd k dL_law_1257 ?_
  refine g_sld k X dL_law_1258 (sc_ix hx ht hL 4 (by decide)).1 (sc_ix hx ht hL 4 (by decide)).2 ?_
  refine g_i2l k dL_law_1259 ?_
  refine g_bipush k dL_law_1260 bi_32 ?_
  refine g_lshl k dL_law_1262 ?_
  refine g_aload_n k 0 dL_law_1263 rfl rfl ?_
  refine g_iload_n k 3 dL_law_1264 rfl rfl ?_
  refine g_iconst k dL_law_1265 ic_5 ?_
  refine g_iadd k dL_law_1266 ?_
  refine g_sld k X dL_law_1267 (sc_ix hx ht hL 5 (by decide)).1 (sc_ix hx ht hL 5 (by decide)).2 ?_
  refine g_i2l k dL_law_1268 ?_
  refine g_ldc2 k dL_law_1269 lkL_162 ?_
  refine g_land k dL_law_1272 ?_
  refine g_lor k dL_law_1273 ?_
  refine g_cv k miX7_item mvX7_item (ctX7_item (kL K) E N (ad 0 0) (ad 1 0) (ad 8 0) (ad 14 0) (ad 21 0) (ad 27 0) (ad 36 0) (ad 42 0) (ad 50 0) (ad 51) (ad 52) S.2.2.2.2.1 S.2.2.2.2.2.2.2.2.2.1 S.2.2.2.2.2.2.2.2.2.2.1 S.2.2.2.2.2.2.2.2.2.2.2 (xs (t + 1)) (xs (t + 2)) (xs (t + 3)) (((xs (t + 4)).toInt64 <<< ((32 : Int32).toInt64 &&& 63)) ||| ((xs (t + 5)).toInt64 &&& 4294967295)) o ho) [0, 126, 127, 128, 129, 130, 131, 132, 133, 134] 0 (ws' := LW E ad bd (bsX7_item S o) M) dL_law_1274 lkL_164 rfl ⟨rfl, rfl⟩ hce rfl rfl rfl rfl (Nat.le_of_ble_eq_true rfl) rfl rfl rfl ?_
  refine g_st (st' := [.int o.1]) rfl ?_
  refine g_aload_n k 2 dL_law_1277 rfl rfl ?_
  refine g_aload_n k 0 dL_law_1278 rfl rfl ?_
  refine g_iload_n k 3 dL_law_1279 rfl rfl ?_
  refine g_iconst k dL_law_1280 ic_1 ?_
  refine g_iadd k dL_law_1281 ?_
  refine g_sld k X dL_law_1282 (sc_ix hx ht hL 1 (by decide)).1 (sc_ix hx ht hL 1 (by decide)).2 ?_
  refine g_aload_n k 0 dL_law_1283 rfl rfl ?_
  refine g_iload_n k 3 dL_law_1284 rfl rfl ?_
  refine g_iconst k dL_law_1285 ic_2 ?_
  refine g_iadd k dL_law_1286 ?_
  refine g_sld k X dL_law_1287 (sc_ix hx ht hL 2 (by decide)).1 (sc_ix hx ht hL 2 (by decide)).2 ?_
  refine g_aload_n k 0 dL_law_1288 rfl rfl ?_
  refine g_iload_n k 3 dL_law_1289 rfl rfl ?_
  refine g_iconst k dL_law_1290 ic_3 ?_
  refine g_iadd k dL_law_1291 ?_
  refine g_sld k X dL_law_1292 (sc_ix hx ht hL 3 (by decide)).1 (sc_ix hx ht hL 3 (by decide)).2 ?_
  refine g_aload_n k 0 dL_law_1293 rfl rfl ?_
  refine g_iload_n k 3 dL_law_1294 rfl rfl ?_
  refine g_iconst k dL_law_1295 ic_4 ?_
  refine g_iadd k dL_law_1296 ?_
  refine g_sld k X dL_law_1297 (sc_ix hx ht hL 4 (by decide)).1 (sc_ix hx ht hL 4 (by decide)).2 ?_
  refine g_i2l k dL_law_1298 ?_
  refine g_bipush k dL_law_1299 bi_32 ?_
  refine g_lshl k dL_law_1301 ?_
  refine g_aload_n k 0 dL_law_1302 rfl rfl ?_
  refine g_iload_n k 3 dL_law_1303 rfl rfl ?_
  refine g_iconst k dL_law_1304 ic_5 ?_
  refine g_iadd k dL_law_1305 ?_
  refine g_sld k X dL_law_1306 (sc_ix hx ht hL 5 (by decide)).1 (sc_ix hx ht hL 5 (by decide)).2 ?_
  refine g_i2l k dL_law_1307 ?_
  refine g_ldc2 k dL_law_1308 lkL_162 ?_
  refine g_land k dL_law_1311 ?_
  refine g_lor k dL_law_1312 ?_
  refine g_cv k miX8_item mvX8_item (ctX8_item (kL K) E N (bd 0 0) (bd 1 0) (bd 2 0) (bd 3 0) (bd 4 0) (bd 5 0) (bd 6 0) (bd 7 0) (bd 8 0) (bd 9 0) (bd 10 0) (bd 11 0) (bd 12 0) M.1 M.2.1 M.2.2.1 M.2.2.2.1 M.2.2.2.2.1 M.2.2.2.2.2.1 M.2.2.2.2.2.2.1 M.2.2.2.2.2.2.2.1 M.2.2.2.2.2.2.2.2.1 M.2.2.2.2.2.2.2.2.2.2.1 M.2.2.2.2.2.2.2.2.2.2.2.1 M.2.2.2.2.2.2.2.2.2.2.2.2.1 (xs (t + 1)) (xs (t + 2)) (xs (t + 3)) (((xs (t + 4)).toInt64 <<< ((32 : Int32).toInt64 &&& 63)) ||| ((xs (t + 5)).toInt64 &&& 4294967295)) o' ho') [135, 137, 138, 139] 0 (ws' := LW E ad bd (bsX7_item S o) (msX8_item M o')) dL_law_1313 lkL_168 rfl ⟨rfl, rfl⟩ hce rfl rfl rfl rfl (Nat.le_of_ble_eq_true rfl) rfl rfl rfl ?_
  refine g_st (st' := [.int o'.1, .int o.1]) rfl ?_
  exact g_icmp_eq k (tgt := 1384) dL_law_1316 (by decide) (fun _ => next _ _ hRn) (fun c => absurd hq c)
def bsX7_copy (S : BV) (o : Int32 × (Nat → Nat → Int64)) : BV := (S.1, S.2.1, S.2.2.1, S.2.2.2.1, S.2.2.2.2.1, S.2.2.2.2.2.1, S.2.2.2.2.2.2.1, S.2.2.2.2.2.2.2.1, S.2.2.2.2.2.2.2.2.1, (S.2.2.2.2.2.2.2.2.2.1, S.2.2.2.2.2.2.2.2.2.2.1, o.2))
def msX8_copy (M : MMV) (o : Int32 × (Nat → Int64) × (Nat → Int64)) : MMV := (M.1, M.2.1, M.2.2.1, M.2.2.2.1, M.2.2.2.2.1, M.2.2.2.2.2.1, M.2.2.2.2.2.2.1, M.2.2.2.2.2.2.2.1, M.2.2.2.2.2.2.2.2.1, M.2.2.2.2.2.2.2.2.2.1, M.2.2.2.2.2.2.2.2.2.2.1, M.2.2.2.2.2.2.2.2.2.2.2.1, o.2.1, M.2.2.2.2.2.2.2.2.2.2.2.2.2.1, M.2.2.2.2.2.2.2.2.2.2.2.2.2.2.1, M.2.2.2.2.2.2.2.2.2.2.2.2.2.2.2.1, M.2.2.2.2.2.2.2.2.2.2.2.2.2.2.2.2.1, M.2.2.2.2.2.2.2.2.2.2.2.2.2.2.2.2.2.1, M.2.2.2.2.2.2.2.2.2.2.2.2.2.2.2.2.2.2.1, M.2.2.2.2.2.2.2.2.2.2.2.2.2.2.2.2.2.2.2.1, o.2.2)
/-- X7_copy and X8_copy keep step -/
def Simcopy (N : Nat) (Rel : BV → MMV → Prop) : Prop := ∀ (S : BV) (M : MMV) (y0 : Int32) (y1 : Int32) (y2 : Int32) (y3 : Int32) (y4 : Int32), Rel S M → ∃ o o', fX7_copy N S.2.2.2.2.2.2.2.2.2.1 S.2.2.2.2.2.2.2.2.2.2.1 S.2.2.2.2.2.2.2.2.2.2.2 y0 y1 y2 y3 y4 = some o ∧ fX8_copy N M.2.2.2.2.2.2.2.2.2.2.1 M.2.2.2.2.2.2.2.2.2.2.2.1 M.2.2.2.2.2.2.2.2.2.2.2.2.1 M.2.2.2.2.2.2.2.2.2.2.2.2.2.2.2.2.2.2.2.2 y0 y1 y2 y3 y4 = some o' ∧ o.1 = o'.1 ∧ Rel (bsX7_copy S o) (msX8_copy M o')
set_option maxHeartbeats 4000000 in
set_option maxRecDepth 100000 in
theorem lawc_copy {E : Ev} {K : KX} (k : OKX E K cL_law RL 4 room_1) {b L : Nat} {xs : Nat → Int32} (X : LX K b L xs) (N : Nat) {Rel : BV → MMV → Prop} (hsim : Simcopy N Rel) (ad bd : Nat → Nat → Nat) {ce sl : Nat} (hce : ce ≤ room_1.cells ∧ sl ≤ room_1.slots) (S : BV) (M : MMV) (hR : Rel S M) (x3 : Int32) (t : Nat) (hx : x3 = nI t) (ht : t + 6 ≤ L) (hL : L ≤ 384) (next : ∀ S M, Rel S M → G E K 4 ce sl [(0, .ref b), (1, .ref (ad 0 0)), (2, .ref (bd 0 0)), (3, .int x3)] [] (LW E ad bd S M) 1384) : G E K 4 ce sl [(0, .ref b), (1, .ref (ad 0 0)), (2, .ref (bd 0 0)), (3, .int x3)] [] (LW E ad bd S M) 1321 := by
  obtain ⟨o, o', ho, ho', hq, hRn⟩ := hsim S M (xs (t + 1)) (xs (t + 2)) (xs (t + 3)) (xs (t + 4)) (xs (t + 5)) hR
  refine g_aload_n k 1 dL_law_1321 rfl rfl ?_
  refine g_aload_n k 0 dL_law_1322 rfl rfl ?_
  refine g_iload_n k 3 dL_law_1323 rfl rfl ?_
  refine g_iconst k dL_law_1324 ic_1 ?_
  refine g_iadd k dL_law_1325 ?_
  refine g_sld k X dL_law_1326 (sc_ix hx ht hL 1 (by decide)).1 (sc_ix hx ht hL 1 (by decide)).2 ?_
  refine g_aload_n k 0 dL_law_1327 rfl rfl ?_
  refine g_iload_n k 3 dL_law_1328 rfl rfl ?_
  refine g_iconst k dL_law_1329 ic_2 ?_
  refine g_iadd k dL_law_1330 ?_
  refine g_sld k X dL_law_1331 (sc_ix hx ht hL 2 (by decide)).1 (sc_ix hx ht hL 2 (by decide)).2 ?_
  refine g_aload_n k 0 dL_law_1332 rfl rfl ?_
  refine g_iload_n k 3 dL_law_1333 rfl rfl ?_
  refine g_iconst k dL_law_1334 ic_3 ?_
  refine g_iadd k dL_law_1335 ?_
  refine g_sld k X dL_law_1336 (sc_ix hx ht hL 3 (by decide)).1 (sc_ix hx ht hL 3 (by decide)).2 ?_
  refine g_aload_n k 0 dL_law_1337 rfl rfl ?_
  refine g_iload_n k 3 dL_law_1338 rfl rfl ?_
  refine g_iconst k dL_law_1339 ic_4 ?_
  refine g_iadd k dL_law_1340 ?_
  refine g_sld k X dL_law_1341 (sc_ix hx ht hL 4 (by decide)).1 (sc_ix hx ht hL 4 (by decide)).2 ?_
  refine g_aload_n k 0 dL_law_1342 rfl rfl ?_
  refine g_iload_n k 3 dL_law_1343 rfl rfl ?_
  refine g_iconst k dL_law_1344 ic_5 ?_
  refine g_iadd k dL_law_1345 ?_
  refine g_sld k X dL_law_1346 (sc_ix hx ht hL 5 (by decide)).1 (sc_ix hx ht hL 5 (by decide)).2 ?_
  refine g_cv k miX7_copy mvX7_copy (ctX7_copy (kL K) E N (ad 0 0) (ad 1 0) (ad 8 0) (ad 14 0) (ad 21 0) (ad 27 0) (ad 36 0) (ad 42 0) (ad 50 0) (ad 51) (ad 52) S.2.2.2.2.1 S.2.2.2.2.2.2.2.2.2.1 S.2.2.2.2.2.2.2.2.2.2.1 S.2.2.2.2.2.2.2.2.2.2.2 (xs (t + 1)) (xs (t + 2)) (xs (t + 3)) (xs (t + 4)) (xs (t + 5)) o ho) [0, 126, 127, 128, 129, 130, 131, 132, 133, 134] 0 (ws' := LW E ad bd (bsX7_copy S o) M) dL_law_1347 lkL_169 rfl ⟨rfl, rfl⟩ hce rfl rfl rfl rfl (Nat.le_of_ble_eq_true rfl) rfl rfl rfl ?_
  refine g_st (st' := [.int o.1]) rfl ?_
  refine g_aload_n k 2 dL_law_1350 rfl rfl ?_
  refine g_aload_n k 0 dL_law_1351 rfl rfl ?_
  refine g_iload_n k 3 dL_law_1352 rfl rfl ?_
  refine g_iconst k dL_law_1353 ic_1 ?_
  refine g_iadd k dL_law_1354 ?_
  refine g_sld k X dL_law_1355 (sc_ix hx ht hL 1 (by decide)).1 (sc_ix hx ht hL 1 (by decide)).2 ?_
  refine g_aload_n k 0 dL_law_1356 rfl rfl ?_
  refine g_iload_n k 3 dL_law_1357 rfl rfl ?_
  refine g_iconst k dL_law_1358 ic_2 ?_
  refine g_iadd k dL_law_1359 ?_
  refine g_sld k X dL_law_1360 (sc_ix hx ht hL 2 (by decide)).1 (sc_ix hx ht hL 2 (by decide)).2 ?_
  refine g_aload_n k 0 dL_law_1361 rfl rfl ?_
  refine g_iload_n k 3 dL_law_1362 rfl rfl ?_
  refine g_iconst k dL_law_1363 ic_3 ?_
  refine g_iadd k dL_law_1364 ?_
  refine g_sld k X dL_law_1365 (sc_ix hx ht hL 3 (by decide)).1 (sc_ix hx ht hL 3 (by decide)).2 ?_
  refine g_aload_n k 0 dL_law_1366 rfl rfl ?_
  refine g_iload_n k 3 dL_law_1367 rfl rfl ?_
  refine g_iconst k dL_law_1368 ic_4 ?_
  refine g_iadd k dL_law_1369 ?_
  refine g_sld k X dL_law_1370 (sc_ix hx ht hL 4 (by decide)).1 (sc_ix hx ht hL 4 (by decide)).2 ?_
  refine g_aload_n k 0 dL_law_1371 rfl rfl ?_
  refine g_iload_n k 3 dL_law_1372 rfl rfl ?_
  refine g_iconst k dL_law_1373 ic_5 ?_
  refine g_iadd k dL_law_1374 ?_
  refine g_sld k X dL_law_1375 (sc_ix hx ht hL 5 (by decide)).1 (sc_ix hx ht hL 5 (by decide)).2 ?_
  refine g_cv k miX8_copy mvX8_copy (ctX8_copy (kL K) E N (bd 0 0) (bd 1 0) (bd 2 0) (bd 3 0) (bd 4 0) (bd 5 0) (bd 6 0) (bd 7 0) (bd 8 0) (bd 9 0) (bd 10 0) (bd 11 0) (bd 12 0) M.1 M.2.1 M.2.2.1 M.2.2.2.1 M.2.2.2.2.1 M.2.2.2.2.2.1 M.2.2.2.2.2.2.1 M.2.2.2.2.2.2.2.1 M.2.2.2.2.2.2.2.2.1 M.2.2.2.2.2.2.2.2.2.2.1 M.2.2.2.2.2.2.2.2.2.2.2.1 M.2.2.2.2.2.2.2.2.2.2.2.2.1 M.2.2.2.2.2.2.2.2.2.2.2.2.2.2.2.2.2.2.2.2 (xs (t + 1)) (xs (t + 2)) (xs (t + 3)) (xs (t + 4)) (xs (t + 5)) o' ho') [135, 137, 138, 139, 147] 0 (ws' := LW E ad bd (bsX7_copy S o) (msX8_copy M o')) dL_law_1376 lkL_172 rfl ⟨rfl, rfl⟩ hce rfl rfl rfl rfl (Nat.le_of_ble_eq_true rfl) rfl rfl rfl ?_
  refine g_st (st' := [.int o'.1, .int o.1]) rfl ?_
  exact g_icmp_eq k (tgt := 1384) dL_law_1379 (by decide) (fun _ => next _ _ hRn) (fun c => absurd hq c)
theorem law_in {x : Int32} {t L : Nat} (hx : x = nI t) (ht : t ≤ 400) (hL : L ≤ 384) (c : ¬ nI L - 6 < x) : t + 6 ≤ L := by
  subst hx
  rcases Nat.lt_or_ge L (t + 6) with h | h
  · refine absurd ?_ c
    rw [Int32.lt_iff_toInt_lt, show (6 : Int32) = nI 6 from rfl, pk_sub_toInt (by omega) (by omega), nI_toInt (by omega)]
    omega
  · exact h
set_option maxHeartbeats 4000000 in
set_option maxRecDepth 100000 in
theorem law_loop {E : Ev} {K : KX} (k : OKX E K cL_law RL 4 room_1) {b L : Nat} {xs : Nat → Int32} (X : LX K b L xs) (hL : L ≤ 384) (N : Nat) {Rel : BV → MMV → Prop} (h0 : Simcell N Rel) (h1 : Simperson N Rel) (h2 : Simsaying N Rel) (h3 : Simice N Rel) (h4 : Simof N Rel) (h5 : Simat N Rel) (h6 : Simrocks N Rel) (h7 : Simfrost N Rel) (h8 : Simtype N Rel) (h9 : Simcanal N Rel) (h10 : Simcount N Rel) (h11 : Simsay N Rel) (h12 : Simthaw N Rel) (h13 : Simmind N Rel) (h14 : Simdrift N Rel) (h15 : Simundo N Rel) (h16 : Simseed N Rel) (h17 : Simrock N Rel) (h18 : Simnext N Rel) (h19 : Simgreedy N Rel) (h20 : Simthrough N Rel) (h21 : Simplan N Rel) (h22 : Simcrew N Rel) (h23 : Simminds N Rel) (h24 : Simonce N Rel) (h25 : Simsway N Rel) (h26 : Simboats N Rel) (h27 : Simring N Rel) (h28 : Simenough N Rel) (h29 : Simsick N Rel) (h30 : Simimage N Rel) (h31 : Simrestore N Rel) (h32 : Simfelt N Rel) (h33 : Simfilm N Rel) (h34 : Simsheet N Rel) (h35 : Simdrop N Rel) (h36 : Simitem N Rel) (h37 : Simcopy N Rel) (ad bd : Nat → Nat → Nat) {ce sl : Nat} (hce : ce ≤ room_1.cells ∧ sl ≤ room_1.slots) (fin : ∀ lv ws, G E K 4 ce sl lv [.int 1] ws 1391) : ∀ (n t : Nat) (x3 : Int32) (S : BV) (M : MMV), x3 = nI t → 2000 - t < n → Rel S M → t ≤ 400 → G E K 4 ce sl [(0, .ref b), (1, .ref (ad 0 0)), (2, .ref (bd 0 0)), (3, .int x3)] [] (LW E ad bd S M) 18 := by
  intro n
  induction n with
  | zero => intro t x3 S M hx hm; exact absurd hm (Nat.not_lt_zero _)
  | succ n ih =>
    intro t x3 S M hx hm hR htl
    refine g_iload_n k 3 dL_law_18 rfl rfl ?_
    refine g_aload_n k 0 dL_law_19 rfl rfl ?_
    refine g_slen k X dL_law_20 ?_
    refine g_bipush k dL_law_21 bi_6 ?_
    refine g_isub k dL_law_23 ?_
    refine g_icmp_gt k (tgt := 1390) dL_law_24 (by decide) (fun c => ?_) (fun c => ?_)
    · refine g_iconst k dL_law_1390 ic_1 ?_
      exact fin _ _
    · have ht : t + 6 ≤ L := law_in hx htl hL c
      have next : ∀ S M, Rel S M → G E K 4 ce sl [(0, .ref b), (1, .ref (ad 0 0)), (2, .ref (bd 0 0)), (3, .int x3)] [] (LW E ad bd S M) 1384 := by
        intro S M hR
        refine g_iinc k (lv' := [(3, .int (x3 + 6)), (0, .ref b), (1, .ref (ad 0 0)), (2, .ref (bd 0 0))]) 3 dL_law_1384 rfl (ii_6 _) (by decide) rfl ?_
        refine g_goto k (tgt := 18) dL_law_1387 (by decide) ?_
        refine g_lv [1, 2, 3, 0] rfl ?_
        exact ih (t + 6) (x3 + 6) S M (by rw [hx]; exact nI_add t 6) (by omega) hR (by omega)
      refine g_aload_n k 0 dL_law_27 rfl rfl ?_
      refine g_iload_n k 3 dL_law_28 rfl rfl ?_
      refine g_sld k X dL_law_29 (κ := t) (by rw [hx]; exact vp_in_nI (by omega) (by omega)) (by rw [hx]; exact nI_clamp (by omega)) ?_
      refine g_bipush k dL_law_30 bi_63 ?_
      refine g_iand k dL_law_32 ?_
      generalize hv : xs t &&& 63 = v
      by_cases c0 : v = 0
      · refine g_tabIn k (tgt := 200) dL_law_33 (by rw [c0]; decide) (by rw [c0]; decide) (off := 167) (by rw [c0]; rfl) (by decide) ?_
        exact lawc_cell k X N h0 ad bd hce S M hR x3 t hx ht hL next
      by_cases c1 : v = 1
      · refine g_tabIn k (tgt := 223) dL_law_33 (by rw [c1]; decide) (by rw [c1]; decide) (off := 190) (by rw [c1]; rfl) (by decide) ?_
        exact lawc_person k X N h1 ad bd hce S M hR x3 t hx ht hL next
      by_cases c2 : v = 2
      · refine g_tabIn k (tgt := 256) dL_law_33 (by rw [c2]; decide) (by rw [c2]; decide) (off := 223) (by rw [c2]; rfl) (by decide) ?_
        exact lawc_saying k X N h2 ad bd hce S M hR x3 t hx ht hL next
      by_cases c3 : v = 3
      · refine g_tabIn k (tgt := 289) dL_law_33 (by rw [c3]; decide) (by rw [c3]; decide) (off := 256) (by rw [c3]; rfl) (by decide) ?_
        exact lawc_ice k X N h3 ad bd hce S M hR x3 t hx ht hL next
      by_cases c4 : v = 4
      · refine g_tabIn k (tgt := 312) dL_law_33 (by rw [c4]; decide) (by rw [c4]; decide) (off := 279) (by rw [c4]; rfl) (by decide) ?_
        exact lawc_of k X N h4 ad bd hce S M hR x3 t hx ht hL next
      by_cases c5 : v = 5
      · refine g_tabIn k (tgt := 345) dL_law_33 (by rw [c5]; decide) (by rw [c5]; decide) (off := 312) (by rw [c5]; rfl) (by decide) ?_
        exact lawc_at k X N h5 ad bd hce S M hR x3 t hx ht hL next
      by_cases c6 : v = 6
      · refine g_tabIn k (tgt := 378) dL_law_33 (by rw [c6]; decide) (by rw [c6]; decide) (off := 345) (by rw [c6]; rfl) (by decide) ?_
        exact lawc_rocks k X N h6 ad bd hce S M hR x3 t hx ht hL next
      by_cases c7 : v = 7
      · refine g_tabIn k (tgt := 411) dL_law_33 (by rw [c7]; decide) (by rw [c7]; decide) (off := 378) (by rw [c7]; rfl) (by decide) ?_
        exact lawc_frost k X N h7 ad bd hce S M hR x3 t hx ht hL next
      by_cases c8 : v = 8
      · refine g_tabIn k (tgt := 434) dL_law_33 (by rw [c8]; decide) (by rw [c8]; decide) (off := 401) (by rw [c8]; rfl) (by decide) ?_
        exact lawc_type k X N h8 ad bd hce S M hR x3 t hx ht hL next
      by_cases c9 : v = 9
      · refine g_tabIn k (tgt := 457) dL_law_33 (by rw [c9]; decide) (by rw [c9]; decide) (off := 424) (by rw [c9]; rfl) (by decide) ?_
        exact lawc_canal k X N h9 ad bd hce S M hR x3 t hx ht hL next
      by_cases c10 : v = 10
      · refine g_tabIn k (tgt := 470) dL_law_33 (by rw [c10]; decide) (by rw [c10]; decide) (off := 437) (by rw [c10]; rfl) (by decide) ?_
        exact lawc_count k X N h10 ad bd hce S M hR x3 t hx ht hL next
      by_cases c11 : v = 11
      · refine g_tabIn k (tgt := 493) dL_law_33 (by rw [c11]; decide) (by rw [c11]; decide) (off := 460) (by rw [c11]; rfl) (by decide) ?_
        exact lawc_say k X N h11 ad bd hce S M hR x3 t hx ht hL next
      by_cases c12 : v = 12
      · refine g_tabIn k (tgt := 516) dL_law_33 (by rw [c12]; decide) (by rw [c12]; decide) (off := 483) (by rw [c12]; rfl) (by decide) ?_
        exact lawc_thaw k X N h12 ad bd hce S M hR x3 t hx ht hL next
      by_cases c13 : v = 13
      · refine g_tabIn k (tgt := 549) dL_law_33 (by rw [c13]; decide) (by rw [c13]; decide) (off := 516) (by rw [c13]; rfl) (by decide) ?_
        exact lawc_mind k X N h13 ad bd hce S M hR x3 t hx ht hL next
      by_cases c14 : v = 14
      · refine g_tabIn k (tgt := 582) dL_law_33 (by rw [c14]; decide) (by rw [c14]; decide) (off := 549) (by rw [c14]; rfl) (by decide) ?_
        exact lawc_drift k X N h14 ad bd hce S M hR x3 t hx ht hL next
      by_cases c15 : v = 15
      · refine g_tabIn k (tgt := 605) dL_law_33 (by rw [c15]; decide) (by rw [c15]; decide) (off := 572) (by rw [c15]; rfl) (by decide) ?_
        exact lawc_undo k X N h15 ad bd hce S M hR x3 t hx ht hL next
      by_cases c16 : v = 16
      · refine g_tabIn k (tgt := 618) dL_law_33 (by rw [c16]; decide) (by rw [c16]; decide) (off := 585) (by rw [c16]; rfl) (by decide) ?_
        exact lawc_seed k X N h16 ad bd hce S M hR x3 t hx ht hL next
      by_cases c17 : v = 17
      · refine g_tabIn k (tgt := 641) dL_law_33 (by rw [c17]; decide) (by rw [c17]; decide) (off := 608) (by rw [c17]; rfl) (by decide) ?_
        exact lawc_rock k X N h17 ad bd hce S M hR x3 t hx ht hL next
      by_cases c18 : v = 18
      · refine g_tabIn k (tgt := 664) dL_law_33 (by rw [c18]; decide) (by rw [c18]; decide) (off := 631) (by rw [c18]; rfl) (by decide) ?_
        exact lawc_next k X N h18 ad bd hce S M hR x3 t hx ht hL next
      by_cases c19 : v = 19
      · refine g_tabIn k (tgt := 687) dL_law_33 (by rw [c19]; decide) (by rw [c19]; decide) (off := 654) (by rw [c19]; rfl) (by decide) ?_
        exact lawc_greedy k X N h19 ad bd hce S M hR x3 t hx ht hL next
      by_cases c20 : v = 20
      · refine g_tabIn k (tgt := 720) dL_law_33 (by rw [c20]; decide) (by rw [c20]; decide) (off := 687) (by rw [c20]; rfl) (by decide) ?_
        exact lawc_through k X N h20 ad bd hce S M hR x3 t hx ht hL next
      by_cases c21 : v = 21
      · refine g_tabIn k (tgt := 733) dL_law_33 (by rw [c21]; decide) (by rw [c21]; decide) (off := 700) (by rw [c21]; rfl) (by decide) ?_
        exact lawc_plan k X N h21 ad bd hce S M hR x3 t hx ht hL next
      by_cases c22 : v = 22
      · refine g_tabIn k (tgt := 766) dL_law_33 (by rw [c22]; decide) (by rw [c22]; decide) (off := 733) (by rw [c22]; rfl) (by decide) ?_
        exact lawc_crew k X N h22 ad bd hce S M hR x3 t hx ht hL next
      by_cases c23 : v = 23
      · refine g_tabIn k (tgt := 809) dL_law_33 (by rw [c23]; decide) (by rw [c23]; decide) (off := 776) (by rw [c23]; rfl) (by decide) ?_
        exact lawc_minds k X N h23 ad bd hce S M hR x3 t hx ht hL next
      by_cases c24 : v = 24
      · refine g_tabIn k (tgt := 842) dL_law_33 (by rw [c24]; decide) (by rw [c24]; decide) (off := 809) (by rw [c24]; rfl) (by decide) ?_
        exact lawc_once k X N h24 ad bd hce S M hR x3 t hx ht hL next
      by_cases c25 : v = 25
      · refine g_tabIn k (tgt := 865) dL_law_33 (by rw [c25]; decide) (by rw [c25]; decide) (off := 832) (by rw [c25]; rfl) (by decide) ?_
        exact lawc_sway k X N h25 ad bd hce S M hR x3 t hx ht hL next
      by_cases c26 : v = 26
      · refine g_tabIn k (tgt := 908) dL_law_33 (by rw [c26]; decide) (by rw [c26]; decide) (off := 875) (by rw [c26]; rfl) (by decide) ?_
        exact lawc_boats k X N h26 ad bd hce S M hR x3 t hx ht hL next
      by_cases c27 : v = 27
      · refine g_tabIn k (tgt := 931) dL_law_33 (by rw [c27]; decide) (by rw [c27]; decide) (off := 898) (by rw [c27]; rfl) (by decide) ?_
        exact lawc_ring k X N h27 ad bd hce S M hR x3 t hx ht hL next
      by_cases c28 : v = 28
      · refine g_tabIn k (tgt := 954) dL_law_33 (by rw [c28]; decide) (by rw [c28]; decide) (off := 921) (by rw [c28]; rfl) (by decide) ?_
        exact lawc_enough k X N h28 ad bd hce S M hR x3 t hx ht hL next
      by_cases c29 : v = 29
      · refine g_tabIn k (tgt := 977) dL_law_33 (by rw [c29]; decide) (by rw [c29]; decide) (off := 944) (by rw [c29]; rfl) (by decide) ?_
        exact lawc_sick k X N h29 ad bd hce S M hR x3 t hx ht hL next
      by_cases c30 : v = 30
      · refine g_tabIn k (tgt := 1020) dL_law_33 (by rw [c30]; decide) (by rw [c30]; decide) (off := 987) (by rw [c30]; rfl) (by decide) ?_
        exact lawc_image k X N h30 ad bd hce S M hR x3 t hx ht hL next
      by_cases c31 : v = 31
      · refine g_tabIn k (tgt := 1033) dL_law_33 (by rw [c31]; decide) (by rw [c31]; decide) (off := 1000) (by rw [c31]; rfl) (by decide) ?_
        exact lawc_restore k X N h31 ad bd hce S M hR x3 t hx ht hL next
      by_cases c32 : v = 32
      · refine g_tabIn k (tgt := 1046) dL_law_33 (by rw [c32]; decide) (by rw [c32]; decide) (off := 1013) (by rw [c32]; rfl) (by decide) ?_
        exact lawc_felt k X N h32 ad bd hce S M hR x3 t hx ht hL next
      by_cases c33 : v = 33
      · refine g_tabIn k (tgt := 1109) dL_law_33 (by rw [c33]; decide) (by rw [c33]; decide) (off := 1076) (by rw [c33]; rfl) (by decide) ?_
        exact lawc_film k X N h33 ad bd hce S M hR x3 t hx ht hL next
      by_cases c34 : v = 34
      · refine g_tabIn k (tgt := 1172) dL_law_33 (by rw [c34]; decide) (by rw [c34]; decide) (off := 1139) (by rw [c34]; rfl) (by decide) ?_
        exact lawc_sheet k X N h34 ad bd hce S M hR x3 t hx ht hL next
      by_cases c35 : v = 35
      · refine g_tabIn k (tgt := 1215) dL_law_33 (by rw [c35]; decide) (by rw [c35]; decide) (off := 1182) (by rw [c35]; rfl) (by decide) ?_
        exact lawc_drop k X N h35 ad bd hce S M hR x3 t hx ht hL next
      by_cases c36 : v = 36
      · refine g_tabIn k (tgt := 1238) dL_law_33 (by rw [c36]; decide) (by rw [c36]; decide) (off := 1205) (by rw [c36]; rfl) (by decide) ?_
        exact lawc_item k X N h36 ad bd hce S M hR x3 t hx ht hL next
      by_cases c37 : v = 37
      · refine g_tabIn k (tgt := 1321) dL_law_33 (by rw [c37]; decide) (by rw [c37]; decide) (off := 1288) (by rw [c37]; rfl) (by decide) ?_
        exact lawc_copy k X N h37 ad bd hce S M hR x3 t hx ht hL next
      refine g_tabOut k (tgt := 1384) dL_law_33 (by have := lv_neT (k := 0) c0 (a := 0) (by decide); have := lv_neT (k := 1) c1 (a := 1) (by decide); have := lv_neT (k := 2) c2 (a := 2) (by decide); have := lv_neT (k := 3) c3 (a := 3) (by decide); have := lv_neT (k := 4) c4 (a := 4) (by decide); have := lv_neT (k := 5) c5 (a := 5) (by decide); have := lv_neT (k := 6) c6 (a := 6) (by decide); have := lv_neT (k := 7) c7 (a := 7) (by decide); have := lv_neT (k := 8) c8 (a := 8) (by decide); have := lv_neT (k := 9) c9 (a := 9) (by decide); have := lv_neT (k := 10) c10 (a := 10) (by decide); have := lv_neT (k := 11) c11 (a := 11) (by decide); have := lv_neT (k := 12) c12 (a := 12) (by decide); have := lv_neT (k := 13) c13 (a := 13) (by decide); have := lv_neT (k := 14) c14 (a := 14) (by decide); have := lv_neT (k := 15) c15 (a := 15) (by decide); have := lv_neT (k := 16) c16 (a := 16) (by decide); have := lv_neT (k := 17) c17 (a := 17) (by decide); have := lv_neT (k := 18) c18 (a := 18) (by decide); have := lv_neT (k := 19) c19 (a := 19) (by decide); have := lv_neT (k := 20) c20 (a := 20) (by decide); have := lv_neT (k := 21) c21 (a := 21) (by decide); have := lv_neT (k := 22) c22 (a := 22) (by decide); have := lv_neT (k := 23) c23 (a := 23) (by decide); have := lv_neT (k := 24) c24 (a := 24) (by decide); have := lv_neT (k := 25) c25 (a := 25) (by decide); have := lv_neT (k := 26) c26 (a := 26) (by decide); have := lv_neT (k := 27) c27 (a := 27) (by decide); have := lv_neT (k := 28) c28 (a := 28) (by decide); have := lv_neT (k := 29) c29 (a := 29) (by decide); have := lv_neT (k := 30) c30 (a := 30) (by decide); have := lv_neT (k := 31) c31 (a := 31) (by decide); have := lv_neT (k := 32) c32 (a := 32) (by decide); have := lv_neT (k := 33) c33 (a := 33) (by decide); have := lv_neT (k := 34) c34 (a := 34) (by decide); have := lv_neT (k := 35) c35 (a := 35) (by decide); have := lv_neT (k := 36) c36 (a := 36) (by decide); have := lv_neT (k := 37) c37 (a := 37) (by decide); omega) (by decide) ?_
      exact next S M hR
