/-! The world of the law's loop: one list over places. -/
def LW (cI cJ cC : ClassId) (q : Nat → Nat) (vi : Nat → Int32) (fi : Nat → Nat → Int32) (fl : Nat → Nat → Int64) : va_W :=
  [(q 0, zX6 (q 1) (q 3) (q 5) (q 7) (q 9) (q 11) (q 13) (q 15) (q 16) (q 18) (vi 0) (vi 1) (vi 2) (vi 3)),
   (q 1, zX0 (q 2) (vi 4)), (q 2, zI cI 64 (fi 0)), (q 3, zX0 (q 4) (vi 5)), (q 4, zI cI 64 (fi 1)), (q 5, zX0 (q 6) (vi 6)), (q 6, zI cI 64 (fi 2)), (q 7, zX0 (q 8) (vi 7)), (q 8, zI cI 64 (fi 3)),
   (q 9, zX1 (q 10) (vi 8) (vi 9)), (q 10, zJ cJ 64 (fl 0)), (q 11, zX1 (q 12) (vi 10) (vi 11)), (q 12, zJ cJ 64 (fl 1)), (q 13, zX1 (q 14) (vi 12) (vi 13)), (q 14, zJ cJ 64 (fl 2)),
   (q 15, zX4 (vi 14) (vi 15) (vi 16)), (q 16, zX3 (q 17) (vi 17) (vi 18) (vi 19)), (q 17, zI cI 64 (fi 4)), (q 18, zX5 (q 19) (vi 20) (vi 21)), (q 19, zI cC 320 (fi 5)),
   (q 20, zX7 (vi 22) (vi 23) (q 21) (q 22) (q 23) (q 24) (q 25) (vi 24) (vi 25) (vi 26) (q 26) (q 27) (vi 27) (q 28) (vi 28) (vi 29) (q 29) (vi 30) (vi 31) (q 30) (vi 32) (vi 33) (vi 34) (vi 35) (vi 36) (q 31) (q 32) (q 33) (q 34) (vi 37) (vi 38)),
   (q 21, zI cI 5 (fi 6)), (q 22, zI cI 320 (fi 7)), (q 23, zI cI 320 (fi 8)), (q 24, zI cI 320 (fi 9)), (q 25, zI cI 320 (fi 10)), (q 26, zJ cJ 64 (fl 3)), (q 27, zJ cJ 64 (fl 4)), (q 28, zJ cJ 64 (fl 5)), (q 29, zI cI 320 (fi 11)), (q 30, zI cI 400 (fi 12)), (q 31, zI cI 24 (fi 13)), (q 32, zI cI 24 (fi 14)), (q 33, zI cI 24 (fi 15)), (q 34, zI cI 24 (fi 16)), (q 35, zJ cJ 1 (fl 6))]
/-- all that holds between two operations, by places -/
def RRe (vi : Nat → Int32) (fi : Nat → Nat → Int32) (fl : Nat → Nat → Int64) : Prop := RRx (vi 0) (vi 1) (vi 2) (vi 3) (vi 4) (vi 5) (vi 6) (vi 8) (vi 9) (vi 20) (fi 0) (fi 1) (fi 2) (fi 5) (fl 0) (vi 23) (vi 25) (vi 24) (vi 30) (vi 26) (vi 29) (fi 6) (fi 7) (fi 8) (fi 9) (fi 10) (fi 11) (fl 3)
/-- one place changed -/
def uq {α : Type} (f : Nat → α) (k : Nat) (x : α) : Nat → α := fun j => if j = k then x else f j
theorem LW_u {cI cJ cC : ClassId} {q : Nat → Nat} {vi : Nat → Int32} {fi : Nat → Nat → Int32} {fl : Nat → Nat → Int64} {x : Int32} : LW cI cJ cC q (uq vi 22 x) fi fl = (LW cI cJ cC q vi fi fl).set 20 (q 20, zX7 x (vi 23) (q 21) (q 22) (q 23) (q 24) (q 25) (vi 24) (vi 25) (vi 26) (q 26) (q 27) (vi 27) (q 28) (vi 28) (vi 29) (q 29) (vi 30) (vi 31) (q 30) (vi 32) (vi 33) (vi 34) (vi 35) (vi 36) (q 31) (q 32) (q 33) (q 34) (vi 37) (vi 38)) := rfl
