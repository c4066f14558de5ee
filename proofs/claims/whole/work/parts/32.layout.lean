/-! ===== the ids: kinds, lengths, order of making; the memories at the start ===== -/
def x_kdC (o : Nat) : Nat := if o < 900 then ([0, 10, 3, 6, 20, 24, 25, 2, 20, 0, 0, 0, 0, 0, 0, 0, 0, 0, 0, 0, 0, 0, 0, 0, 0, 0, 0, 0, 0, 0, 0, 0, 0, 0, 0, 0, 0, 0, 0, 0, 0, 0, 0, 0, 0, 0, 0, 0, 0, 0, 0, 0, 0, 0, 0, 0, 0, 0, 0, 0, 0, 0, 0, 0, 0, 0, 0, 0, 0, 0, 0, 0, 0, 0, 0, 0, 0, 0, 0, 0, 0, 0, 0, 0, 0, 0, 0, 0, 0, 0, 0, 0, 0, 0, 0, 0, 0, 0, 0, 0, 8, 4, 20, 23, 1, 1, 1, 1, 1, 1, 20, 20, 20, 20, 20, 20, 7, 20, 20, 7, 20, 20, 7, 20, 20, 5, 20, 20, 20, 20, 20, 0, 0, 0, 0, 0, 0, 0, 0, 0, 0, 0, 0, 0, 0, 0, 0, 0, 0, 0, 0, 0, 0, 0, 0, 0, 0, 0, 0, 0, 0, 0, 0, 0, 0, 0, 0, 0, 0, 0, 0, 0, 0, 0, 0, 0, 0, 0, 0, 0, 0, 0, 0, 0, 0, 0, 0, 0, 0, 0, 0, 0, 0, 0, 0, 0, 0, 0, 0, 0, 8, 4, 20, 23, 1, 1, 1, 1, 1, 1, 20, 20, 20, 20, 20, 20, 7, 20, 20, 7, 20, 20, 7, 20, 20, 5, 20, 20, 20, 20, 20, 0, 0, 0, 0, 0, 0, 0, 0, 0, 0, 0, 0, 0, 0, 0, 0, 0, 0, 0, 0, 0, 0, 0, 0, 0, 0, 0, 0, 0, 0, 0, 0, 0, 0, 0, 0, 0, 0, 0, 0, 0, 0, 0, 0, 0, 0, 0, 0, 0, 0, 0, 0, 0, 0, 0, 0, 0, 0, 0, 0, 0, 0, 0, 0, 0, 0, 0, 0, 0, 8, 4, 20, 23, 1, 1, 1, 1, 1, 1, 20, 20, 20, 20, 20, 20, 7, 20, 20, 7, 20, 20, 7, 20, 20, 5, 20, 20, 20, 20, 20, 0, 0, 0, 0, 0, 0, 0, 0, 0, 0, 0, 0, 0, 0, 0, 0, 0, 0, 0, 0, 0, 0, 0, 0, 0, 0, 0, 0, 0, 0, 0, 0, 0, 0, 0, 0, 0, 0, 0, 0, 0, 0, 0, 0, 0, 0, 0, 0, 0, 0, 0, 0, 0, 0, 0, 0, 0, 0, 0, 0, 0, 0, 0, 0, 0, 0, 0, 0, 0, 5, 20, 20, 20, 20, 20, 0, 0, 0, 0, 5, 20, 20, 20, 20, 20, 0, 0, 0, 0, 5, 20, 20, 20, 20, 20, 0, 0, 0, 0, 5, 20, 20, 20, 20, 20, 0, 0, 0, 0, 5, 20, 20, 20, 20, 20, 0, 0, 0, 0, 5, 20, 20, 20, 20, 20, 0, 0, 0, 0, 0, 0, 0, 0, 0, 0, 0, 0, 0, 0, 0, 0, 0, 0, 0, 0, 0, 0, 0, 0, 0, 0, 0, 0, 0, 0, 0, 0, 0, 0, 0, 0, 0, 0, 0, 0, 0, 0, 0, 0, 9, 21, 9, 21, 9, 21, 9, 21, 9, 21, 9, 21, 0, 0, 0, 0, 0, 0, 0, 0, 0, 0, 0, 0, 0, 0, 0, 0, 0, 0, 0, 0, 0, 0, 0, 0, 0, 0, 0, 0, 0, 0, 0, 0, 0, 0, 0, 0, 0, 0, 0, 0, 0, 0, 0, 0, 0, 0, 0, 0, 0, 0, 0, 0, 0, 0, 0, 0, 0, 0, 0, 0, 0, 0, 0, 0, 0, 0, 0, 0, 0, 0, 0, 0, 0, 0, 0, 0, 0, 0, 0, 0, 0, 0, 0, 0, 0, 0, 0, 0, 0, 0, 0, 0, 0, 0, 0, 0, 0, 0, 0, 0, 0, 0, 0, 0, 0, 0, 0, 0, 0, 0, 0, 0, 0, 0, 0, 0, 0, 0, 0, 0, 0, 0, 0, 0, 0, 0, 0, 0, 0, 0, 0, 0, 0, 0, 0, 0, 0, 0, 0, 0, 0, 0, 0, 0, 0, 0, 0, 0, 0, 0, 0, 0, 0, 0, 0, 0, 0, 0, 0, 0, 0, 0, 0, 0, 0, 0, 0, 0, 0, 0, 0, 0, 0, 0, 0, 0, 0, 0, 0, 0, 0, 0, 0, 0, 0, 0, 0, 0, 0, 0, 0, 0, 0, 0, 0, 0, 0, 0, 0, 0, 0, 0, 0, 0, 0, 0, 0, 0, 0, 0, 0, 0, 0, 0, 0, 0, 0, 0, 0, 0, 0, 0, 0, 0, 0, 0, 0, 0, 0, 0, 0, 0, 0, 0, 0, 0, 0, 0, 0, 0, 0, 0, 0, 0, 0, 0, 0, 0, 0, 0, 0, 0, 0, 0, 0, 0, 0, 0, 0, 0, 0, 0, 0, 0, 0, 0, 0, 0, 0, 0, 0, 0, 0, 0, 0, 0, 0, 0, 0, 0, 0, 0, 0, 0, 0, 0, 0, 0, 0, 40, 40, 0, 0, 0, 0, 0, 0, 0, 0, 50, 50, 50, 50, 50, 50, 50, 0, 0, 0, 0, 0, 0, 0, 0, 0, 0, 0, 0, 0, 41, 41, 41, 41, 41, 41, 41, 0, 0, 0, 0, 0, 0, 0, 0, 0, 0, 0, 0, 0, 0, 0, 0, 0, 0, 0, 0, 0, 0, 0, 0, 0, 0, 0, 0, 0, 0, 0, 0, 0, 0, 0, 0, 0, 0, 0, 0, 0, 0, 0, 0, 0, 0, 0, 0, 0, 0, 0, 0, 0, 0, 0, 0, 0, 0, 0, 0, 0, 0] : List Nat).getD o 0 else 0
def x_kdR (o : Nat) : Nat := if o < 900 then ([0, 0, 0, 0, 0, 0, 0, 0, 0, 0, 0, 0, 0, 0, 0, 0, 0, 0, 0, 0, 0, 0, 0, 0, 0, 0, 0, 0, 0, 0, 0, 0, 0, 0, 0, 0, 0, 0, 0, 0, 0, 0, 0, 0, 0, 0, 0, 0, 0, 0, 0, 0, 0, 0, 0, 0, 0, 0, 0, 0, 0, 0, 0, 0, 0, 0, 0, 0, 0, 0, 0, 0, 0, 0, 0, 0, 0, 0, 0, 0, 0, 0, 0, 0, 0, 0, 0, 0, 0, 0, 0, 0, 0, 0, 0, 0, 0, 0, 0, 0, 0, 0, 0, 0, 0, 0, 0, 0, 0, 0, 0, 0, 0, 0, 0, 0, 0, 0, 0, 0, 0, 0, 0, 0, 0, 0, 0, 0, 0, 0, 0, 0, 0, 0, 0, 0, 0, 0, 0, 0, 0, 0, 0, 0, 0, 0, 0, 0, 0, 0, 0, 0, 0, 0, 0, 0, 0, 0, 0, 0, 0, 0, 0, 0, 0, 0, 0, 0, 0, 0, 0, 0, 0, 0, 0, 0, 0, 0, 0, 0, 0, 0, 0, 0, 0, 0, 0, 0, 0, 0, 0, 0, 0, 0, 0, 0, 0, 0, 0, 0, 0, 0, 0, 0, 0, 0, 0, 0, 0, 0, 0, 0, 0, 0, 0, 0, 0, 0, 0, 0, 0, 0, 0, 0, 0, 0, 0, 0, 0, 0, 0, 0, 0, 0, 0, 0, 0, 0, 0, 0, 0, 0, 0, 0, 0, 0, 0, 0, 0, 0, 0, 0, 0, 0, 0, 0, 0, 0, 0, 0, 0, 0, 0, 0, 0, 0, 0, 0, 0, 0, 0, 0, 0, 0, 0, 0, 0, 0, 0, 0, 0, 0, 0, 0, 0, 0, 0, 0, 0, 0, 0, 0, 0, 0, 0, 0, 0, 0, 0, 0, 0, 0, 0, 0, 0, 0, 0, 0, 0, 0, 0, 0, 0, 0, 0, 0, 0, 0, 0, 0, 0, 0, 0, 0, 0, 0, 0, 0, 0, 0, 0, 0, 0, 0, 0, 0, 0, 0, 0, 0, 0, 0, 0, 0, 0, 0, 0, 0, 0, 0, 0, 0, 0, 0, 0, 0, 0, 0, 0, 0, 0, 0, 0, 0, 0, 0, 0, 0, 0, 0, 0, 0, 0, 0, 0, 0, 0, 0, 0, 0, 0, 0, 0, 0, 0, 0, 0, 0, 0, 0, 0, 0, 0, 0, 0, 0, 0, 0, 0, 0, 0, 0, 0, 0, 0, 0, 0, 0, 0, 0, 0, 0, 0, 0, 0, 0, 0, 0, 0, 0, 0, 0, 0, 0, 0, 0, 0, 0, 0, 0, 0, 0, 0, 0, 0, 0, 0, 0, 0, 0, 0, 0, 0, 0, 0, 0, 0, 0, 0, 0, 0, 0, 0, 0, 0, 0, 0, 0, 0, 0, 0, 0, 0, 0, 0, 0, 0, 0, 0, 0, 0, 0, 0, 0, 0, 0, 0, 0, 0, 0, 0, 0, 0, 0, 0, 0, 0, 0, 0, 0, 0, 0, 0, 0, 0, 0, 0, 0, 0, 0, 0, 0, 0, 0, 0, 0, 0, 0, 0, 0, 0, 0, 0, 0, 0, 0, 0, 0, 0, 0, 0, 0, 0, 0, 0, 0, 0, 0, 0, 0, 0, 0, 0, 0, 0, 0, 0, 0, 0, 0, 0, 0, 0, 0, 0, 0, 0, 0, 0, 0, 0, 0, 0, 0, 0, 0, 0, 0, 0, 0, 0, 0, 0, 0, 0, 0, 0, 0, 0, 0, 0, 0, 0, 0, 0, 0, 0, 0, 0, 0, 0, 0, 0, 0, 0, 0, 0, 0, 0, 0, 0, 0, 0, 0, 0, 0, 0, 0, 0, 0, 11, 0, 0, 0, 0, 20, 20, 20, 20, 20, 20, 20, 0, 0, 0, 0, 0, 20, 20, 20, 20, 20, 20, 20, 20, 0, 0, 0, 20, 22, 0, 0, 0, 0, 20, 20, 0, 0, 0, 20, 20, 0, 20, 20, 0, 0, 20, 20, 20, 20, 0, 0, 0, 0, 0, 0, 0, 0, 0, 20, 20, 20, 20, 20, 20, 20, 20, 20, 20, 20, 20, 20, 0, 20, 20, 20, 21, 21, 0, 0, 0, 0, 0, 0, 0, 0, 0, 0, 0, 0, 0, 0, 0, 0, 0, 0, 0, 0, 0, 0, 0, 0, 0, 0, 0, 0, 0, 0, 0, 0, 0, 0, 0, 0, 0, 0, 0, 0, 0, 0, 0, 0, 0, 0, 0, 0, 0, 0, 0, 0, 0, 0, 0, 0, 0, 0, 0, 0, 0, 0, 0, 0, 0, 0, 0, 0, 0, 0, 0, 0, 0, 0, 0, 0, 0, 0, 0, 0, 0, 0, 0, 0, 0, 0, 0, 0, 0, 0, 0, 0, 0, 0, 0, 0, 0, 0, 0, 0, 0, 0, 0, 0, 0, 0, 0, 0, 0, 0, 0, 0, 0, 0, 0, 0, 0, 0, 0, 0, 0, 0, 0, 0, 0, 0, 0, 0, 0, 0, 0, 0, 0, 0, 0, 0, 0, 0, 0, 0, 0, 0, 0, 0, 0, 0, 0, 0, 0, 0, 0, 0, 0, 0, 0, 0, 0, 0, 0, 0, 0, 0, 0, 0, 0, 0, 0, 0, 0, 0, 0, 0, 0, 0, 0, 0, 0, 0, 0, 0, 0, 0, 0, 0, 0, 0, 0, 0, 0, 0, 0, 0, 0, 0, 0, 0, 0, 0, 0, 0, 0, 0, 0, 0, 0, 0, 0, 0, 0, 0, 0, 0, 0, 0, 0, 0, 0, 0, 0, 0, 0, 0] : List Nat).getD o 0 else 0
def x_lnA (o : Nat) : Nat := if o < 900 then ([0, 0, 0, 0, 100, 6, 6, 0, 20, 0, 0, 0, 0, 0, 0, 0, 0, 0, 0, 0, 0, 0, 0, 0, 0, 0, 0, 0, 0, 0, 0, 0, 0, 0, 0, 0, 0, 0, 0, 0, 0, 0, 0, 0, 0, 0, 0, 0, 0, 0, 0, 0, 0, 0, 0, 0, 0, 0, 0, 0, 0, 0, 0, 0, 0, 0, 0, 0, 0, 0, 0, 0, 0, 0, 0, 0, 0, 0, 0, 0, 0, 0, 0, 0, 0, 0, 0, 0, 0, 0, 0, 0, 0, 0, 0, 0, 0, 0, 0, 0, 0, 0, 6, 6, 0, 0, 0, 0, 0, 0, 4, 4, 4, 4, 4, 4, 0, 8, 8, 0, 8, 8, 0, 8, 8, 0, 10, 10, 10, 100, 6, 0, 0, 0, 0, 0, 0, 0, 0, 0, 0, 0, 0, 0, 0, 0, 0, 0, 0, 0, 0, 0, 0, 0, 0, 0, 0, 0, 0, 0, 0, 0, 0, 0, 0, 0, 0, 0, 0, 0, 0, 0, 0, 0, 0, 0, 0, 0, 0, 0, 0, 0, 0, 0, 0, 0, 0, 0, 0, 0, 0, 0, 0, 0, 0, 0, 0, 0, 0, 0, 0, 0, 6, 6, 0, 0, 0, 0, 0, 0, 4, 4, 4, 4, 4, 4, 0, 8, 8, 0, 8, 8, 0, 8, 8, 0, 10, 10, 10, 100, 6, 0, 0, 0, 0, 0, 0, 0, 0, 0, 0, 0, 0, 0, 0, 0, 0, 0, 0, 0, 0, 0, 0, 0, 0, 0, 0, 0, 0, 0, 0, 0, 0, 0, 0, 0, 0, 0, 0, 0, 0, 0, 0, 0, 0, 0, 0, 0, 0, 0, 0, 0, 0, 0, 0, 0, 0, 0, 0, 0, 0, 0, 0, 0, 0, 0, 0, 0, 0, 0, 0, 0, 6, 6, 0, 0, 0, 0, 0, 0, 4, 4, 4, 4, 4, 4, 0, 8, 8, 0, 8, 8, 0, 8, 8, 0, 10, 10, 10, 100, 6, 0, 0, 0, 0, 0, 0, 0, 0, 0, 0, 0, 0, 0, 0, 0, 0, 0, 0, 0, 0, 0, 0, 0, 0, 0, 0, 0, 0, 0, 0, 0, 0, 0, 0, 0, 0, 0, 0, 0, 0, 0, 0, 0, 0, 0, 0, 0, 0, 0, 0, 0, 0, 0, 0, 0, 0, 0, 0, 0, 0, 0, 0, 0, 0, 0, 0, 0, 0, 0, 0, 10, 10, 10, 100, 6, 0, 0, 0, 0, 0, 10, 10, 10, 100, 6, 0, 0, 0, 0, 0, 10, 10, 10, 100, 6, 0, 0, 0, 0, 0, 10, 10, 10, 100, 6, 0, 0, 0, 0, 0, 10, 10, 10, 100, 6, 0, 0, 0, 0, 0, 10, 10, 10, 100, 6, 0, 0, 0, 0, 0, 0, 0, 0, 0, 0, 0, 0, 0, 0, 0, 0, 0, 0, 0, 0, 0, 0, 0, 0, 0, 0, 0, 0, 0, 0, 0, 0, 0, 0, 0, 0, 0, 0, 0, 0, 0, 0, 0, 0, 0, 60, 0, 60, 0, 60, 0, 60, 0, 60, 0, 60, 0, 0, 0, 0, 0, 0, 0, 0, 0, 0, 0, 0, 0, 0, 0, 0, 0, 0, 0, 0, 0, 0, 0, 0, 0, 0, 0, 0, 0, 0, 0, 0, 0, 0, 0, 0, 0, 0, 0, 0, 0, 0, 0, 0, 0, 0, 0, 0, 0, 0, 0, 0, 0, 0, 0, 0, 0, 0, 0, 0, 0, 0, 0, 0, 0, 0, 0, 0, 0, 0, 0, 0, 0, 0, 0, 0, 0, 0, 0, 0, 0, 0, 0, 0, 0, 0, 0, 0, 0, 0, 0, 0, 0, 6, 6, 6, 6, 6, 6, 24, 0, 0, 0, 0, 0, 100, 6, 60, 60, 60, 60, 600, 101, 0, 0, 0, 22, 100, 0, 0, 0, 0, 6, 6, 0, 0, 0, 6, 6, 0, 4, 4, 0, 0, 8, 8, 8, 8, 0, 0, 0, 0, 0, 0, 0, 0, 0, 6, 6, 6, 6, 6, 6, 24, 4, 4, 8, 8, 8, 8, 0, 20, 6, 6, 360, 60, 0, 0, 0, 0, 0, 0, 0, 0, 0, 0, 0, 0, 0, 0, 0, 0, 0, 0, 0, 0, 0, 0, 0, 0, 0, 0, 0, 0, 0, 0, 0, 0, 0, 0, 0, 0, 0, 0, 0, 0, 0, 0, 0, 0, 0, 0, 0, 0, 0, 0, 0, 0, 0, 0, 0, 0, 0, 0, 0, 0, 0, 0, 0, 0, 0, 0, 0, 0, 0, 0, 0, 0, 0, 0, 0, 0, 0, 0, 0, 0, 0, 0, 0, 0, 0, 0, 0, 0, 0, 0, 0, 0, 0, 0, 0, 0, 0, 0, 0, 0, 0, 0, 0, 0, 0, 0, 0, 0, 0, 0, 0, 0, 0, 0, 0, 0, 0, 0, 0, 0, 0, 0, 0, 7, 21, 0, 0, 0, 0, 0, 0, 0, 0, 0, 0, 0, 0, 0, 0, 0, 0, 0, 0, 0, 0, 0, 0, 0, 0, 0, 0, 0, 0, 6, 3, 4, 5, 4, 6, 3, 0, 0, 0, 0, 0, 0, 0, 0, 0, 0, 0, 0, 0, 0, 0, 0, 0, 0, 0, 0, 0, 0, 0, 0, 0, 0, 0, 0, 0, 0, 0, 0, 0, 0, 0, 0, 0, 0, 0, 0, 0, 0, 0, 0, 0, 0, 0, 0, 0, 0, 0, 0, 0, 0, 0, 0, 0, 0, 0, 0, 0, 0] : List Nat).getD o 0 else 0
def x_ixA (o : Nat) : Nat := if o < 900 then ([0, 1, 64, 96, 97, 98, 99, 100, 101, 0, 0, 0, 0, 0, 0, 0, 0, 0, 0, 0, 0, 0, 0, 0, 0, 0, 0, 0, 0, 0, 0, 0, 0, 0, 0, 0, 0, 0, 0, 0, 0, 0, 0, 0, 0, 0, 0, 0, 0, 0, 0, 0, 0, 0, 0, 0, 0, 0, 0, 0, 0, 0, 0, 0, 0, 0, 0, 0, 0, 0, 0, 0, 0, 0, 0, 0, 0, 0, 0, 0, 0, 0, 0, 0, 0, 0, 0, 0, 0, 0, 0, 0, 0, 0, 0, 0, 0, 0, 0, 0, 2, 3, 4, 5, 21, 23, 25, 27, 29, 31, 22, 24, 26, 28, 30, 32, 6, 7, 8, 9, 10, 11, 12, 13, 14, 15, 16, 17, 18, 19, 20, 0, 0, 0, 0, 0, 0, 0, 0, 0, 0, 0, 0, 0, 0, 0, 0, 0, 0, 0, 0, 0, 0, 0, 0, 0, 0, 0, 0, 0, 0, 0, 0, 0, 0, 0, 0, 0, 0, 0, 0, 0, 0, 0, 0, 0, 0, 0, 0, 0, 0, 0, 0, 0, 0, 0, 0, 0, 0, 0, 0, 0, 0, 0, 0, 0, 0, 0, 0, 0, 33, 34, 35, 36, 52, 54, 56, 58, 60, 62, 53, 55, 57, 59, 61, 63, 37, 38, 39, 40, 41, 42, 43, 44, 45, 46, 47, 48, 49, 50, 51, 0, 0, 0, 0, 0, 0, 0, 0, 0, 0, 0, 0, 0, 0, 0, 0, 0, 0, 0, 0, 0, 0, 0, 0, 0, 0, 0, 0, 0, 0, 0, 0, 0, 0, 0, 0, 0, 0, 0, 0, 0, 0, 0, 0, 0, 0, 0, 0, 0, 0, 0, 0, 0, 0, 0, 0, 0, 0, 0, 0, 0, 0, 0, 0, 0, 0, 0, 0, 0, 65, 66, 67, 68, 84, 86, 88, 90, 92, 94, 85, 87, 89, 91, 93, 95, 69, 70, 71, 72, 73, 74, 75, 76, 77, 78, 79, 80, 81, 82, 83, 0, 0, 0, 0, 0, 0, 0, 0, 0, 0, 0, 0, 0, 0, 0, 0, 0, 0, 0, 0, 0, 0, 0, 0, 0, 0, 0, 0, 0, 0, 0, 0, 0, 0, 0, 0, 0, 0, 0, 0, 0, 0, 0, 0, 0, 0, 0, 0, 0, 0, 0, 0, 0, 0, 0, 0, 0, 0, 0, 0, 0, 0, 0, 0, 0, 0, 0, 0, 0, 102, 103, 104, 105, 106, 107, 0, 0, 0, 0, 108, 109, 110, 111, 112, 113, 0, 0, 0, 0, 114, 115, 116, 117, 118, 119, 0, 0, 0, 0, 120, 121, 122, 123, 124, 125, 0, 0, 0, 0, 126, 127, 128, 129, 130, 131, 0, 0, 0, 0, 132, 133, 134, 135, 136, 137, 0, 0, 0, 0, 0, 0, 0, 0, 0, 0, 0, 0, 0, 0, 0, 0, 0, 0, 0, 0, 0, 0, 0, 0, 0, 0, 0, 0, 0, 0, 0, 0, 0, 0, 0, 0, 0, 0, 0, 0, 0, 0, 0, 0, 138, 139, 140, 141, 142, 143, 144, 145, 146, 147, 148, 149, 0, 0, 0, 0, 0, 0, 0, 0, 0, 0, 0, 0, 0, 0, 0, 0, 0, 0, 0, 0, 0, 0, 0, 0, 0, 0, 0, 0, 0, 0, 0, 0, 0, 0, 0, 0, 0, 0, 0, 0, 0, 0, 0, 0, 0, 0, 0, 0, 0, 0, 0, 0, 0, 0, 0, 0, 0, 0, 0, 0, 0, 0, 0, 0, 0, 0, 0, 0, 0, 0, 0, 0, 0, 0, 0, 0, 0, 0, 0, 0, 0, 0, 0, 0, 0, 0, 0, 0, 150, 0, 0, 0, 0, 151, 152, 153, 154, 155, 156, 157, 0, 0, 0, 0, 0, 158, 159, 160, 161, 162, 163, 164, 165, 0, 0, 0, 166, 167, 0, 0, 0, 0, 168, 169, 0, 0, 0, 170, 171, 0, 172, 173, 0, 0, 174, 175, 176, 177, 0, 0, 0, 0, 0, 0, 0, 0, 0, 178, 179, 180, 181, 182, 183, 184, 185, 186, 187, 188, 189, 190, 0, 191, 192, 193, 194, 195, 0, 0, 0, 0, 0, 0, 0, 0, 0, 0, 0, 0, 0, 0, 0, 0, 0, 0, 0, 0, 0, 0, 0, 0, 0, 0, 0, 0, 0, 0, 0, 0, 0, 0, 0, 0, 0, 0, 0, 0, 0, 0, 0, 0, 0, 0, 0, 0, 0, 0, 0, 0, 0, 0, 0, 0, 0, 0, 0, 0, 0, 0, 0, 0, 0, 0, 0, 0, 0, 0, 0, 0, 0, 0, 0, 0, 0, 0, 0, 0, 0, 0, 0, 0, 0, 0, 0, 0, 0, 0, 0, 0, 0, 0, 0, 0, 0, 0, 0, 0, 0, 0, 0, 0, 0, 0, 0, 0, 0, 0, 0, 0, 0, 0, 0, 0, 0, 0, 0, 0, 0, 0, 0, 0, 0, 0, 0, 0, 0, 0, 0, 0, 0, 0, 0, 0, 0, 0, 0, 0, 0, 0, 0, 0, 0, 0, 0, 0, 0, 0, 0, 0, 0, 0, 0, 0, 0, 0, 0, 0, 0, 0, 0, 0, 0, 0, 0, 0, 0, 0, 0, 0, 0, 0, 0, 0, 0, 0, 0, 0, 0, 0, 0, 0, 0, 0, 0, 0, 0, 0, 0, 0, 0, 0, 0, 0, 0, 0, 0, 0, 0, 0, 0, 0, 0, 0, 0, 0, 0, 0, 0, 0, 0, 0, 0, 0, 0, 0, 0, 0, 0, 0] : List Nat).getD o 0 else 0
def x_ordA : List Nat := [1, 100, 101, 102, 103, 116, 117, 118, 119, 120, 121, 122, 123, 124, 125, 126, 127, 128, 129, 130, 104, 110, 105, 111, 106, 112, 107, 113, 108, 114, 109, 115, 200, 201, 202, 203, 216, 217, 218, 219, 220, 221, 222, 223, 224, 225, 226, 227, 228, 229, 230, 204, 210, 205, 211, 206, 212, 207, 213, 208, 214, 209, 215, 2, 300, 301, 302, 303, 316, 317, 318, 319, 320, 321, 322, 323, 324, 325, 326, 327, 328, 329, 330, 304, 310, 305, 311, 306, 312, 307, 313, 308, 314, 309, 315, 3, 4, 5, 6, 7, 8, 400, 401, 402, 403, 404, 405, 410, 411, 412, 413, 414, 415, 420, 421, 422, 423, 424, 425, 430, 431, 432, 433, 434, 435, 440, 441, 442, 443, 444, 445, 450, 451, 452, 453, 454, 455, 500, 501, 502, 503, 504, 505, 506, 507, 508, 509, 510, 511, 600, 605, 606, 607, 608, 609, 610, 611, 617, 618, 619, 620, 621, 622, 623, 624, 628, 629, 634, 635, 639, 640, 642, 643, 646, 647, 648, 649, 659, 660, 661, 662, 663, 664, 665, 666, 667, 668, 669, 670, 671, 673, 674, 675, 676, 677]
abbrev XC (ad : Nat → Nat) (D : va_G) (cA : Nat → ClassId) : x_X := (x_kdC, x_lnA, ad, D, cA)
abbrev XR (ad : Nat → Nat) (D : va_G) (cA : Nat → ClassId) : x_X := (x_kdR, x_lnA, ad, D, cA)
def x_byA : List (List Int32) := [[115, 112, 114, 105, 110, 103], [115, 117, 110], [109, 97, 114, 107], [102, 108, 111, 111, 114], [114, 97, 116, 101], [100, 109, 108, 97, 107, 98], [60, 61, 62]]
def x_U0 : x_M := (fun o j => if o = 801 then ([(-1), 0, 0, 0, 1, 2, 3] : List Int32).getD j 0 else if o = 802 then ([10, 11, 12, 0, 20, 0, 30, 0, 0, 0, 0, 40, 50, 51, 0, 0, 0, 60, 71, 70, 0] : List Int32).getD j 0 else if 831 ≤ o ∧ o < 838 then (x_byA.getD (o - 831) []).getD j 0 else 0, fun o j => if 811 ≤ o ∧ o < 818 ∧ j = 1 then o + 20 else 0, fun _ _ => 0)
def x_V0 : x_M := (fun _ _ => 0, fun _ _ => 0, fun _ _ => 0)
theorem kd_1 : x_kdC 1 = 10 := by decide +kernel
theorem ix_1 : x_ixA 1 = 1 := by decide +kernel
theorem ln_1 : x_lnA 1 = 0 := by decide +kernel
theorem kd_2 : x_kdC 2 = 3 := by decide +kernel
theorem ix_2 : x_ixA 2 = 64 := by decide +kernel
theorem ln_2 : x_lnA 2 = 0 := by decide +kernel
theorem kd_3 : x_kdC 3 = 6 := by decide +kernel
theorem ix_3 : x_ixA 3 = 96 := by decide +kernel
theorem ln_3 : x_lnA 3 = 0 := by decide +kernel
theorem kd_4 : x_kdC 4 = 20 := by decide +kernel
theorem ix_4 : x_ixA 4 = 97 := by decide +kernel
theorem ln_4 : x_lnA 4 = 100 := by decide +kernel
theorem kd_5 : x_kdC 5 = 24 := by decide +kernel
theorem ix_5 : x_ixA 5 = 98 := by decide +kernel
theorem ln_5 : x_lnA 5 = 6 := by decide +kernel
theorem kd_6 : x_kdC 6 = 25 := by decide +kernel
theorem ix_6 : x_ixA 6 = 99 := by decide +kernel
theorem ln_6 : x_lnA 6 = 6 := by decide +kernel
theorem kd_7 : x_kdC 7 = 2 := by decide +kernel
theorem ix_7 : x_ixA 7 = 100 := by decide +kernel
theorem ln_7 : x_lnA 7 = 0 := by decide +kernel
theorem kd_8 : x_kdC 8 = 20 := by decide +kernel
theorem ix_8 : x_ixA 8 = 101 := by decide +kernel
theorem ln_8 : x_lnA 8 = 20 := by decide +kernel
theorem kd_100 : x_kdC 100 = 8 := by decide +kernel
theorem ix_100 : x_ixA 100 = 2 := by decide +kernel
theorem ln_100 : x_lnA 100 = 0 := by decide +kernel
theorem kd_101 : x_kdC 101 = 4 := by decide +kernel
theorem ix_101 : x_ixA 101 = 3 := by decide +kernel
theorem ln_101 : x_lnA 101 = 0 := by decide +kernel
theorem kd_102 : x_kdC 102 = 20 := by decide +kernel
theorem ix_102 : x_ixA 102 = 4 := by decide +kernel
theorem ln_102 : x_lnA 102 = 6 := by decide +kernel
theorem kd_103 : x_kdC 103 = 23 := by decide +kernel
theorem ix_103 : x_ixA 103 = 5 := by decide +kernel
theorem ln_103 : x_lnA 103 = 6 := by decide +kernel
theorem kd_104 : x_kdC 104 = 1 := by decide +kernel
theorem ix_104 : x_ixA 104 = 21 := by decide +kernel
theorem ln_104 : x_lnA 104 = 0 := by decide +kernel
theorem kd_105 : x_kdC 105 = 1 := by decide +kernel
theorem ix_105 : x_ixA 105 = 23 := by decide +kernel
theorem ln_105 : x_lnA 105 = 0 := by decide +kernel
theorem kd_106 : x_kdC 106 = 1 := by decide +kernel
theorem ix_106 : x_ixA 106 = 25 := by decide +kernel
theorem ln_106 : x_lnA 106 = 0 := by decide +kernel
theorem kd_107 : x_kdC 107 = 1 := by decide +kernel
theorem ix_107 : x_ixA 107 = 27 := by decide +kernel
theorem ln_107 : x_lnA 107 = 0 := by decide +kernel
theorem kd_108 : x_kdC 108 = 1 := by decide +kernel
theorem ix_108 : x_ixA 108 = 29 := by decide +kernel
theorem ln_108 : x_lnA 108 = 0 := by decide +kernel
theorem kd_109 : x_kdC 109 = 1 := by decide +kernel
theorem ix_109 : x_ixA 109 = 31 := by decide +kernel
theorem ln_109 : x_lnA 109 = 0 := by decide +kernel
theorem kd_110 : x_kdC 110 = 20 := by decide +kernel
theorem ix_110 : x_ixA 110 = 22 := by decide +kernel
theorem ln_110 : x_lnA 110 = 4 := by decide +kernel
theorem kd_111 : x_kdC 111 = 20 := by decide +kernel
theorem ix_111 : x_ixA 111 = 24 := by decide +kernel
theorem ln_111 : x_lnA 111 = 4 := by decide +kernel
theorem kd_112 : x_kdC 112 = 20 := by decide +kernel
theorem ix_112 : x_ixA 112 = 26 := by decide +kernel
theorem ln_112 : x_lnA 112 = 4 := by decide +kernel
theorem kd_113 : x_kdC 113 = 20 := by decide +kernel
theorem ix_113 : x_ixA 113 = 28 := by decide +kernel
theorem ln_113 : x_lnA 113 = 4 := by decide +kernel
theorem kd_114 : x_kdC 114 = 20 := by decide +kernel
theorem ix_114 : x_ixA 114 = 30 := by decide +kernel
theorem ln_114 : x_lnA 114 = 4 := by decide +kernel
theorem kd_115 : x_kdC 115 = 20 := by decide +kernel
theorem ix_115 : x_ixA 115 = 32 := by decide +kernel
theorem ln_115 : x_lnA 115 = 4 := by decide +kernel
theorem kd_116 : x_kdC 116 = 7 := by decide +kernel
theorem ix_116 : x_ixA 116 = 6 := by decide +kernel
theorem ln_116 : x_lnA 116 = 0 := by decide +kernel
theorem kd_117 : x_kdC 117 = 20 := by decide +kernel
theorem ix_117 : x_ixA 117 = 7 := by decide +kernel
theorem ln_117 : x_lnA 117 = 8 := by decide +kernel
theorem kd_118 : x_kdC 118 = 20 := by decide +kernel
theorem ix_118 : x_ixA 118 = 8 := by decide +kernel
theorem ln_118 : x_lnA 118 = 8 := by decide +kernel
theorem kd_119 : x_kdC 119 = 7 := by decide +kernel
theorem ix_119 : x_ixA 119 = 9 := by decide +kernel
theorem ln_119 : x_lnA 119 = 0 := by decide +kernel
theorem kd_120 : x_kdC 120 = 20 := by decide +kernel
theorem ix_120 : x_ixA 120 = 10 := by decide +kernel
theorem ln_120 : x_lnA 120 = 8 := by decide +kernel
theorem kd_121 : x_kdC 121 = 20 := by decide +kernel
theorem ix_121 : x_ixA 121 = 11 := by decide +kernel
theorem ln_121 : x_lnA 121 = 8 := by decide +kernel
theorem kd_122 : x_kdC 122 = 7 := by decide +kernel
theorem ix_122 : x_ixA 122 = 12 := by decide +kernel
theorem ln_122 : x_lnA 122 = 0 := by decide +kernel
theorem kd_123 : x_kdC 123 = 20 := by decide +kernel
theorem ix_123 : x_ixA 123 = 13 := by decide +kernel
theorem ln_123 : x_lnA 123 = 8 := by decide +kernel
theorem kd_124 : x_kdC 124 = 20 := by decide +kernel
theorem ix_124 : x_ixA 124 = 14 := by decide +kernel
theorem ln_124 : x_lnA 124 = 8 := by decide +kernel
theorem kd_125 : x_kdC 125 = 5 := by decide +kernel
theorem ix_125 : x_ixA 125 = 15 := by decide +kernel
theorem ln_125 : x_lnA 125 = 0 := by decide +kernel
theorem kd_126 : x_kdC 126 = 20 := by decide +kernel
theorem ix_126 : x_ixA 126 = 16 := by decide +kernel
theorem ln_126 : x_lnA 126 = 10 := by decide +kernel
theorem kd_127 : x_kdC 127 = 20 := by decide +kernel
theorem ix_127 : x_ixA 127 = 17 := by decide +kernel
theorem ln_127 : x_lnA 127 = 10 := by decide +kernel
theorem kd_128 : x_kdC 128 = 20 := by decide +kernel
theorem ix_128 : x_ixA 128 = 18 := by decide +kernel
theorem ln_128 : x_lnA 128 = 10 := by decide +kernel
theorem kd_129 : x_kdC 129 = 20 := by decide +kernel
theorem ix_129 : x_ixA 129 = 19 := by decide +kernel
theorem ln_129 : x_lnA 129 = 100 := by decide +kernel
theorem kd_130 : x_kdC 130 = 20 := by decide +kernel
theorem ix_130 : x_ixA 130 = 20 := by decide +kernel
theorem ln_130 : x_lnA 130 = 6 := by decide +kernel
theorem kd_200 : x_kdC 200 = 8 := by decide +kernel
theorem ix_200 : x_ixA 200 = 33 := by decide +kernel
theorem ln_200 : x_lnA 200 = 0 := by decide +kernel
theorem kd_201 : x_kdC 201 = 4 := by decide +kernel
theorem ix_201 : x_ixA 201 = 34 := by decide +kernel
theorem ln_201 : x_lnA 201 = 0 := by decide +kernel
theorem kd_202 : x_kdC 202 = 20 := by decide +kernel
theorem ix_202 : x_ixA 202 = 35 := by decide +kernel
theorem ln_202 : x_lnA 202 = 6 := by decide +kernel
theorem kd_203 : x_kdC 203 = 23 := by decide +kernel
theorem ix_203 : x_ixA 203 = 36 := by decide +kernel
theorem ln_203 : x_lnA 203 = 6 := by decide +kernel
theorem kd_204 : x_kdC 204 = 1 := by decide +kernel
theorem ix_204 : x_ixA 204 = 52 := by decide +kernel
theorem ln_204 : x_lnA 204 = 0 := by decide +kernel
theorem kd_205 : x_kdC 205 = 1 := by decide +kernel
theorem ix_205 : x_ixA 205 = 54 := by decide +kernel
theorem ln_205 : x_lnA 205 = 0 := by decide +kernel
theorem kd_206 : x_kdC 206 = 1 := by decide +kernel
theorem ix_206 : x_ixA 206 = 56 := by decide +kernel
theorem ln_206 : x_lnA 206 = 0 := by decide +kernel
theorem kd_207 : x_kdC 207 = 1 := by decide +kernel
theorem ix_207 : x_ixA 207 = 58 := by decide +kernel
theorem ln_207 : x_lnA 207 = 0 := by decide +kernel
theorem kd_208 : x_kdC 208 = 1 := by decide +kernel
theorem ix_208 : x_ixA 208 = 60 := by decide +kernel
theorem ln_208 : x_lnA 208 = 0 := by decide +kernel
theorem kd_209 : x_kdC 209 = 1 := by decide +kernel
theorem ix_209 : x_ixA 209 = 62 := by decide +kernel
theorem ln_209 : x_lnA 209 = 0 := by decide +kernel
theorem kd_210 : x_kdC 210 = 20 := by decide +kernel
theorem ix_210 : x_ixA 210 = 53 := by decide +kernel
theorem ln_210 : x_lnA 210 = 4 := by decide +kernel
theorem kd_211 : x_kdC 211 = 20 := by decide +kernel
theorem ix_211 : x_ixA 211 = 55 := by decide +kernel
theorem ln_211 : x_lnA 211 = 4 := by decide +kernel
theorem kd_212 : x_kdC 212 = 20 := by decide +kernel
theorem ix_212 : x_ixA 212 = 57 := by decide +kernel
theorem ln_212 : x_lnA 212 = 4 := by decide +kernel
theorem kd_213 : x_kdC 213 = 20 := by decide +kernel
theorem ix_213 : x_ixA 213 = 59 := by decide +kernel
theorem ln_213 : x_lnA 213 = 4 := by decide +kernel
theorem kd_214 : x_kdC 214 = 20 := by decide +kernel
theorem ix_214 : x_ixA 214 = 61 := by decide +kernel
theorem ln_214 : x_lnA 214 = 4 := by decide +kernel
theorem kd_215 : x_kdC 215 = 20 := by decide +kernel
theorem ix_215 : x_ixA 215 = 63 := by decide +kernel
theorem ln_215 : x_lnA 215 = 4 := by decide +kernel
theorem kd_216 : x_kdC 216 = 7 := by decide +kernel
theorem ix_216 : x_ixA 216 = 37 := by decide +kernel
theorem ln_216 : x_lnA 216 = 0 := by decide +kernel
theorem kd_217 : x_kdC 217 = 20 := by decide +kernel
theorem ix_217 : x_ixA 217 = 38 := by decide +kernel
theorem ln_217 : x_lnA 217 = 8 := by decide +kernel
theorem kd_218 : x_kdC 218 = 20 := by decide +kernel
theorem ix_218 : x_ixA 218 = 39 := by decide +kernel
theorem ln_218 : x_lnA 218 = 8 := by decide +kernel
theorem kd_219 : x_kdC 219 = 7 := by decide +kernel
theorem ix_219 : x_ixA 219 = 40 := by decide +kernel
theorem ln_219 : x_lnA 219 = 0 := by decide +kernel
theorem kd_220 : x_kdC 220 = 20 := by decide +kernel
theorem ix_220 : x_ixA 220 = 41 := by decide +kernel
theorem ln_220 : x_lnA 220 = 8 := by decide +kernel
theorem kd_221 : x_kdC 221 = 20 := by decide +kernel
theorem ix_221 : x_ixA 221 = 42 := by decide +kernel
theorem ln_221 : x_lnA 221 = 8 := by decide +kernel
theorem kd_222 : x_kdC 222 = 7 := by decide +kernel
theorem ix_222 : x_ixA 222 = 43 := by decide +kernel
theorem ln_222 : x_lnA 222 = 0 := by decide +kernel
theorem kd_223 : x_kdC 223 = 20 := by decide +kernel
theorem ix_223 : x_ixA 223 = 44 := by decide +kernel
theorem ln_223 : x_lnA 223 = 8 := by decide +kernel
theorem kd_224 : x_kdC 224 = 20 := by decide +kernel
theorem ix_224 : x_ixA 224 = 45 := by decide +kernel
theorem ln_224 : x_lnA 224 = 8 := by decide +kernel
theorem kd_225 : x_kdC 225 = 5 := by decide +kernel
theorem ix_225 : x_ixA 225 = 46 := by decide +kernel
theorem ln_225 : x_lnA 225 = 0 := by decide +kernel
theorem kd_226 : x_kdC 226 = 20 := by decide +kernel
theorem ix_226 : x_ixA 226 = 47 := by decide +kernel
theorem ln_226 : x_lnA 226 = 10 := by decide +kernel
theorem kd_227 : x_kdC 227 = 20 := by decide +kernel
theorem ix_227 : x_ixA 227 = 48 := by decide +kernel
theorem ln_227 : x_lnA 227 = 10 := by decide +kernel
theorem kd_228 : x_kdC 228 = 20 := by decide +kernel
theorem ix_228 : x_ixA 228 = 49 := by decide +kernel
theorem ln_228 : x_lnA 228 = 10 := by decide +kernel
theorem kd_229 : x_kdC 229 = 20 := by decide +kernel
theorem ix_229 : x_ixA 229 = 50 := by decide +kernel
theorem ln_229 : x_lnA 229 = 100 := by decide +kernel
theorem kd_230 : x_kdC 230 = 20 := by decide +kernel
theorem ix_230 : x_ixA 230 = 51 := by decide +kernel
theorem ln_230 : x_lnA 230 = 6 := by decide +kernel
theorem kd_300 : x_kdC 300 = 8 := by decide +kernel
theorem ix_300 : x_ixA 300 = 65 := by decide +kernel
theorem ln_300 : x_lnA 300 = 0 := by decide +kernel
theorem kd_301 : x_kdC 301 = 4 := by decide +kernel
theorem ix_301 : x_ixA 301 = 66 := by decide +kernel
theorem ln_301 : x_lnA 301 = 0 := by decide +kernel
theorem kd_302 : x_kdC 302 = 20 := by decide +kernel
theorem ix_302 : x_ixA 302 = 67 := by decide +kernel
theorem ln_302 : x_lnA 302 = 6 := by decide +kernel
theorem kd_303 : x_kdC 303 = 23 := by decide +kernel
theorem ix_303 : x_ixA 303 = 68 := by decide +kernel
theorem ln_303 : x_lnA 303 = 6 := by decide +kernel
theorem kd_304 : x_kdC 304 = 1 := by decide +kernel
theorem ix_304 : x_ixA 304 = 84 := by decide +kernel
theorem ln_304 : x_lnA 304 = 0 := by decide +kernel
theorem kd_305 : x_kdC 305 = 1 := by decide +kernel
theorem ix_305 : x_ixA 305 = 86 := by decide +kernel
theorem ln_305 : x_lnA 305 = 0 := by decide +kernel
theorem kd_306 : x_kdC 306 = 1 := by decide +kernel
theorem ix_306 : x_ixA 306 = 88 := by decide +kernel
theorem ln_306 : x_lnA 306 = 0 := by decide +kernel
theorem kd_307 : x_kdC 307 = 1 := by decide +kernel
theorem ix_307 : x_ixA 307 = 90 := by decide +kernel
theorem ln_307 : x_lnA 307 = 0 := by decide +kernel
theorem kd_308 : x_kdC 308 = 1 := by decide +kernel
theorem ix_308 : x_ixA 308 = 92 := by decide +kernel
theorem ln_308 : x_lnA 308 = 0 := by decide +kernel
theorem kd_309 : x_kdC 309 = 1 := by decide +kernel
theorem ix_309 : x_ixA 309 = 94 := by decide +kernel
theorem ln_309 : x_lnA 309 = 0 := by decide +kernel
theorem kd_310 : x_kdC 310 = 20 := by decide +kernel
theorem ix_310 : x_ixA 310 = 85 := by decide +kernel
theorem ln_310 : x_lnA 310 = 4 := by decide +kernel
theorem kd_311 : x_kdC 311 = 20 := by decide +kernel
theorem ix_311 : x_ixA 311 = 87 := by decide +kernel
theorem ln_311 : x_lnA 311 = 4 := by decide +kernel
theorem kd_312 : x_kdC 312 = 20 := by decide +kernel
theorem ix_312 : x_ixA 312 = 89 := by decide +kernel
theorem ln_312 : x_lnA 312 = 4 := by decide +kernel
theorem kd_313 : x_kdC 313 = 20 := by decide +kernel
theorem ix_313 : x_ixA 313 = 91 := by decide +kernel
theorem ln_313 : x_lnA 313 = 4 := by decide +kernel
theorem kd_314 : x_kdC 314 = 20 := by decide +kernel
theorem ix_314 : x_ixA 314 = 93 := by decide +kernel
theorem ln_314 : x_lnA 314 = 4 := by decide +kernel
theorem kd_315 : x_kdC 315 = 20 := by decide +kernel
theorem ix_315 : x_ixA 315 = 95 := by decide +kernel
theorem ln_315 : x_lnA 315 = 4 := by decide +kernel
theorem kd_316 : x_kdC 316 = 7 := by decide +kernel
theorem ix_316 : x_ixA 316 = 69 := by decide +kernel
theorem ln_316 : x_lnA 316 = 0 := by decide +kernel
theorem kd_317 : x_kdC 317 = 20 := by decide +kernel
theorem ix_317 : x_ixA 317 = 70 := by decide +kernel
theorem ln_317 : x_lnA 317 = 8 := by decide +kernel
theorem kd_318 : x_kdC 318 = 20 := by decide +kernel
theorem ix_318 : x_ixA 318 = 71 := by decide +kernel
theorem ln_318 : x_lnA 318 = 8 := by decide +kernel
theorem kd_319 : x_kdC 319 = 7 := by decide +kernel
theorem ix_319 : x_ixA 319 = 72 := by decide +kernel
theorem ln_319 : x_lnA 319 = 0 := by decide +kernel
theorem kd_320 : x_kdC 320 = 20 := by decide +kernel
theorem ix_320 : x_ixA 320 = 73 := by decide +kernel
theorem ln_320 : x_lnA 320 = 8 := by decide +kernel
theorem kd_321 : x_kdC 321 = 20 := by decide +kernel
theorem ix_321 : x_ixA 321 = 74 := by decide +kernel
theorem ln_321 : x_lnA 321 = 8 := by decide +kernel
theorem kd_322 : x_kdC 322 = 7 := by decide +kernel
theorem ix_322 : x_ixA 322 = 75 := by decide +kernel
theorem ln_322 : x_lnA 322 = 0 := by decide +kernel
theorem kd_323 : x_kdC 323 = 20 := by decide +kernel
theorem ix_323 : x_ixA 323 = 76 := by decide +kernel
theorem ln_323 : x_lnA 323 = 8 := by decide +kernel
theorem kd_324 : x_kdC 324 = 20 := by decide +kernel
theorem ix_324 : x_ixA 324 = 77 := by decide +kernel
theorem ln_324 : x_lnA 324 = 8 := by decide +kernel
theorem kd_325 : x_kdC 325 = 5 := by decide +kernel
theorem ix_325 : x_ixA 325 = 78 := by decide +kernel
theorem ln_325 : x_lnA 325 = 0 := by decide +kernel
theorem kd_326 : x_kdC 326 = 20 := by decide +kernel
theorem ix_326 : x_ixA 326 = 79 := by decide +kernel
theorem ln_326 : x_lnA 326 = 10 := by decide +kernel
theorem kd_327 : x_kdC 327 = 20 := by decide +kernel
theorem ix_327 : x_ixA 327 = 80 := by decide +kernel
theorem ln_327 : x_lnA 327 = 10 := by decide +kernel
theorem kd_328 : x_kdC 328 = 20 := by decide +kernel
theorem ix_328 : x_ixA 328 = 81 := by decide +kernel
theorem ln_328 : x_lnA 328 = 10 := by decide +kernel
theorem kd_329 : x_kdC 329 = 20 := by decide +kernel
theorem ix_329 : x_ixA 329 = 82 := by decide +kernel
theorem ln_329 : x_lnA 329 = 100 := by decide +kernel
theorem kd_330 : x_kdC 330 = 20 := by decide +kernel
theorem ix_330 : x_ixA 330 = 83 := by decide +kernel
theorem ln_330 : x_lnA 330 = 6 := by decide +kernel
theorem kd_400 : x_kdC 400 = 5 := by decide +kernel
theorem ix_400 : x_ixA 400 = 102 := by decide +kernel
theorem ln_400 : x_lnA 400 = 0 := by decide +kernel
theorem kd_401 : x_kdC 401 = 20 := by decide +kernel
theorem ix_401 : x_ixA 401 = 103 := by decide +kernel
theorem ln_401 : x_lnA 401 = 10 := by decide +kernel
theorem kd_402 : x_kdC 402 = 20 := by decide +kernel
theorem ix_402 : x_ixA 402 = 104 := by decide +kernel
theorem ln_402 : x_lnA 402 = 10 := by decide +kernel
theorem kd_403 : x_kdC 403 = 20 := by decide +kernel
theorem ix_403 : x_ixA 403 = 105 := by decide +kernel
theorem ln_403 : x_lnA 403 = 10 := by decide +kernel
theorem kd_404 : x_kdC 404 = 20 := by decide +kernel
theorem ix_404 : x_ixA 404 = 106 := by decide +kernel
theorem ln_404 : x_lnA 404 = 100 := by decide +kernel
theorem kd_405 : x_kdC 405 = 20 := by decide +kernel
theorem ix_405 : x_ixA 405 = 107 := by decide +kernel
theorem ln_405 : x_lnA 405 = 6 := by decide +kernel
theorem kd_410 : x_kdC 410 = 5 := by decide +kernel
theorem ix_410 : x_ixA 410 = 108 := by decide +kernel
theorem ln_410 : x_lnA 410 = 0 := by decide +kernel
theorem kd_411 : x_kdC 411 = 20 := by decide +kernel
theorem ix_411 : x_ixA 411 = 109 := by decide +kernel
theorem ln_411 : x_lnA 411 = 10 := by decide +kernel
theorem kd_412 : x_kdC 412 = 20 := by decide +kernel
theorem ix_412 : x_ixA 412 = 110 := by decide +kernel
theorem ln_412 : x_lnA 412 = 10 := by decide +kernel
theorem kd_413 : x_kdC 413 = 20 := by decide +kernel
theorem ix_413 : x_ixA 413 = 111 := by decide +kernel
theorem ln_413 : x_lnA 413 = 10 := by decide +kernel
theorem kd_414 : x_kdC 414 = 20 := by decide +kernel
theorem ix_414 : x_ixA 414 = 112 := by decide +kernel
theorem ln_414 : x_lnA 414 = 100 := by decide +kernel
theorem kd_415 : x_kdC 415 = 20 := by decide +kernel
theorem ix_415 : x_ixA 415 = 113 := by decide +kernel
theorem ln_415 : x_lnA 415 = 6 := by decide +kernel
theorem kd_420 : x_kdC 420 = 5 := by decide +kernel
theorem ix_420 : x_ixA 420 = 114 := by decide +kernel
theorem ln_420 : x_lnA 420 = 0 := by decide +kernel
theorem kd_421 : x_kdC 421 = 20 := by decide +kernel
theorem ix_421 : x_ixA 421 = 115 := by decide +kernel
theorem ln_421 : x_lnA 421 = 10 := by decide +kernel
theorem kd_422 : x_kdC 422 = 20 := by decide +kernel
theorem ix_422 : x_ixA 422 = 116 := by decide +kernel
theorem ln_422 : x_lnA 422 = 10 := by decide +kernel
theorem kd_423 : x_kdC 423 = 20 := by decide +kernel
theorem ix_423 : x_ixA 423 = 117 := by decide +kernel
theorem ln_423 : x_lnA 423 = 10 := by decide +kernel
theorem kd_424 : x_kdC 424 = 20 := by decide +kernel
theorem ix_424 : x_ixA 424 = 118 := by decide +kernel
theorem ln_424 : x_lnA 424 = 100 := by decide +kernel
theorem kd_425 : x_kdC 425 = 20 := by decide +kernel
theorem ix_425 : x_ixA 425 = 119 := by decide +kernel
theorem ln_425 : x_lnA 425 = 6 := by decide +kernel
theorem kd_430 : x_kdC 430 = 5 := by decide +kernel
theorem ix_430 : x_ixA 430 = 120 := by decide +kernel
theorem ln_430 : x_lnA 430 = 0 := by decide +kernel
theorem kd_431 : x_kdC 431 = 20 := by decide +kernel
theorem ix_431 : x_ixA 431 = 121 := by decide +kernel
theorem ln_431 : x_lnA 431 = 10 := by decide +kernel
theorem kd_432 : x_kdC 432 = 20 := by decide +kernel
theorem ix_432 : x_ixA 432 = 122 := by decide +kernel
theorem ln_432 : x_lnA 432 = 10 := by decide +kernel
theorem kd_433 : x_kdC 433 = 20 := by decide +kernel
theorem ix_433 : x_ixA 433 = 123 := by decide +kernel
theorem ln_433 : x_lnA 433 = 10 := by decide +kernel
theorem kd_434 : x_kdC 434 = 20 := by decide +kernel
theorem ix_434 : x_ixA 434 = 124 := by decide +kernel
theorem ln_434 : x_lnA 434 = 100 := by decide +kernel
theorem kd_435 : x_kdC 435 = 20 := by decide +kernel
theorem ix_435 : x_ixA 435 = 125 := by decide +kernel
theorem ln_435 : x_lnA 435 = 6 := by decide +kernel
theorem kd_440 : x_kdC 440 = 5 := by decide +kernel
theorem ix_440 : x_ixA 440 = 126 := by decide +kernel
theorem ln_440 : x_lnA 440 = 0 := by decide +kernel
theorem kd_441 : x_kdC 441 = 20 := by decide +kernel
theorem ix_441 : x_ixA 441 = 127 := by decide +kernel
theorem ln_441 : x_lnA 441 = 10 := by decide +kernel
theorem kd_442 : x_kdC 442 = 20 := by decide +kernel
theorem ix_442 : x_ixA 442 = 128 := by decide +kernel
theorem ln_442 : x_lnA 442 = 10 := by decide +kernel
theorem kd_443 : x_kdC 443 = 20 := by decide +kernel
theorem ix_443 : x_ixA 443 = 129 := by decide +kernel
theorem ln_443 : x_lnA 443 = 10 := by decide +kernel
theorem kd_444 : x_kdC 444 = 20 := by decide +kernel
theorem ix_444 : x_ixA 444 = 130 := by decide +kernel
theorem ln_444 : x_lnA 444 = 100 := by decide +kernel
theorem kd_445 : x_kdC 445 = 20 := by decide +kernel
theorem ix_445 : x_ixA 445 = 131 := by decide +kernel
theorem ln_445 : x_lnA 445 = 6 := by decide +kernel
theorem kd_450 : x_kdC 450 = 5 := by decide +kernel
theorem ix_450 : x_ixA 450 = 132 := by decide +kernel
theorem ln_450 : x_lnA 450 = 0 := by decide +kernel
theorem kd_451 : x_kdC 451 = 20 := by decide +kernel
theorem ix_451 : x_ixA 451 = 133 := by decide +kernel
theorem ln_451 : x_lnA 451 = 10 := by decide +kernel
theorem kd_452 : x_kdC 452 = 20 := by decide +kernel
theorem ix_452 : x_ixA 452 = 134 := by decide +kernel
theorem ln_452 : x_lnA 452 = 10 := by decide +kernel
theorem kd_453 : x_kdC 453 = 20 := by decide +kernel
theorem ix_453 : x_ixA 453 = 135 := by decide +kernel
theorem ln_453 : x_lnA 453 = 10 := by decide +kernel
theorem kd_454 : x_kdC 454 = 20 := by decide +kernel
theorem ix_454 : x_ixA 454 = 136 := by decide +kernel
theorem ln_454 : x_lnA 454 = 100 := by decide +kernel
theorem kd_455 : x_kdC 455 = 20 := by decide +kernel
theorem ix_455 : x_ixA 455 = 137 := by decide +kernel
theorem ln_455 : x_lnA 455 = 6 := by decide +kernel
theorem kd_500 : x_kdC 500 = 9 := by decide +kernel
theorem ix_500 : x_ixA 500 = 138 := by decide +kernel
theorem ln_500 : x_lnA 500 = 0 := by decide +kernel
theorem kd_501 : x_kdC 501 = 21 := by decide +kernel
theorem ix_501 : x_ixA 501 = 139 := by decide +kernel
theorem ln_501 : x_lnA 501 = 60 := by decide +kernel
theorem kd_502 : x_kdC 502 = 9 := by decide +kernel
theorem ix_502 : x_ixA 502 = 140 := by decide +kernel
theorem ln_502 : x_lnA 502 = 0 := by decide +kernel
theorem kd_503 : x_kdC 503 = 21 := by decide +kernel
theorem ix_503 : x_ixA 503 = 141 := by decide +kernel
theorem ln_503 : x_lnA 503 = 60 := by decide +kernel
theorem kd_504 : x_kdC 504 = 9 := by decide +kernel
theorem ix_504 : x_ixA 504 = 142 := by decide +kernel
theorem ln_504 : x_lnA 504 = 0 := by decide +kernel
theorem kd_505 : x_kdC 505 = 21 := by decide +kernel
theorem ix_505 : x_ixA 505 = 143 := by decide +kernel
theorem ln_505 : x_lnA 505 = 60 := by decide +kernel
theorem kd_506 : x_kdC 506 = 9 := by decide +kernel
theorem ix_506 : x_ixA 506 = 144 := by decide +kernel
theorem ln_506 : x_lnA 506 = 0 := by decide +kernel
theorem kd_507 : x_kdC 507 = 21 := by decide +kernel
theorem ix_507 : x_ixA 507 = 145 := by decide +kernel
theorem ln_507 : x_lnA 507 = 60 := by decide +kernel
theorem kd_508 : x_kdC 508 = 9 := by decide +kernel
theorem ix_508 : x_ixA 508 = 146 := by decide +kernel
theorem ln_508 : x_lnA 508 = 0 := by decide +kernel
theorem kd_509 : x_kdC 509 = 21 := by decide +kernel
theorem ix_509 : x_ixA 509 = 147 := by decide +kernel
theorem ln_509 : x_lnA 509 = 60 := by decide +kernel
theorem kd_510 : x_kdC 510 = 9 := by decide +kernel
theorem ix_510 : x_ixA 510 = 148 := by decide +kernel
theorem ln_510 : x_lnA 510 = 0 := by decide +kernel
theorem kd_511 : x_kdC 511 = 21 := by decide +kernel
theorem ix_511 : x_ixA 511 = 149 := by decide +kernel
theorem ln_511 : x_lnA 511 = 60 := by decide +kernel
theorem kd_600 : x_kdR 600 = 11 := by decide +kernel
theorem ix_600 : x_ixA 600 = 150 := by decide +kernel
theorem ln_600 : x_lnA 600 = 0 := by decide +kernel
theorem kd_605 : x_kdR 605 = 20 := by decide +kernel
theorem ix_605 : x_ixA 605 = 151 := by decide +kernel
theorem ln_605 : x_lnA 605 = 6 := by decide +kernel
theorem kd_606 : x_kdR 606 = 20 := by decide +kernel
theorem ix_606 : x_ixA 606 = 152 := by decide +kernel
theorem ln_606 : x_lnA 606 = 6 := by decide +kernel
theorem kd_607 : x_kdR 607 = 20 := by decide +kernel
theorem ix_607 : x_ixA 607 = 153 := by decide +kernel
theorem ln_607 : x_lnA 607 = 6 := by decide +kernel
theorem kd_608 : x_kdR 608 = 20 := by decide +kernel
theorem ix_608 : x_ixA 608 = 154 := by decide +kernel
theorem ln_608 : x_lnA 608 = 6 := by decide +kernel
theorem kd_609 : x_kdR 609 = 20 := by decide +kernel
theorem ix_609 : x_ixA 609 = 155 := by decide +kernel
theorem ln_609 : x_lnA 609 = 6 := by decide +kernel
theorem kd_610 : x_kdR 610 = 20 := by decide +kernel
theorem ix_610 : x_ixA 610 = 156 := by decide +kernel
theorem ln_610 : x_lnA 610 = 6 := by decide +kernel
theorem kd_611 : x_kdR 611 = 20 := by decide +kernel
theorem ix_611 : x_ixA 611 = 157 := by decide +kernel
theorem ln_611 : x_lnA 611 = 24 := by decide +kernel
theorem kd_617 : x_kdR 617 = 20 := by decide +kernel
theorem ix_617 : x_ixA 617 = 158 := by decide +kernel
theorem ln_617 : x_lnA 617 = 100 := by decide +kernel
theorem kd_618 : x_kdR 618 = 20 := by decide +kernel
theorem ix_618 : x_ixA 618 = 159 := by decide +kernel
theorem ln_618 : x_lnA 618 = 6 := by decide +kernel
theorem kd_619 : x_kdR 619 = 20 := by decide +kernel
theorem ix_619 : x_ixA 619 = 160 := by decide +kernel
theorem ln_619 : x_lnA 619 = 60 := by decide +kernel
theorem kd_620 : x_kdR 620 = 20 := by decide +kernel
theorem ix_620 : x_ixA 620 = 161 := by decide +kernel
theorem ln_620 : x_lnA 620 = 60 := by decide +kernel
theorem kd_621 : x_kdR 621 = 20 := by decide +kernel
theorem ix_621 : x_ixA 621 = 162 := by decide +kernel
theorem ln_621 : x_lnA 621 = 60 := by decide +kernel
theorem kd_622 : x_kdR 622 = 20 := by decide +kernel
theorem ix_622 : x_ixA 622 = 163 := by decide +kernel
theorem ln_622 : x_lnA 622 = 60 := by decide +kernel
theorem kd_623 : x_kdR 623 = 20 := by decide +kernel
theorem ix_623 : x_ixA 623 = 164 := by decide +kernel
theorem ln_623 : x_lnA 623 = 600 := by decide +kernel
theorem kd_624 : x_kdR 624 = 20 := by decide +kernel
theorem ix_624 : x_ixA 624 = 165 := by decide +kernel
theorem ln_624 : x_lnA 624 = 101 := by decide +kernel
theorem kd_628 : x_kdR 628 = 20 := by decide +kernel
theorem ix_628 : x_ixA 628 = 166 := by decide +kernel
theorem ln_628 : x_lnA 628 = 22 := by decide +kernel
theorem kd_629 : x_kdR 629 = 22 := by decide +kernel
theorem ix_629 : x_ixA 629 = 167 := by decide +kernel
theorem ln_629 : x_lnA 629 = 100 := by decide +kernel
theorem kd_634 : x_kdR 634 = 20 := by decide +kernel
theorem ix_634 : x_ixA 634 = 168 := by decide +kernel
theorem ln_634 : x_lnA 634 = 6 := by decide +kernel
theorem kd_635 : x_kdR 635 = 20 := by decide +kernel
theorem ix_635 : x_ixA 635 = 169 := by decide +kernel
theorem ln_635 : x_lnA 635 = 6 := by decide +kernel
theorem kd_639 : x_kdR 639 = 20 := by decide +kernel
theorem ix_639 : x_ixA 639 = 170 := by decide +kernel
theorem ln_639 : x_lnA 639 = 6 := by decide +kernel
theorem kd_640 : x_kdR 640 = 20 := by decide +kernel
theorem ix_640 : x_ixA 640 = 171 := by decide +kernel
theorem ln_640 : x_lnA 640 = 6 := by decide +kernel
theorem kd_642 : x_kdR 642 = 20 := by decide +kernel
theorem ix_642 : x_ixA 642 = 172 := by decide +kernel
theorem ln_642 : x_lnA 642 = 4 := by decide +kernel
theorem kd_643 : x_kdR 643 = 20 := by decide +kernel
theorem ix_643 : x_ixA 643 = 173 := by decide +kernel
theorem ln_643 : x_lnA 643 = 4 := by decide +kernel
theorem kd_646 : x_kdR 646 = 20 := by decide +kernel
theorem ix_646 : x_ixA 646 = 174 := by decide +kernel
theorem ln_646 : x_lnA 646 = 8 := by decide +kernel
theorem kd_647 : x_kdR 647 = 20 := by decide +kernel
theorem ix_647 : x_ixA 647 = 175 := by decide +kernel
theorem ln_647 : x_lnA 647 = 8 := by decide +kernel
theorem kd_648 : x_kdR 648 = 20 := by decide +kernel
theorem ix_648 : x_ixA 648 = 176 := by decide +kernel
theorem ln_648 : x_lnA 648 = 8 := by decide +kernel
theorem kd_649 : x_kdR 649 = 20 := by decide +kernel
theorem ix_649 : x_ixA 649 = 177 := by decide +kernel
theorem ln_649 : x_lnA 649 = 8 := by decide +kernel
theorem kd_659 : x_kdR 659 = 20 := by decide +kernel
theorem ix_659 : x_ixA 659 = 178 := by decide +kernel
theorem ln_659 : x_lnA 659 = 6 := by decide +kernel
theorem kd_660 : x_kdR 660 = 20 := by decide +kernel
theorem ix_660 : x_ixA 660 = 179 := by decide +kernel
theorem ln_660 : x_lnA 660 = 6 := by decide +kernel
theorem kd_661 : x_kdR 661 = 20 := by decide +kernel
theorem ix_661 : x_ixA 661 = 180 := by decide +kernel
theorem ln_661 : x_lnA 661 = 6 := by decide +kernel
theorem kd_662 : x_kdR 662 = 20 := by decide +kernel
theorem ix_662 : x_ixA 662 = 181 := by decide +kernel
theorem ln_662 : x_lnA 662 = 6 := by decide +kernel
theorem kd_663 : x_kdR 663 = 20 := by decide +kernel
theorem ix_663 : x_ixA 663 = 182 := by decide +kernel
theorem ln_663 : x_lnA 663 = 6 := by decide +kernel
theorem kd_664 : x_kdR 664 = 20 := by decide +kernel
theorem ix_664 : x_ixA 664 = 183 := by decide +kernel
theorem ln_664 : x_lnA 664 = 6 := by decide +kernel
theorem kd_665 : x_kdR 665 = 20 := by decide +kernel
theorem ix_665 : x_ixA 665 = 184 := by decide +kernel
theorem ln_665 : x_lnA 665 = 24 := by decide +kernel
theorem kd_666 : x_kdR 666 = 20 := by decide +kernel
theorem ix_666 : x_ixA 666 = 185 := by decide +kernel
theorem ln_666 : x_lnA 666 = 4 := by decide +kernel
theorem kd_667 : x_kdR 667 = 20 := by decide +kernel
theorem ix_667 : x_ixA 667 = 186 := by decide +kernel
theorem ln_667 : x_lnA 667 = 4 := by decide +kernel
theorem kd_668 : x_kdR 668 = 20 := by decide +kernel
theorem ix_668 : x_ixA 668 = 187 := by decide +kernel
theorem ln_668 : x_lnA 668 = 8 := by decide +kernel
theorem kd_669 : x_kdR 669 = 20 := by decide +kernel
theorem ix_669 : x_ixA 669 = 188 := by decide +kernel
theorem ln_669 : x_lnA 669 = 8 := by decide +kernel
theorem kd_670 : x_kdR 670 = 20 := by decide +kernel
theorem ix_670 : x_ixA 670 = 189 := by decide +kernel
theorem ln_670 : x_lnA 670 = 8 := by decide +kernel
theorem kd_671 : x_kdR 671 = 20 := by decide +kernel
theorem ix_671 : x_ixA 671 = 190 := by decide +kernel
theorem ln_671 : x_lnA 671 = 8 := by decide +kernel
theorem kd_673 : x_kdR 673 = 20 := by decide +kernel
theorem ix_673 : x_ixA 673 = 191 := by decide +kernel
theorem ln_673 : x_lnA 673 = 20 := by decide +kernel
theorem kd_674 : x_kdR 674 = 20 := by decide +kernel
theorem ix_674 : x_ixA 674 = 192 := by decide +kernel
theorem ln_674 : x_lnA 674 = 6 := by decide +kernel
theorem kd_675 : x_kdR 675 = 20 := by decide +kernel
theorem ix_675 : x_ixA 675 = 193 := by decide +kernel
theorem ln_675 : x_lnA 675 = 6 := by decide +kernel
theorem kd_676 : x_kdR 676 = 21 := by decide +kernel
theorem ix_676 : x_ixA 676 = 194 := by decide +kernel
theorem ln_676 : x_lnA 676 = 360 := by decide +kernel
theorem kd_677 : x_kdR 677 = 21 := by decide +kernel
theorem ix_677 : x_ixA 677 = 195 := by decide +kernel
theorem ln_677 : x_lnA 677 = 60 := by decide +kernel
theorem qo_X9_3 : x_in (.methodLink RX9 3 Lib.objectInit) := ⟨List.mem_of_getElem? (i := 103) (by decide +kernel), Or.inl (by decide +kernel)⟩
theorem qo_inst : x_in (.instanceMethod Lib.objectInit) := ⟨List.mem_of_getElem? (i := 104) (by decide +kernel), Or.inl (by decide +kernel)⟩
theorem qo_code : x_in (.code Lib.objectInit ⟨#[0xb1]⟩ 1 none) := ⟨List.mem_of_getElem? (i := 105) (by decide +kernel), Or.inl (by decide +kernel)⟩
theorem qn_X9_9 : x_in (.classLink RX9 9 RX7) := ⟨List.mem_of_getElem? (i := 106) (by decide +kernel), Or.inl (by decide +kernel)⟩
theorem qz_X7 : x_in (.instantiable RX7 12) := ⟨List.mem_of_getElem? (i := 107) (by decide +kernel), Or.inl (by decide +kernel)⟩
theorem qm_X9_11 : x_in (.methodLink RX9 11 yX7_init) := ⟨List.mem_of_getElem? (i := 108) (by decide +kernel), Or.inl (by decide +kernel)⟩
theorem qi_X7_init : x_in (.instanceMethod yX7_init) := ⟨List.mem_of_getElem? (i := 109) (by decide +kernel), Or.inl (by decide +kernel)⟩
theorem qd_X7_init : x_in (.code yX7_init cX7_init 2 none) := ⟨List.mem_of_getElem? (i := 110) (by decide +kernel), Or.inl (by decide +kernel)⟩
theorem qo_X7_3 : x_in (.methodLink RX7 3 Lib.objectInit) := ⟨List.mem_of_getElem? (i := 111) (by decide +kernel), Or.inl (by decide +kernel)⟩
theorem qn_X7_9 : x_in (.classLink RX7 9 RX3) := ⟨List.mem_of_getElem? (i := 112) (by decide +kernel), Or.inl (by decide +kernel)⟩
theorem qz_X3 : x_in (.instantiable RX3 1) := ⟨List.mem_of_getElem? (i := 113) (by decide +kernel), Or.inl (by decide +kernel)⟩
theorem qm_X7_11 : x_in (.methodLink RX7 11 yX3_init) := ⟨List.mem_of_getElem? (i := 114) (by decide +kernel), Or.inl (by decide +kernel)⟩
theorem qi_X3_init : x_in (.instanceMethod yX3_init) := ⟨List.mem_of_getElem? (i := 115) (by decide +kernel), Or.inl (by decide +kernel)⟩
theorem qd_X3_init : x_in (.code yX3_init cX3_init 2 none) := ⟨List.mem_of_getElem? (i := 116) (by decide +kernel), Or.inl (by decide +kernel)⟩
theorem qo_X3_3 : x_in (.methodLink RX3 3 Lib.objectInit) := ⟨List.mem_of_getElem? (i := 117) (by decide +kernel), Or.inl (by decide +kernel)⟩
theorem qa_int : x_in (.arrayClass .int) := ⟨List.mem_of_getElem? (i := 122) (by decide +kernel), Or.inl (by decide +kernel)⟩
theorem qp_X3_9 : x_in (.fieldLink RX3 9 RX3 (TX3 0).2.1 (TX3 0).2.2.1) := ⟨List.mem_of_getElem? (i := 118) (by decide +kernel), Or.inl (by decide +kernel)⟩
theorem qp_X7_12 : x_in (.fieldLink RX7 12 RX7 (TX7 0).2.1 (TX7 0).2.2.1) := ⟨List.mem_of_getElem? (i := 247) (by decide +kernel), Or.inl (by decide +kernel)⟩
theorem qn_X7_18 : x_in (.classLink RX7 18 RX0) := ⟨List.mem_of_getElem? (i := 123) (by decide +kernel), Or.inl (by decide +kernel)⟩
theorem qp_X7_20 : x_in (.fieldLink RX7 20 RX7 (TX7 1).2.1 (TX7 1).2.2.1) := ⟨List.mem_of_getElem? (i := 249) (by decide +kernel), Or.inl (by decide +kernel)⟩
theorem qn_X7_24 : x_in (.classLink RX7 24 RX6) := ⟨List.mem_of_getElem? (i := 125) (by decide +kernel), Or.inl (by decide +kernel)⟩
theorem qz_X6 : x_in (.instantiable RX6 4) := ⟨List.mem_of_getElem? (i := 126) (by decide +kernel), Or.inl (by decide +kernel)⟩
theorem qm_X7_26 : x_in (.methodLink RX7 26 yX6_init) := ⟨List.mem_of_getElem? (i := 127) (by decide +kernel), Or.inl (by decide +kernel)⟩
theorem qi_X6_init : x_in (.instanceMethod yX6_init) := ⟨List.mem_of_getElem? (i := 128) (by decide +kernel), Or.inl (by decide +kernel)⟩
theorem qd_X6_init : x_in (.code yX6_init cX6_init 2 none) := ⟨List.mem_of_getElem? (i := 129) (by decide +kernel), Or.inl (by decide +kernel)⟩
theorem qo_X6_3 : x_in (.methodLink RX6 3 Lib.objectInit) := ⟨List.mem_of_getElem? (i := 130) (by decide +kernel), Or.inl (by decide +kernel)⟩
theorem qp_X6_9 : x_in (.fieldLink RX6 9 RX6 (TX6 0).2.1 (TX6 0).2.2.1) := ⟨List.mem_of_getElem? (i := 134) (by decide +kernel), Or.inl (by decide +kernel)⟩
theorem qp_X6_15 : x_in (.fieldLink RX6 15 RX6 (TX6 1).2.1 (TX6 1).2.2.1) := ⟨List.mem_of_getElem? (i := 135) (by decide +kernel), Or.inl (by decide +kernel)⟩
theorem qm_X6_18 : x_in (.methodLink RX6 18 Lib.Math.min.name) := ⟨List.mem_of_getElem? (i := 131) (by decide +kernel), Or.inl (by decide +kernel)⟩
theorem qp_X6_24 : x_in (.fieldLink RX6 24 RX6 (TX6 2).2.1 (TX6 2).2.2.1) := ⟨List.mem_of_getElem? (i := 136) (by decide +kernel), Or.inl (by decide +kernel)⟩
theorem qp_X7_29 : x_in (.fieldLink RX7 29 RX7 (TX7 2).2.1 (TX7 2).2.2.1) := ⟨List.mem_of_getElem? (i := 250) (by decide +kernel), Or.inl (by decide +kernel)⟩
theorem qp_X7_33 : x_in (.fieldLink RX7 33 RX7 (TX7 3).2.1 (TX7 3).2.2.1) := ⟨List.mem_of_getElem? (i := 253) (by decide +kernel), Or.inl (by decide +kernel)⟩
theorem qp_X7_36 : x_in (.fieldLink RX7 36 RX7 (TX7 4).2.1 (TX7 4).2.2.1) := ⟨List.mem_of_getElem? (i := 256) (by decide +kernel), Or.inl (by decide +kernel)⟩
theorem qn_X7_39 : x_in (.classLink RX7 39 RX4) := ⟨List.mem_of_getElem? (i := 147) (by decide +kernel), Or.inl (by decide +kernel)⟩
theorem qz_X4 : x_in (.instantiable RX4 10) := ⟨List.mem_of_getElem? (i := 148) (by decide +kernel), Or.inl (by decide +kernel)⟩
theorem qm_X7_41 : x_in (.methodLink RX7 41 yX4_init) := ⟨List.mem_of_getElem? (i := 149) (by decide +kernel), Or.inl (by decide +kernel)⟩
theorem qi_X4_init : x_in (.instanceMethod yX4_init) := ⟨List.mem_of_getElem? (i := 150) (by decide +kernel), Or.inl (by decide +kernel)⟩
theorem qd_X4_init : x_in (.code yX4_init cX4_init 1 none) := ⟨List.mem_of_getElem? (i := 151) (by decide +kernel), Or.inl (by decide +kernel)⟩
theorem qo_X4_3 : x_in (.methodLink RX4 3 Lib.objectInit) := ⟨List.mem_of_getElem? (i := 152) (by decide +kernel), Or.inl (by decide +kernel)⟩
theorem qp_X4_9 : x_in (.fieldLink RX4 9 RX4 (TX4 0).2.1 (TX4 0).2.2.1) := ⟨List.mem_of_getElem? (i := 157) (by decide +kernel), Or.inl (by decide +kernel)⟩
theorem qp_X4_15 : x_in (.fieldLink RX4 15 RX4 (TX4 1).2.1 (TX4 1).2.2.1) := ⟨List.mem_of_getElem? (i := 158) (by decide +kernel), Or.inl (by decide +kernel)⟩
theorem qp_X4_18 : x_in (.fieldLink RX4 18 RX4 (TX4 2).2.1 (TX4 2).2.2.1) := ⟨List.mem_of_getElem? (i := 159) (by decide +kernel), Or.inl (by decide +kernel)⟩
theorem qp_X4_21 : x_in (.fieldLink RX4 21 RX4 (TX4 3).2.1 (TX4 3).2.2.1) := ⟨List.mem_of_getElem? (i := 160) (by decide +kernel), Or.inl (by decide +kernel)⟩
theorem qp_X4_24 : x_in (.fieldLink RX4 24 RX4 (TX4 4).2.1 (TX4 4).2.2.1) := ⟨List.mem_of_getElem? (i := 161) (by decide +kernel), Or.inl (by decide +kernel)⟩
theorem qp_X4_30 : x_in (.fieldLink RX4 30 RX4 (TX4 5).2.1 (TX4 5).2.2.1) := ⟨List.mem_of_getElem? (i := 162) (by decide +kernel), Or.inl (by decide +kernel)⟩
theorem qp_X4_34 : x_in (.fieldLink RX4 34 RX4 (TX4 6).2.1 (TX4 6).2.2.1) := ⟨List.mem_of_getElem? (i := 163) (by decide +kernel), Or.inl (by decide +kernel)⟩
theorem qp_X4_37 : x_in (.fieldLink RX4 37 RX4 (TX4 7).2.1 (TX4 7).2.2.1) := ⟨List.mem_of_getElem? (i := 164) (by decide +kernel), Or.inl (by decide +kernel)⟩
theorem qp_X4_40 : x_in (.fieldLink RX4 40 RX4 (TX4 8).2.1 (TX4 8).2.2.1) := ⟨List.mem_of_getElem? (i := 167) (by decide +kernel), Or.inl (by decide +kernel)⟩
theorem qp_X4_43 : x_in (.fieldLink RX4 43 RX4 (TX4 9).2.1 (TX4 9).2.2.1) := ⟨List.mem_of_getElem? (i := 170) (by decide +kernel), Or.inl (by decide +kernel)⟩
theorem qp_X7_42 : x_in (.fieldLink RX7 42 RX7 (TX7 5).2.1 (TX7 5).2.2.1) := ⟨List.mem_of_getElem? (i := 258) (by decide +kernel), Or.inl (by decide +kernel)⟩
theorem qp_X7_46 : x_in (.fieldLink RX7 46 RX7 (TX7 7).2.1 (TX7 7).2.2.1) := ⟨List.mem_of_getElem? (i := 263) (by decide +kernel), Or.inl (by decide +kernel)⟩
theorem qp_X7_50 : x_in (.fieldLink RX7 50 RX7 (TX7 11).2.1 (TX7 11).2.2.1) := ⟨List.mem_of_getElem? (i := 273) (by decide +kernel), Or.inl (by decide +kernel)⟩
theorem qz_X0 : x_in (.instantiable RX0 10) := ⟨List.mem_of_getElem? (i := 194) (by decide +kernel), Or.inl (by decide +kernel)⟩
theorem qm_X7_53 : x_in (.methodLink RX7 53 yX0_init) := ⟨List.mem_of_getElem? (i := 195) (by decide +kernel), Or.inl (by decide +kernel)⟩
theorem qi_X0_init : x_in (.instanceMethod yX0_init) := ⟨List.mem_of_getElem? (i := 196) (by decide +kernel), Or.inl (by decide +kernel)⟩
theorem qd_X0_init : x_in (.code yX0_init cX0_init 2 none) := ⟨List.mem_of_getElem? (i := 197) (by decide +kernel), Or.inl (by decide +kernel)⟩
theorem qo_X0_3 : x_in (.methodLink RX0 3 Lib.objectInit) := ⟨List.mem_of_getElem? (i := 198) (by decide +kernel), Or.inl (by decide +kernel)⟩
theorem qp_X0_9 : x_in (.fieldLink RX0 9 RX0 (TX0 1).2.1 (TX0 1).2.2.1) := ⟨List.mem_of_getElem? (i := 202) (by decide +kernel), Or.inl (by decide +kernel)⟩
theorem qp_X0_15 : x_in (.fieldLink RX0 15 RX0 (TX0 0).2.1 (TX0 0).2.2.1) := ⟨List.mem_of_getElem? (i := 199) (by decide +kernel), Or.inl (by decide +kernel)⟩
theorem qp_X9_12 : x_in (.fieldLink RX9 12 RX9 (TX9 0).2.1 (TX9 0).2.2.1) := ⟨List.mem_of_getElem? (i := 364) (by decide +kernel), Or.inl (by decide +kernel)⟩
theorem qp_X9_18 : x_in (.fieldLink RX9 18 RX9 (TX9 1).2.1 (TX9 1).2.2.1) := ⟨List.mem_of_getElem? (i := 365) (by decide +kernel), Or.inl (by decide +kernel)⟩
theorem qn_X9_21 : x_in (.classLink RX9 21 RX2) := ⟨List.mem_of_getElem? (i := 300) (by decide +kernel), Or.inl (by decide +kernel)⟩
theorem qz_X2 : x_in (.instantiable RX2 1) := ⟨List.mem_of_getElem? (i := 301) (by decide +kernel), Or.inl (by decide +kernel)⟩
theorem qm_X9_23 : x_in (.methodLinkNest RX9 23 yX2_init "LakeBooks") := ⟨List.mem_of_getElem? (i := 302) (by decide +kernel), Or.inr (by decide +kernel)⟩
theorem qi_X2_init : x_in (.instanceMethod yX2_init) := ⟨List.mem_of_getElem? (i := 303) (by decide +kernel), Or.inl (by decide +kernel)⟩
theorem qd_X2_init : x_in (.code yX2_init cX2_init 1 none) := ⟨List.mem_of_getElem? (i := 304) (by decide +kernel), Or.inl (by decide +kernel)⟩
theorem qo_X2_3 : x_in (.methodLink RX2 3 Lib.objectInit) := ⟨List.mem_of_getElem? (i := 305) (by decide +kernel), Or.inl (by decide +kernel)⟩
theorem qn_X2_9 : x_in (.classLink RX2 9 RX7) := ⟨List.mem_of_getElem? (i := 306) (by decide +kernel), Or.inl (by decide +kernel)⟩
theorem qm_X2_11 : x_in (.methodLink RX2 11 yX7_init) := ⟨List.mem_of_getElem? (i := 307) (by decide +kernel), Or.inl (by decide +kernel)⟩
theorem qp_X2_12 : x_in (.fieldLink RX2 12 RX2 (TX2 0).2.1 (TX2 0).2.2.1) := ⟨List.mem_of_getElem? (i := 308) (by decide +kernel), Or.inl (by decide +kernel)⟩
theorem qp_X9_24 : x_in (.fieldLink RX9 24 RX9 (TX9 2).2.1 (TX9 2).2.2.1) := ⟨List.mem_of_getElem? (i := 366) (by decide +kernel), Or.inl (by decide +kernel)⟩
theorem qn_X9_28 : x_in (.classLink RX9 28 RX5) := ⟨List.mem_of_getElem? (i := 312) (by decide +kernel), Or.inl (by decide +kernel)⟩
theorem qz_X5 : x_in (.instantiable RX5 3) := ⟨List.mem_of_getElem? (i := 313) (by decide +kernel), Or.inl (by decide +kernel)⟩
theorem qm_X9_30 : x_in (.methodLinkNest RX9 30 yX5_init "LakeBooks") := ⟨List.mem_of_getElem? (i := 314) (by decide +kernel), Or.inr (by decide +kernel)⟩
theorem qi_X5_init : x_in (.instanceMethod yX5_init) := ⟨List.mem_of_getElem? (i := 315) (by decide +kernel), Or.inl (by decide +kernel)⟩
theorem qd_X5_init : x_in (.code yX5_init cX5_init 1 none) := ⟨List.mem_of_getElem? (i := 316) (by decide +kernel), Or.inl (by decide +kernel)⟩
theorem qo_X5_3 : x_in (.methodLink RX5 3 Lib.objectInit) := ⟨List.mem_of_getElem? (i := 317) (by decide +kernel), Or.inl (by decide +kernel)⟩
theorem qp_X5_9 : x_in (.fieldLink RX5 9 RX5 (TX5 0).2.1 (TX5 0).2.2.1) := ⟨List.mem_of_getElem? (i := 318) (by decide +kernel), Or.inl (by decide +kernel)⟩
theorem qp_X9_31 : x_in (.fieldLink RX9 31 RX9 (TX9 3).2.1 (TX9 3).2.2.1) := ⟨List.mem_of_getElem? (i := 367) (by decide +kernel), Or.inl (by decide +kernel)⟩
theorem qn_X9_35 : x_in (.classLink RX9 35 RX4) := ⟨List.mem_of_getElem? (i := 328) (by decide +kernel), Or.inl (by decide +kernel)⟩
theorem qp_X9_37 : x_in (.fieldLink RX9 37 RX9 (TX9 4).2.1 (TX9 4).2.2.1) := ⟨List.mem_of_getElem? (i := 368) (by decide +kernel), Or.inl (by decide +kernel)⟩
theorem qn_X9_41 : x_in (.classLink RX9 41 RX8) := ⟨List.mem_of_getElem? (i := 330) (by decide +kernel), Or.inl (by decide +kernel)⟩
theorem qp_X9_43 : x_in (.fieldLink RX9 43 RX9 (TX9 5).2.1 (TX9 5).2.2.1) := ⟨List.mem_of_getElem? (i := 369) (by decide +kernel), Or.inl (by decide +kernel)⟩
theorem qn_X9_47 : x_in (.classLink RX9 47 RX1) := ⟨List.mem_of_getElem? (i := 332) (by decide +kernel), Or.inl (by decide +kernel)⟩
theorem qz_X1 : x_in (.instantiable RX1 2) := ⟨List.mem_of_getElem? (i := 333) (by decide +kernel), Or.inl (by decide +kernel)⟩
theorem qm_X9_49 : x_in (.methodLinkNest RX9 49 yX1_init "LakeBooks") := ⟨List.mem_of_getElem? (i := 334) (by decide +kernel), Or.inr (by decide +kernel)⟩
theorem qi_X1_init : x_in (.instanceMethod yX1_init) := ⟨List.mem_of_getElem? (i := 335) (by decide +kernel), Or.inl (by decide +kernel)⟩
theorem qd_X1_init : x_in (.code yX1_init cX1_init 1 none) := ⟨List.mem_of_getElem? (i := 336) (by decide +kernel), Or.inl (by decide +kernel)⟩
theorem qo_X1_3 : x_in (.methodLink RX1 3 Lib.objectInit) := ⟨List.mem_of_getElem? (i := 337) (by decide +kernel), Or.inl (by decide +kernel)⟩
theorem qp_X1_9 : x_in (.fieldLink RX1 9 RX1 (TX1 0).2.1 (TX1 0).2.2.1) := ⟨List.mem_of_getElem? (i := 338) (by decide +kernel), Or.inl (by decide +kernel)⟩
theorem qp_X9_50 : x_in (.fieldLink RX9 50 RX9 (TX9 6).2.1 (TX9 6).2.2.1) := ⟨List.mem_of_getElem? (i := 370) (by decide +kernel), Or.inl (by decide +kernel)⟩
theorem qm_X9_54 : x_in (.methodLink RX9 54 yX4_init) := ⟨List.mem_of_getElem? (i := 345) (by decide +kernel), Or.inl (by decide +kernel)⟩
theorem qz_X8 : x_in (.instantiable RX8 3) := ⟨List.mem_of_getElem? (i := 346) (by decide +kernel), Or.inl (by decide +kernel)⟩
theorem qm_X9_55 : x_in (.methodLinkNest RX9 55 yX8_init "LakeBooks") := ⟨List.mem_of_getElem? (i := 347) (by decide +kernel), Or.inr (by decide +kernel)⟩
theorem qi_X8_init : x_in (.instanceMethod yX8_init) := ⟨List.mem_of_getElem? (i := 348) (by decide +kernel), Or.inl (by decide +kernel)⟩
theorem qd_X8_init : x_in (.code yX8_init cX8_init 1 none) := ⟨List.mem_of_getElem? (i := 349) (by decide +kernel), Or.inl (by decide +kernel)⟩
theorem qo_X8_3 : x_in (.methodLink RX8 3 Lib.objectInit) := ⟨List.mem_of_getElem? (i := 350) (by decide +kernel), Or.inl (by decide +kernel)⟩
theorem qa_long : x_in (.arrayClass .long) := ⟨List.mem_of_getElem? (i := 363) (by decide +kernel), Or.inl (by decide +kernel)⟩
theorem qp_X8_9 : x_in (.fieldLink RX8 9 RX8 (TX8 0).2.1 (TX8 0).2.2.1) := ⟨List.mem_of_getElem? (i := 351) (by decide +kernel), Or.inl (by decide +kernel)⟩
theorem qp_X8_15 : x_in (.fieldLink RX8 15 RX8 (TX8 1).2.1 (TX8 1).2.2.1) := ⟨List.mem_of_getElem? (i := 352) (by decide +kernel), Or.inl (by decide +kernel)⟩
theorem qo_X10_1 : x_in (.methodLink RX10 1 Lib.objectInit) := ⟨List.mem_of_getElem? (i := 1102) (by decide +kernel), Or.inl (by decide +kernel)⟩
theorem qp_X10_7 : x_in (.fieldLink RX10 7 RX10 (TX10 0).2.1 (TX10 0).2.2.1) := ⟨List.mem_of_getElem? (i := 1103) (by decide +kernel), Or.inl (by decide +kernel)⟩
theorem qp_X10_13 : x_in (.fieldLink RX10 13 RX10 (TX10 1).2.1 (TX10 1).2.2.1) := ⟨List.mem_of_getElem? (i := 1104) (by decide +kernel), Or.inl (by decide +kernel)⟩
theorem qp_X10_16 : x_in (.fieldLink RX10 16 RX10 (TX10 2).2.1 (TX10 2).2.2.1) := ⟨List.mem_of_getElem? (i := 1105) (by decide +kernel), Or.inl (by decide +kernel)⟩
theorem qp_X10_19 : x_in (.fieldLink RX10 19 RX10 (TX10 3).2.1 (TX10 3).2.2.1) := ⟨List.mem_of_getElem? (i := 1106) (by decide +kernel), Or.inl (by decide +kernel)⟩
theorem qp_X10_22 : x_in (.fieldLink RX10 22 RX10 (TX10 4).2.1 (TX10 4).2.2.1) := ⟨List.mem_of_getElem? (i := 1107) (by decide +kernel), Or.inl (by decide +kernel)⟩
theorem qp_X10_26 : x_in (.fieldLink RX10 26 RX10 (TX10 5).2.1 (TX10 5).2.2.1) := ⟨List.mem_of_getElem? (i := 1108) (by decide +kernel), Or.inl (by decide +kernel)⟩
theorem qp_X10_29 : x_in (.fieldLink RX10 29 RX10 (TX10 6).2.1 (TX10 6).2.2.1) := ⟨List.mem_of_getElem? (i := 1109) (by decide +kernel), Or.inl (by decide +kernel)⟩
theorem qp_X10_32 : x_in (.fieldLink RX10 32 RX10 (TX10 7).2.1 (TX10 7).2.2.1) := ⟨List.mem_of_getElem? (i := 1110) (by decide +kernel), Or.inl (by decide +kernel)⟩
theorem qp_X10_35 : x_in (.fieldLink RX10 35 RX10 (TX10 8).2.1 (TX10 8).2.2.1) := ⟨List.mem_of_getElem? (i := 1111) (by decide +kernel), Or.inl (by decide +kernel)⟩
theorem qp_X10_38 : x_in (.fieldLink RX10 38 RX10 (TX10 9).2.1 (TX10 9).2.2.1) := ⟨List.mem_of_getElem? (i := 1112) (by decide +kernel), Or.inl (by decide +kernel)⟩
theorem qp_X10_41 : x_in (.fieldLink RX10 41 RX10 (TX10 10).2.1 (TX10 10).2.2.1) := ⟨List.mem_of_getElem? (i := 1113) (by decide +kernel), Or.inl (by decide +kernel)⟩
theorem qp_X10_44 : x_in (.fieldLink RX10 44 RX10 (TX10 11).2.1 (TX10 11).2.2.1) := ⟨List.mem_of_getElem? (i := 1114) (by decide +kernel), Or.inl (by decide +kernel)⟩
theorem qp_X10_47 : x_in (.fieldLink RX10 47 RX10 (TX10 12).2.1 (TX10 12).2.2.1) := ⟨List.mem_of_getElem? (i := 1115) (by decide +kernel), Or.inl (by decide +kernel)⟩
theorem qp_X10_50 : x_in (.fieldLink RX10 50 RX10 (TX10 13).2.1 (TX10 13).2.2.1) := ⟨List.mem_of_getElem? (i := 1116) (by decide +kernel), Or.inl (by decide +kernel)⟩
theorem qp_X10_53 : x_in (.fieldLink RX10 53 RX10 (TX10 14).2.1 (TX10 14).2.2.1) := ⟨List.mem_of_getElem? (i := 1117) (by decide +kernel), Or.inl (by decide +kernel)⟩
theorem qp_X10_56 : x_in (.fieldLink RX10 56 RX10 (TX10 15).2.1 (TX10 15).2.2.1) := ⟨List.mem_of_getElem? (i := 1118) (by decide +kernel), Or.inl (by decide +kernel)⟩
theorem qp_X10_59 : x_in (.fieldLink RX10 59 RX10 (TX10 16).2.1 (TX10 16).2.2.1) := ⟨List.mem_of_getElem? (i := 1119) (by decide +kernel), Or.inl (by decide +kernel)⟩
theorem qp_X10_62 : x_in (.fieldLink RX10 62 RX10 (TX10 17).2.1 (TX10 17).2.2.1) := ⟨List.mem_of_getElem? (i := 1120) (by decide +kernel), Or.inl (by decide +kernel)⟩
theorem qp_X10_65 : x_in (.fieldLink RX10 65 RX10 (TX10 18).2.1 (TX10 18).2.2.1) := ⟨List.mem_of_getElem? (i := 1121) (by decide +kernel), Or.inl (by decide +kernel)⟩
theorem qp_X10_68 : x_in (.fieldLink RX10 68 RX10 (TX10 19).2.1 (TX10 19).2.2.1) := ⟨List.mem_of_getElem? (i := 1122) (by decide +kernel), Or.inl (by decide +kernel)⟩
theorem qp_X10_71 : x_in (.fieldLink RX10 71 RX10 (TX10 20).2.1 (TX10 20).2.2.1) := ⟨List.mem_of_getElem? (i := 1123) (by decide +kernel), Or.inl (by decide +kernel)⟩
theorem qp_X10_74 : x_in (.fieldLink RX10 74 RX10 (TX10 21).2.1 (TX10 21).2.2.1) := ⟨List.mem_of_getElem? (i := 1124) (by decide +kernel), Or.inl (by decide +kernel)⟩
theorem qp_X10_77 : x_in (.fieldLink RX10 77 RX10 (TX10 22).2.1 (TX10 22).2.2.1) := ⟨List.mem_of_getElem? (i := 1125) (by decide +kernel), Or.inl (by decide +kernel)⟩
theorem qp_X10_80 : x_in (.fieldLink RX10 80 RX10 (TX10 23).2.1 (TX10 23).2.2.1) := ⟨List.mem_of_getElem? (i := 1126) (by decide +kernel), Or.inl (by decide +kernel)⟩
theorem qp_X10_83 : x_in (.fieldLink RX10 83 RX10 (TX10 24).2.1 (TX10 24).2.2.1) := ⟨List.mem_of_getElem? (i := 1127) (by decide +kernel), Or.inl (by decide +kernel)⟩
theorem qp_X10_86 : x_in (.fieldLink RX10 86 RX10 (TX10 25).2.1 (TX10 25).2.2.1) := ⟨List.mem_of_getElem? (i := 1128) (by decide +kernel), Or.inl (by decide +kernel)⟩
theorem qp_X10_89 : x_in (.fieldLink RX10 89 RX10 (TX10 26).2.1 (TX10 26).2.2.1) := ⟨List.mem_of_getElem? (i := 1129) (by decide +kernel), Or.inl (by decide +kernel)⟩
theorem qp_X10_92 : x_in (.fieldLink RX10 92 RX10 (TX10 27).2.1 (TX10 27).2.2.1) := ⟨List.mem_of_getElem? (i := 1130) (by decide +kernel), Or.inl (by decide +kernel)⟩
theorem qa_boolean : x_in (.arrayClass .boolean) := ⟨List.mem_of_getElem? (i := 1335) (by decide +kernel), Or.inl (by decide +kernel)⟩
theorem qp_X10_95 : x_in (.fieldLink RX10 95 RX10 (TX10 28).2.1 (TX10 28).2.2.1) := ⟨List.mem_of_getElem? (i := 1131) (by decide +kernel), Or.inl (by decide +kernel)⟩
theorem qp_X10_99 : x_in (.fieldLink RX10 99 RX10 (TX10 29).2.1 (TX10 29).2.2.1) := ⟨List.mem_of_getElem? (i := 1132) (by decide +kernel), Or.inl (by decide +kernel)⟩
theorem qp_X10_102 : x_in (.fieldLink RX10 102 RX10 (TX10 30).2.1 (TX10 30).2.2.1) := ⟨List.mem_of_getElem? (i := 1133) (by decide +kernel), Or.inl (by decide +kernel)⟩
theorem qp_X10_105 : x_in (.fieldLink RX10 105 RX10 (TX10 31).2.1 (TX10 31).2.2.1) := ⟨List.mem_of_getElem? (i := 1134) (by decide +kernel), Or.inl (by decide +kernel)⟩
theorem qp_X10_108 : x_in (.fieldLink RX10 108 RX10 (TX10 32).2.1 (TX10 32).2.2.1) := ⟨List.mem_of_getElem? (i := 1135) (by decide +kernel), Or.inl (by decide +kernel)⟩
theorem qp_X10_111 : x_in (.fieldLink RX10 111 RX10 (TX10 33).2.1 (TX10 33).2.2.1) := ⟨List.mem_of_getElem? (i := 1136) (by decide +kernel), Or.inl (by decide +kernel)⟩
theorem qp_X10_114 : x_in (.fieldLink RX10 114 RX10 (TX10 34).2.1 (TX10 34).2.2.1) := ⟨List.mem_of_getElem? (i := 1137) (by decide +kernel), Or.inl (by decide +kernel)⟩
theorem qp_X10_117 : x_in (.fieldLink RX10 117 RX10 (TX10 35).2.1 (TX10 35).2.2.1) := ⟨List.mem_of_getElem? (i := 1138) (by decide +kernel), Or.inl (by decide +kernel)⟩
theorem qp_X10_120 : x_in (.fieldLink RX10 120 RX10 (TX10 36).2.1 (TX10 36).2.2.1) := ⟨List.mem_of_getElem? (i := 1139) (by decide +kernel), Or.inl (by decide +kernel)⟩
theorem qp_X10_123 : x_in (.fieldLink RX10 123 RX10 (TX10 37).2.1 (TX10 37).2.2.1) := ⟨List.mem_of_getElem? (i := 1140) (by decide +kernel), Or.inl (by decide +kernel)⟩
theorem qp_X10_126 : x_in (.fieldLink RX10 126 RX10 (TX10 38).2.1 (TX10 38).2.2.1) := ⟨List.mem_of_getElem? (i := 1141) (by decide +kernel), Or.inl (by decide +kernel)⟩
theorem qp_X10_129 : x_in (.fieldLink RX10 129 RX10 (TX10 39).2.1 (TX10 39).2.2.1) := ⟨List.mem_of_getElem? (i := 1142) (by decide +kernel), Or.inl (by decide +kernel)⟩
theorem qp_X10_132 : x_in (.fieldLink RX10 132 RX10 (TX10 40).2.1 (TX10 40).2.2.1) := ⟨List.mem_of_getElem? (i := 1143) (by decide +kernel), Or.inl (by decide +kernel)⟩
theorem qp_X10_135 : x_in (.fieldLink RX10 135 RX10 (TX10 41).2.1 (TX10 41).2.2.1) := ⟨List.mem_of_getElem? (i := 1144) (by decide +kernel), Or.inl (by decide +kernel)⟩
theorem qp_X10_138 : x_in (.fieldLink RX10 138 RX10 (TX10 42).2.1 (TX10 42).2.2.1) := ⟨List.mem_of_getElem? (i := 1145) (by decide +kernel), Or.inl (by decide +kernel)⟩
theorem qp_X10_141 : x_in (.fieldLink RX10 141 RX10 (TX10 43).2.1 (TX10 43).2.2.1) := ⟨List.mem_of_getElem? (i := 1146) (by decide +kernel), Or.inl (by decide +kernel)⟩
theorem qp_X10_144 : x_in (.fieldLink RX10 144 RX10 (TX10 44).2.1 (TX10 44).2.2.1) := ⟨List.mem_of_getElem? (i := 1147) (by decide +kernel), Or.inl (by decide +kernel)⟩
theorem qp_X10_147 : x_in (.fieldLink RX10 147 RX10 (TX10 45).2.1 (TX10 45).2.2.1) := ⟨List.mem_of_getElem? (i := 1148) (by decide +kernel), Or.inl (by decide +kernel)⟩
theorem qp_X10_150 : x_in (.fieldLink RX10 150 RX10 (TX10 46).2.1 (TX10 46).2.2.1) := ⟨List.mem_of_getElem? (i := 1149) (by decide +kernel), Or.inl (by decide +kernel)⟩
theorem qp_X10_153 : x_in (.fieldLink RX10 153 RX10 (TX10 47).2.1 (TX10 47).2.2.1) := ⟨List.mem_of_getElem? (i := 1150) (by decide +kernel), Or.inl (by decide +kernel)⟩
theorem qp_X10_156 : x_in (.fieldLink RX10 156 RX10 (TX10 48).2.1 (TX10 48).2.2.1) := ⟨List.mem_of_getElem? (i := 1151) (by decide +kernel), Or.inl (by decide +kernel)⟩
theorem qp_X10_159 : x_in (.fieldLink RX10 159 RX10 (TX10 49).2.1 (TX10 49).2.2.1) := ⟨List.mem_of_getElem? (i := 1152) (by decide +kernel), Or.inl (by decide +kernel)⟩
theorem qp_X10_163 : x_in (.fieldLink RX10 163 RX10 (TX10 50).2.1 (TX10 50).2.2.1) := ⟨List.mem_of_getElem? (i := 1153) (by decide +kernel), Or.inl (by decide +kernel)⟩
theorem qp_X10_166 : x_in (.fieldLink RX10 166 RX10 (TX10 51).2.1 (TX10 51).2.2.1) := ⟨List.mem_of_getElem? (i := 1154) (by decide +kernel), Or.inl (by decide +kernel)⟩
theorem qp_X10_169 : x_in (.fieldLink RX10 169 RX10 (TX10 52).2.1 (TX10 52).2.2.1) := ⟨List.mem_of_getElem? (i := 1155) (by decide +kernel), Or.inl (by decide +kernel)⟩
theorem qp_X10_172 : x_in (.fieldLink RX10 172 RX10 (TX10 53).2.1 (TX10 53).2.2.1) := ⟨List.mem_of_getElem? (i := 1156) (by decide +kernel), Or.inl (by decide +kernel)⟩
theorem qp_X10_175 : x_in (.fieldLink RX10 175 RX10 (TX10 54).2.1 (TX10 54).2.2.1) := ⟨List.mem_of_getElem? (i := 1157) (by decide +kernel), Or.inl (by decide +kernel)⟩
theorem qp_X10_178 : x_in (.fieldLink RX10 178 RX10 (TX10 55).2.1 (TX10 55).2.2.1) := ⟨List.mem_of_getElem? (i := 1158) (by decide +kernel), Or.inl (by decide +kernel)⟩
theorem qp_X10_181 : x_in (.fieldLink RX10 181 RX10 (TX10 56).2.1 (TX10 56).2.2.1) := ⟨List.mem_of_getElem? (i := 1159) (by decide +kernel), Or.inl (by decide +kernel)⟩
theorem qp_X10_184 : x_in (.fieldLink RX10 184 RX10 (TX10 57).2.1 (TX10 57).2.2.1) := ⟨List.mem_of_getElem? (i := 1160) (by decide +kernel), Or.inl (by decide +kernel)⟩
theorem qp_X10_187 : x_in (.fieldLink RX10 187 RX10 (TX10 58).2.1 (TX10 58).2.2.1) := ⟨List.mem_of_getElem? (i := 1161) (by decide +kernel), Or.inl (by decide +kernel)⟩
theorem qp_X10_190 : x_in (.fieldLink RX10 190 RX10 (TX10 59).2.1 (TX10 59).2.2.1) := ⟨List.mem_of_getElem? (i := 1162) (by decide +kernel), Or.inl (by decide +kernel)⟩
theorem qp_X10_193 : x_in (.fieldLink RX10 193 RX10 (TX10 60).2.1 (TX10 60).2.2.1) := ⟨List.mem_of_getElem? (i := 1163) (by decide +kernel), Or.inl (by decide +kernel)⟩
theorem qp_X10_196 : x_in (.fieldLink RX10 196 RX10 (TX10 61).2.1 (TX10 61).2.2.1) := ⟨List.mem_of_getElem? (i := 1164) (by decide +kernel), Or.inl (by decide +kernel)⟩
theorem qp_X10_199 : x_in (.fieldLink RX10 199 RX10 (TX10 62).2.1 (TX10 62).2.2.1) := ⟨List.mem_of_getElem? (i := 1165) (by decide +kernel), Or.inl (by decide +kernel)⟩
theorem qp_X10_202 : x_in (.fieldLink RX10 202 RX10 (TX10 63).2.1 (TX10 63).2.2.1) := ⟨List.mem_of_getElem? (i := 1166) (by decide +kernel), Or.inl (by decide +kernel)⟩
theorem qp_X10_205 : x_in (.fieldLink RX10 205 RX10 (TX10 64).2.1 (TX10 64).2.2.1) := ⟨List.mem_of_getElem? (i := 1167) (by decide +kernel), Or.inl (by decide +kernel)⟩
theorem qp_X10_208 : x_in (.fieldLink RX10 208 RX10 (TX10 65).2.1 (TX10 65).2.2.1) := ⟨List.mem_of_getElem? (i := 1168) (by decide +kernel), Or.inl (by decide +kernel)⟩
theorem qp_X10_211 : x_in (.fieldLink RX10 211 RX10 (TX10 66).2.1 (TX10 66).2.2.1) := ⟨List.mem_of_getElem? (i := 1169) (by decide +kernel), Or.inl (by decide +kernel)⟩
theorem qp_X10_214 : x_in (.fieldLink RX10 214 RX10 (TX10 67).2.1 (TX10 67).2.2.1) := ⟨List.mem_of_getElem? (i := 1170) (by decide +kernel), Or.inl (by decide +kernel)⟩
theorem qp_X10_217 : x_in (.fieldLink RX10 217 RX10 (TX10 68).2.1 (TX10 68).2.2.1) := ⟨List.mem_of_getElem? (i := 1171) (by decide +kernel), Or.inl (by decide +kernel)⟩
theorem qp_X10_220 : x_in (.fieldLink RX10 220 RX10 (TX10 69).2.1 (TX10 69).2.2.1) := ⟨List.mem_of_getElem? (i := 1172) (by decide +kernel), Or.inl (by decide +kernel)⟩
theorem qp_X10_223 : x_in (.fieldLink RX10 223 RX10 (TX10 70).2.1 (TX10 70).2.2.1) := ⟨List.mem_of_getElem? (i := 1173) (by decide +kernel), Or.inl (by decide +kernel)⟩
theorem qp_X10_226 : x_in (.fieldLink RX10 226 RX10 (TX10 71).2.1 (TX10 71).2.2.1) := ⟨List.mem_of_getElem? (i := 1174) (by decide +kernel), Or.inl (by decide +kernel)⟩
theorem qp_X10_229 : x_in (.fieldLink RX10 229 RX10 (TX10 72).2.1 (TX10 72).2.2.1) := ⟨List.mem_of_getElem? (i := 1175) (by decide +kernel), Or.inl (by decide +kernel)⟩
theorem qp_X10_232 : x_in (.fieldLink RX10 232 RX10 (TX10 73).2.1 (TX10 73).2.2.1) := ⟨List.mem_of_getElem? (i := 1176) (by decide +kernel), Or.inl (by decide +kernel)⟩
theorem qp_X10_235 : x_in (.fieldLink RX10 235 RX10 (TX10 74).2.1 (TX10 74).2.2.1) := ⟨List.mem_of_getElem? (i := 1177) (by decide +kernel), Or.inl (by decide +kernel)⟩
theorem qp_X10_238 : x_in (.fieldLink RX10 238 RX10 (TX10 75).2.1 (TX10 75).2.2.1) := ⟨List.mem_of_getElem? (i := 1178) (by decide +kernel), Or.inl (by decide +kernel)⟩
theorem qp_X10_242 : x_in (.fieldLink RX10 242 RX10 (TX10 76).2.1 (TX10 76).2.2.1) := ⟨List.mem_of_getElem? (i := 1179) (by decide +kernel), Or.inl (by decide +kernel)⟩
theorem qm_X4_27 : x_in (.methodLink RX4 27 yX4_clear) := ⟨List.mem_of_getElem? (i := 153) (by decide +kernel), Or.inl (by decide +kernel)⟩
theorem qh_X3_init : yX3_init.cls ≠ "java/lang/invoke/MethodHandle" ∧ yX3_init.cls ≠ "java/lang/invoke/VarHandle" ∧ (parseMethodDescriptor yX3_init.desc).map (fun d => d.parameters.length) = some 0 := by decide +kernel
theorem qh_X6_init : yX6_init.cls ≠ "java/lang/invoke/MethodHandle" ∧ yX6_init.cls ≠ "java/lang/invoke/VarHandle" ∧ (parseMethodDescriptor yX6_init.desc).map (fun d => d.parameters.length) = some 1 := by decide +kernel
theorem qh_X4_init : yX4_init.cls ≠ "java/lang/invoke/MethodHandle" ∧ yX4_init.cls ≠ "java/lang/invoke/VarHandle" ∧ (parseMethodDescriptor yX4_init.desc).map (fun d => d.parameters.length) = some 0 := by decide +kernel
theorem qh_X0_init : yX0_init.cls ≠ "java/lang/invoke/MethodHandle" ∧ yX0_init.cls ≠ "java/lang/invoke/VarHandle" ∧ (parseMethodDescriptor yX0_init.desc).map (fun d => d.parameters.length) = some 1 := by decide +kernel
theorem qh_X7_init : yX7_init.cls ≠ "java/lang/invoke/MethodHandle" ∧ yX7_init.cls ≠ "java/lang/invoke/VarHandle" ∧ (parseMethodDescriptor yX7_init.desc).map (fun d => d.parameters.length) = some 0 := by decide +kernel
theorem qh_X2_init : yX2_init.cls ≠ "java/lang/invoke/MethodHandle" ∧ yX2_init.cls ≠ "java/lang/invoke/VarHandle" ∧ (parseMethodDescriptor yX2_init.desc).map (fun d => d.parameters.length) = some 0 := by decide +kernel
theorem qh_X5_init : yX5_init.cls ≠ "java/lang/invoke/MethodHandle" ∧ yX5_init.cls ≠ "java/lang/invoke/VarHandle" ∧ (parseMethodDescriptor yX5_init.desc).map (fun d => d.parameters.length) = some 0 := by decide +kernel
theorem qh_X1_init : yX1_init.cls ≠ "java/lang/invoke/MethodHandle" ∧ yX1_init.cls ≠ "java/lang/invoke/VarHandle" ∧ (parseMethodDescriptor yX1_init.desc).map (fun d => d.parameters.length) = some 0 := by decide +kernel
theorem qh_X8_init : yX8_init.cls ≠ "java/lang/invoke/MethodHandle" ∧ yX8_init.cls ≠ "java/lang/invoke/VarHandle" ∧ (parseMethodDescriptor yX8_init.desc).map (fun d => d.parameters.length) = some 0 := by decide +kernel
