/-! ===== who doesn't commute has a standard pair ===== -/
theorem sm5_2I : chkMax 5 (1, 1) (2, 0) (0, 0) sg5_2I [] = true := by decide +kernel
def STDL (D : Int) : List (P2 × P2 × P2) := if D = 2 then [((0, 0), (0, 0), (0, 0)), ((2, 0), (0, 0), (0, 0)), ((0, 2), (0, 0), (0, 0)), ((2, 0), (2, 0), (0, 0)), ((0, 2), (2, 0), (0, 0))] else if D = 3 then [((0, 0), (0, 0), (0, 0)), ((2, 0), (0, 0), (0, 0)), ((0, 2), (0, 0), (0, 0)), ((2, 0), (2, 0), (0, 0))] else [((0, 0), (0, 0), (0, 0)), ((2, 0), (0, 0), (0, 0)), ((1, 1), (0, 0), (0, 0)), ((2, 0), (2, 0), (0, 0)), ((1, 1), (2, 0), (0, 0))]
abbrev g15 : List (Nat × Bool) := [(0, false), (0, true), (1, false), (1, true), (2, false), (2, true), (3, false), (3, true), (4, false), (4, true), (5, false), (5, true), (6, false), (6, true)]
def zz (D : Int) (s : P2 × P2 × P2) : List P8 := zths D s.1 s.2.1 s.2.2 g15 ((4, 0), s.1, s.2.1, s.2.2)
def cnd (D : Int) (s : P2 × P2 × P2) : List (P2 × P2 × P2) := (zz D s).flatMap (shp D s.1 s.2.1 s.2.2)
def bscI (D : Int) (s : P2 × P2 × P2) : Bool := (zz D s).any (fun Z => !((TRL D).contains Z.1 && (TRL D).contains Z.2.1 && (TRL D).contains Z.2.2.1 && (TRL D).contains Z.2.2.2)) || (STDL D).contains s || (cnd D s).any (fun c => (STDL D).contains c)
def chkI (D : Int) : Nat → (P2 × P2 × P2) → Bool
  | 0, s => bscI D s
  | f + 1, s => bscI D s || (cnd D s).any (fun c => decide (cmX D c.1 c.2.1 c.2.2 ≠ (4, 0)) && chkI D f c)
def chkIB (D : Int) (a : P2) : Bool := (TRL D).all fun b => (TRL D).all fun c => decide (cmX D a b c = (4, 0)) || chkI D 2 (a, b, c)
def chkIA (D : Int) : Bool := (TRL D).all (chkIB D)
theorem ci2 : chkIA 2 = true := by decide +kernel
theorem ci3 : chkIA 3 = true := by decide +kernel
theorem ci5_0 : chkIB 5 (4, 0) = true := by decide +kernel
theorem ci5_1 : chkIB 5 (-4, 0) = true := by decide +kernel
theorem ci5_2 : chkIB 5 (2, 0) = true := by decide +kernel
theorem ci5_3 : chkIB 5 (-2, 0) = true := by decide +kernel
theorem ci5_4 : chkIB 5 (0, 0) = true := by decide +kernel
theorem ci5_5 : chkIB 5 (1, 1) = true := by decide +kernel
theorem ci5_6 : chkIB 5 (1, -1) = true := by decide +kernel
theorem ci5_7 : chkIB 5 (-1, 1) = true := by decide +kernel
theorem ci5_8 : chkIB 5 (-1, -1) = true := by decide +kernel
theorem ci5 : chkIA 5 = true := by
  show ([(4, 0), (-4, 0), (2, 0), (-2, 0), (0, 0), (1, 1), (1, -1), (-1, 1), (-1, -1)] : List P2).all (chkIB 5) = true
  rw [List.all_cons, List.all_cons, List.all_cons, List.all_cons, List.all_cons, List.all_cons, List.all_cons, List.all_cons, List.all_cons, List.all_nil, ci5_0, ci5_1, ci5_2, ci5_3, ci5_4, ci5_5, ci5_6, ci5_7, ci5_8]
  rfl
