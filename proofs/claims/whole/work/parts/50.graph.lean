/-! the objects of both sides, numbered as they are made (written by wip/whole/graph.py); n: cells of the board, ly: layers -/
def G0 (n ly : Nat) : Gr := [
  .inl (11, [some 1, some 6, some 9, some 22, some 30, some 37, some 40, some 41, some 45, some 46, some 51]),
  .inl (2, [none, none, none, none, none, some 2, some 3, some 4, some 5]),
  .inr (0, n * 6),
  .inr (0, n),
  .inr (0, n),
  .inr (0, n),
  .inl (8, [none, some 7, some 8, none, none, none]),
  .inr (0, 80),
  .inr (0, 5),
  .inl (3, [some 1, some 10, some 11, some 12, some 13, some 14, some 15, some 16, some 17, some 18, some 19, some 20, some 21, none, none]),
  .inr (0, 30),
  .inr (0, 8),
  .inr (0, 8),
  .inr (0, 8),
  .inr (0, 32),
  .inr (0, n),
  .inr (0, n),
  .inr (0, n),
  .inr (0, n * 8),
  .inr (0, n * 8),
  .inr (0, n),
  .inr (0, n * 8),
  .inl (6, [some 1, some 9, some 24, some 25, some 26, some 27, some 28, some 29, some 23, none]),
  .inr (0, 3),
  .inr (0, n),
  .inr (0, n),
  .inr (0, n),
  .inr (0, n),
  .inr (0, n),
  .inr (0, n),
  .inl (7, [some 1, some 9, some 22, some 31, some 32, some 33, some 34, some 35, some 36, none, none, none, none, none, none]),
  .inr (0, n),
  .inr (0, n),
  .inr (0, n),
  .inr (0, n * 5),
  .inr (0, n * 5),
  .inr (0, n * 5),
  .inl (5, [some 1, some 9, some 22, some 30, some 38, some 39]),
  .inr (0, n),
  .inr (0, n),
  .inl (1, [some 1, some 9, some 22, some 30]),
  .inl (10, [some 1, some 9, some 22, some 42, some 43, some 44, none, none, none, none, none]),
  .inr (0, 3),
  .inr (0, 3),
  .inr (0, 3),
  .inl (4, [some 1, some 9, some 22, none, none]),
  .inl (0, [some 1, some 9, some 47, none, none, some 48, some 49, some 50, none]),
  .inr (0, ly + 1),
  .inr (0, n),
  .inr (0, n),
  .inr (0, n),
  .inl (9, [some 1, some 9, some 22, some 52, some 53, none]),
  .inr (0, n + 1),
  .inr (0, n + 1),
  .inl (12, [none, none, none, none, some 55, none, none, none, some 56, some 57, some 58, some 59, some 60, none, none, some 61, some 62, some 63, some 64, some 65, some 66, some 67, some 68, some 69, some 70, some 71, none, some 72, none, none, none, some 73, some 74, none, some 75, some 76, some 77, some 78, some 79, some 80, some 81, none, some 82, some 83, some 84, some 85, some 86, none, none, some 87, some 88, some 89, some 90, some 91]),
  .inr (0, 80),
  .inr (0, 7),
  .inr (0, 7),
  .inr (0, 7),
  .inr (0, 7),
  .inr (0, 7),
  .inr (0, 8),
  .inr (0, 8),
  .inr (0, 8),
  .inr (0, 32),
  .inr (0, 8),
  .inr (0, 9600),
  .inr (0, 9600),
  .inr (0, 8),
  .inr (0, 19200),
  .inr (0, 19200),
  .inr (1, 324),
  .inr (0, 2592),
  .inr (0, 2400),
  .inr (0, 2400),
  .inr (0, 19200),
  .inr (0, 19200),
  .inr (0, 8),
  .inr (1, 324),
  .inr (0, 1620),
  .inr (1, 324),
  .inr (0, 324),
  .inr (0, 324),
  .inr (1, 324),
  .inr (0, 324),
  .inr (1, 81),
  .inr (0, 81),
  .inr (0, 2592),
  .inr (0, 5),
  .inr (0, 19200),
  .inr (0, 19200),
  .inr (0, 8),
  .inr (2, 1)]
def oppF (i : Nat) : Int := match i with
  | 0 => 2
  | 1 => 3
  | 2 => 0
  | 3 => 1
  | 4 => 5
  | _ => 4
def letF (i : Nat) : Int := match i with
  | 0 => 115
  | 1 => 118
  | 2 => 98
  | 3 => 99
  | _ => 108
def leaF (i : Nat) : Int := match i with
  | 0 => 1
  | _ => 0
def mosF (i : Nat) : Int := match i with
  | 0 => 9
  | 1 => 99
  | 2 => 99
  | _ => 2
def usuF (i : Nat) : Int := match i with
  | 0 => 1
  | 1 => 5
  | _ => 0
/-- the read-only arrays: OPPOSITE, LETTERS, LEAST, MOST, USUAL, the script -/
def RO0 (len : Nat) (xs : Nat → Int) : Ro := [(0, 6, oppF), (3, 5, letF), (0, 4, leaF), (0, 4, mosF), (0, 4, usuF), (0, len, xs)]
/-- what all contracts speak of: the launch, the tables' numbers, cells, layers, the script -/
abbrev Xv : Type := Launch × va_G × (Nat → ClassId) × Nat × Nat × Nat × (Nat → Int)
abbrev eX (X : Xv) : Ev := (X.1, X.2.1, X.2.2.1, G0 X.2.2.2.1 X.2.2.2.2.1, RO0 X.2.2.2.2.2.1 X.2.2.2.2.2.2)
abbrev nC (X : Xv) : Nat := X.2.2.2.1
abbrev nL (X : Xv) : Nat := X.2.2.2.2.1
