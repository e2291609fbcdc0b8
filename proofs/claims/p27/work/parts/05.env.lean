/-! the written tables, and the script, as the small machine has them -/
def tbK (j : Nat) : List Int32 := match j with
  | 0 => [1, 30, 10, 0, 3, 12, 0, 40]
  | 1 => [0, 1, 0, 0, 0, 0, 0, 0]
  | _ => [4, 100, 99, 1, 30, 99, 1, 99]
def lawE (L : Nat) (xs : Nat → Int32) : AEnv := fun k => match k with
  | 3 => (L, xs)
  | k => (8, fun j => (tbK k).getD j 0)
def lawI : Nat := 105
def sig0 : ASt := ([], (fun _ _ => 0), (fun _ _ => 0))
