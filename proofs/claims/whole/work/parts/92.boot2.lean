/-- both constructors, up to the reference's lays -/
def zbM (M : zM) : Bool := decide ((M 1 2 = 0 ∧ M 123 2 = 0 ∧ M 123 3 = 0 ∧ M 123 11 = 0 ∧ M 28 1 = 0 ∧ M 97 8 = -1 ∧ M 112 7 = 0) ∧ (M 12 0 = 0 ∧ M 12 1 = 1 ∧ M 12 2 = 0 ∧ M 12 3 = 0 ∧ M 12 4 = 0 ∧ M 12 5 = 0) ∧ (M 4 0 = 0 ∧ M 4 1 = 0 ∧ M 4 2 = 0 ∧ M 4 3 = 0 ∧ M 4 4 = 0))
  && (List.range 4).all (fun j => decide (M 2 (j : Int) = 0 ∧ M 124 (j : Int) = 0))
  && (List.range 16).all (fun v => decide (M 5 (v : Int) = 0 ∧ M 126 (v : Int) = 0 ∧ M 127 (v : Int) = 0))
  && (List.range 17).all (fun v => decide (M 10 (v : Int) = 0))
  && (List.range 24).all (fun l => decide (M 17 (l : Int) = 0 ∧ M 18 (l : Int) = -1))
  && decide (M 29 0 = 30 ∧ M 29 1 = 38 ∧ M 29 2 = 46 ∧ M 29 3 = 54 ∧ M 29 4 = 62 ∧ M 29 5 = 70)
  && (List.range 159).all (fun a => if (zKl.getD a (9, 0)).1 = 2 then (List.range 56).all (fun j => match zrf (zKl.getD a (9, 0)).2 j with | some o => decide (M (a : Int) (j : Int) = (a : Int) + o) | none => true) else true)
def zbt1 : Bool := match zxr 1200 67 1 128 0 [(2, 1)] [] 1 (fun _ _ => 0) with
  | some (pc, L, st, n, M) => decide (pc = 128 ∧ L = [(2, 1)] ∧ st = [] ∧ n = 122)
  | none => false
set_option maxRecDepth 100000 in
theorem zbt1_ok : zbt1 = true := by decide +kernel
