/-! the objects of a class, by number -/
set_option maxRecDepth 20000 in
theorem zin_0 {a : Int} (h : zKT a = (2, 0)) : a = 12 ∨ a = 20 ∨ a = 100 ∨ a = 115 := by
  match a, h with
  | .ofNat i, h =>
    have hi : i < 159 := by
      rcases Nat.lt_or_ge i 159 with q | q
      · exact q
      · exfalso
        have e : zKT (Int.ofNat i) = (9, 0) := by
          show zKl.getD i (9, 0) = (9, 0)
          rw [List.getD_eq_getElem?_getD, List.getElem?_eq_none (Nat.le_trans (by decide) q)]
          rfl
        rw [e] at h
        cases h
    have key : ∀ j, j < 159 → zKl.getD j (9, 0) = (2, 0) → j = 12 ∨ j = 20 ∨ j = 100 ∨ j = 115 := by decide +kernel
    have := key i hi h
    show ((i : Nat) : Int) = 12 ∨ ((i : Nat) : Int) = 20 ∨ ((i : Nat) : Int) = 100 ∨ ((i : Nat) : Int) = 115
    omega
  | .negSucc i, h => cases h
set_option maxRecDepth 20000 in
theorem zin_1 {a : Int} (h : zKT a = (2, 1)) : a = 4 ∨ a = 30 ∨ a = 38 ∨ a = 46 ∨ a = 54 ∨ a = 62 ∨ a = 70 ∨ a = 79 := by
  match a, h with
  | .ofNat i, h =>
    have hi : i < 159 := by
      rcases Nat.lt_or_ge i 159 with q | q
      · exact q
      · exfalso
        have e : zKT (Int.ofNat i) = (9, 0) := by
          show zKl.getD i (9, 0) = (9, 0)
          rw [List.getD_eq_getElem?_getD, List.getElem?_eq_none (Nat.le_trans (by decide) q)]
          rfl
        rw [e] at h
        cases h
    have key : ∀ j, j < 159 → zKl.getD j (9, 0) = (2, 1) → j = 4 ∨ j = 30 ∨ j = 38 ∨ j = 46 ∨ j = 54 ∨ j = 62 ∨ j = 70 ∨ j = 79 := by decide +kernel
    have := key i hi h
    show ((i : Nat) : Int) = 4 ∨ ((i : Nat) : Int) = 30 ∨ ((i : Nat) : Int) = 38 ∨ ((i : Nat) : Int) = 46 ∨ ((i : Nat) : Int) = 54 ∨ ((i : Nat) : Int) = 62 ∨ ((i : Nat) : Int) = 70 ∨ ((i : Nat) : Int) = 79
    omega
  | .negSucc i, h => cases h
set_option maxRecDepth 20000 in
theorem zin_5 {a : Int} (h : zKT a = (2, 5)) : a = 88 ∨ a = 93 ∨ a = 108 := by
  match a, h with
  | .ofNat i, h =>
    have hi : i < 159 := by
      rcases Nat.lt_or_ge i 159 with q | q
      · exact q
      · exfalso
        have e : zKT (Int.ofNat i) = (9, 0) := by
          show zKl.getD i (9, 0) = (9, 0)
          rw [List.getD_eq_getElem?_getD, List.getElem?_eq_none (Nat.le_trans (by decide) q)]
          rfl
        rw [e] at h
        cases h
    have key : ∀ j, j < 159 → zKl.getD j (9, 0) = (2, 5) → j = 88 ∨ j = 93 ∨ j = 108 := by decide +kernel
    have := key i hi h
    show ((i : Nat) : Int) = 88 ∨ ((i : Nat) : Int) = 93 ∨ ((i : Nat) : Int) = 108
    omega
  | .negSucc i, h => cases h
