theorem z32_w (z : Int) : Int32.ofInt (zw z) = Int32.ofInt z := by
  apply Int32.toInt_inj.mp
  rw [Int32.toInt_ofInt, Int32.toInt_ofInt]
  unfold zw
  simp only [Int.bmod_def, Int32.size]
  omega
theorem z64_w (z : Int) : Int64.ofInt (zW z) = Int64.ofInt z := by
  apply Int64.toInt_inj.mp
  rw [Int64.toInt_ofInt, Int64.toInt_ofInt]
  unfold zW
  simp only [Int.bmod_def, Int64.size]
  omega
theorem zw_r (z : Int) : -2147483648 ≤ zw z ∧ zw z < 2147483648 := by unfold zw; omega
theorem zW_r (z : Int) : -9223372036854775808 ≤ zW z ∧ zW z < 9223372036854775808 := by unfold zW; omega
theorem z32_add (x y : Int) : Int32.ofInt (zw (x + y)) = Int32.ofInt x + Int32.ofInt y := by rw [z32_w, Int32.ofInt_add]
theorem z32_sub (x y : Int) : Int32.ofInt (zw (x - y)) = Int32.ofInt x - Int32.ofInt y := by rw [z32_w, Int32.ofInt_sub]
theorem z32_mul (x y : Int) : Int32.ofInt (zw (x * y)) = Int32.ofInt x * Int32.ofInt y := by rw [z32_w, Int32.ofInt_mul]
theorem z32_neg (x : Int) : Int32.ofInt (zw (-x)) = -Int32.ofInt x := by rw [z32_w, Int32.ofInt_neg]
theorem z64_add (x y : Int) : Int64.ofInt (zW (x + y)) = Int64.ofInt x + Int64.ofInt y := by rw [z64_w, Int64.ofInt_add]
theorem z64_sub (x y : Int) : Int64.ofInt (zW (x - y)) = Int64.ofInt x - Int64.ofInt y := by rw [z64_w, Int64.ofInt_sub]
theorem z64_mul (x y : Int) : Int64.ofInt (zW (x * y)) = Int64.ofInt x * Int64.ofInt y := by rw [z64_w, Int64.ofInt_mul]
theorem z32_ti {x : Int} (h : -2147483648 ≤ x ∧ x < 2147483648) : (Int32.ofInt x).toInt = x := Int32.toInt_ofInt_of_le (by omega) (by omega)
theorem z64_ti {x : Int} (h : -9223372036854775808 ≤ x ∧ x < 9223372036854775808) : (Int64.ofInt x).toInt = x := Int64.toInt_ofInt_of_le (by omega) (by omega)
theorem z32_r (x : Int32) : -2147483648 ≤ x.toInt ∧ x.toInt < 2147483648 := ⟨Int32.le_toInt x, Int32.toInt_lt x⟩
theorem z64_r (x : Int64) : -9223372036854775808 ≤ x.toInt ∧ x.toInt < 9223372036854775808 := ⟨Int64.le_toInt x, Int64.toInt_lt x⟩
theorem z32_lt {x y : Int} (h : -2147483648 ≤ x ∧ x < 2147483648) (g : -2147483648 ≤ y ∧ y < 2147483648) : Int32.ofInt x < Int32.ofInt y ↔ x < y := by rw [Int32.lt_iff_toInt_lt, z32_ti h, z32_ti g]
theorem z32_le {x y : Int} (h : -2147483648 ≤ x ∧ x < 2147483648) (g : -2147483648 ≤ y ∧ y < 2147483648) : Int32.ofInt x ≤ Int32.ofInt y ↔ x ≤ y := by rw [Int32.le_iff_toInt_le, z32_ti h, z32_ti g]
theorem z32_eq {x y : Int} (h : -2147483648 ≤ x ∧ x < 2147483648) (g : -2147483648 ≤ y ∧ y < 2147483648) : Int32.ofInt x = Int32.ofInt y ↔ x = y := by rw [← Int32.toInt_inj, z32_ti h, z32_ti g]
theorem z32_64 {x : Int} (h : -2147483648 ≤ x ∧ x < 2147483648) : (Int32.ofInt x).toInt64 = Int64.ofInt x := by
  apply Int64.toInt_inj.mp
  rw [Int32.toInt_toInt64, z32_ti h, z64_ti (by omega)]
theorem z8_32 {x : Int} (h : -128 ≤ x ∧ x ≤ 127) : (Int8.ofInt x).toInt32 = Int32.ofInt x := by
  apply Int32.toInt_inj.mp
  rw [Int8.toInt_toInt32, z32_ti (by omega), Int8.toInt_ofInt_of_le (by omega) (by omega)]
theorem z16_32 {x : Int} (h : -32768 ≤ x ∧ x ≤ 32767) : (Int16.ofInt x).toInt32 = Int32.ofInt x := by
  apply Int32.toInt_inj.mp
  rw [Int16.toInt_toInt32, z32_ti (by omega), Int16.toInt_ofInt_of_le (by omega) (by omega)]
theorem z64_cmp {x y : Int} (h : -9223372036854775808 ≤ x ∧ x < 9223372036854775808) (g : -9223372036854775808 ≤ y ∧ y < 9223372036854775808) : lg_cmp (Int64.ofInt x) (Int64.ofInt y) = Int32.ofInt (zlcmp x y) := by
  unfold lg_cmp zlcmp
  simp only [gt_iff_lt, Int64.lt_iff_toInt_lt, ← Int64.toInt_inj, z64_ti h, z64_ti g]
  by_cases h1 : x < y
  · rw [if_neg (by omega), if_neg (by omega), if_pos h1]; rfl
  · by_cases h2 : x = y
    · rw [if_neg (by omega), if_pos h2, if_neg h1, if_pos h2]; rfl
    · rw [if_pos (by omega), if_neg h1, if_neg h2]; rfl
theorem z32_0 : Int32.ofInt 0 = 0 := rfl
theorem zcl_n {j : Int} {len : Nat} (h0 : 0 ≤ j) (h1 : j < len) (hr : -2147483648 ≤ j ∧ j < 2147483648) : vp_in (Int32.ofInt j) len ∧ (Int32.ofInt j).toNatClampNeg = j.toNat := by
  have e : (Int32.ofInt j).toInt = j := z32_ti hr
  refine ⟨vp_in_iff.mpr ⟨by rw [e]; exact h0, by rw [e]; exact h1⟩, ?_⟩
  show (Int32.ofInt j).toInt.toNat = j.toNat
  rw [e]
