/-! bits of an int -/
def tb (x : Int) (i : Int) : Bool := (Int32.ofInt x).toBitVec.getLsbD i.toNat
theorem z32o (x : Int32) : Int32.ofInt x.toInt = x := Int32.ofInt_toInt x
theorem tb_and (x y i : Int) : tb (zand x y) i = (tb x i && tb y i) := by
  unfold tb zand
  rw [z32o, Int32.toBitVec_and, BitVec.getLsbD_and]
theorem tb_or (x y i : Int) : tb (zor x y) i = (tb x i || tb y i) := by
  unfold tb zor
  rw [z32o, Int32.toBitVec_or, BitVec.getLsbD_or]
theorem tb_xor (x y i : Int) : tb (zxor x y) i = (tb x i ^^ tb y i) := by
  unfold tb zxor
  rw [z32o, Int32.toBitVec_xor, BitVec.getLsbD_xor]
theorem tb_m1 {i : Int} (h0 : 0 ≤ i) (h : i < 32) : tb (-1) i = true := by
  obtain ⟨n, rfl⟩ : ∃ n : Nat, i = n := ⟨i.toNat, by omega⟩
  have hn : n < 32 := by omega
  have key : ∀ n : Nat, n < 32 → tb (-1) (n : Nat) = true := by decide +kernel
  exact key n hn
theorem tb_0 (i : Int) : tb 0 i = false := by
  unfold tb
  rw [show (Int32.ofInt 0).toBitVec = 0#32 from rfl]
  exact BitVec.getLsbD_zero
theorem tb_shl {k i : Int} (h0 : 0 ≤ k) (h : k < 32) (g0 : 0 ≤ i) (g : i < 32) : tb (zshl 1 k) i = decide (i = k) := by
  obtain ⟨n, rfl⟩ : ∃ n : Nat, i = n := ⟨i.toNat, by omega⟩
  obtain ⟨m, rfl⟩ : ∃ m : Nat, k = m := ⟨k.toNat, by omega⟩
  have key : ∀ m : Nat, m < 32 → ∀ n : Nat, n < 32 → tb (zshl 1 (m : Nat)) (n : Nat) = decide (((n : Nat) : Int) = ((m : Nat) : Int)) := by decide +kernel
  exact key m (by omega) n (by omega)
theorem tb_ext {x y : Int} (hx : -2147483648 ≤ x ∧ x < 2147483648) (hy : -2147483648 ≤ y ∧ y < 2147483648) (h : ∀ i : Int, 0 ≤ i → i < 32 → tb x i = tb y i) : x = y := by
  have e : Int32.ofInt x = Int32.ofInt y := by
    apply Int32.toBitVec_inj.mp
    apply BitVec.eq_of_getLsbD_eq
    intro i hi
    exact h i (by omega) (by omega)
  exact (z32_eq hx hy).mp e
theorem zand_r (x y : Int) : -2147483648 ≤ zand x y ∧ zand x y < 2147483648 := z32_r _
theorem zor_r (x y : Int) : -2147483648 ≤ zor x y ∧ zor x y < 2147483648 := z32_r _
theorem zxor_r (x y : Int) : -2147483648 ≤ zxor x y ∧ zxor x y < 2147483648 := z32_r _
theorem zshl_r (x y : Int) : -2147483648 ≤ zshl x y ∧ zshl x y < 2147483648 := z32_r _
theorem zshr_r (x y : Int) : -2147483648 ≤ zshr x y ∧ zshr x y < 2147483648 := z32_r _
/-- the bit of a shift -/
theorem tb_shr {x k : Int} (h0 : 0 ≤ k) (h : k < 32) : zand (zshr x k) 1 = if tb x k then 1 else 0 := by
  obtain ⟨m, rfl⟩ : ∃ m : Nat, k = m := ⟨k.toNat, by omega⟩
  have hm : m < 32 := by omega
  unfold zand zshr tb
  rw [z32o]
  generalize Int32.ofInt x = y
  have e1 : (Int32.ofInt (m : Nat) &&& 31) = Int32.ofInt (m : Nat) := by
    have key : ∀ m : Nat, m < 32 → (Int32.ofInt (m : Nat) &&& 31) = Int32.ofInt (m : Nat) := by decide +kernel
    exact key m hm
  rw [e1]
  have e2 : (Int32.ofInt 1) = 1 := rfl
  have e3 : ((y >>> Int32.ofInt (m : Nat)) &&& 1).toBitVec = if y.toBitVec.getLsbD m then 1#32 else 0#32 := by
    rw [Int32.toBitVec_and, Int32.toBitVec_shiftRight]
    have e4 : (Int32.ofInt (m : Nat)).toBitVec.smod 32 = BitVec.ofNat 32 m := by
      have key : ∀ m : Nat, m < 32 → (Int32.ofInt (m : Nat)).toBitVec.smod 32 = BitVec.ofNat 32 m := by decide +kernel
      exact key m hm
    rw [e4]
    apply BitVec.eq_of_getLsbD_eq
    intro i hi
    rw [BitVec.getLsbD_and, BitVec.sshiftRight_eq', BitVec.getLsbD_sshiftRight]
    have e5 : (BitVec.ofNat 32 m).toNat = m := by simp; omega
    rw [e5]
    have e6 : (1 : Int32).toBitVec.getLsbD i = decide (i = 0) := by
      have key : ∀ i : Nat, i < 32 → (1 : Int32).toBitVec.getLsbD i = decide (i = 0) := by decide +kernel
      exact key i hi
    rw [e6]
    by_cases q : i = 0
    · subst q
      have : m + 0 < 32 := by omega
      cases hb : y.toBitVec.getLsbD m <;> simp [hb, this] <;> first | (intro q; omega) | exact Or.inl hm
    · cases hb : y.toBitVec.getLsbD m <;> simp [q, hb]
  rw [e2]
  have e7 : ((m : Int)).toNat = m := by omega
  rw [e7]
  show (((y >>> Int32.ofInt (m : Nat)) &&& 1).toBitVec).toInt = _
  rw [e3]
  cases y.toBitVec.getLsbD m <;> rfl
