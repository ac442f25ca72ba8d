/-! numbers that aren't negative, as bits; Integer.bitCount -/
theorem bvi_nat {a : Nat} : BitVec.ofInt 32 (a : Int) = BitVec.ofNat 32 a := by
  apply BitVec.eq_of_toNat_eq
  rw [BitVec.toNat_ofInt, BitVec.toNat_ofNat]
  omega
theorem zand_nat {a b : Nat} (ha : a < 2147483648) (hb : b < 2147483648) : zand (a : Int) (b : Int) = ((a &&& b : Nat) : Int) := by
  show (BitVec.ofInt 32 (a : Int) &&& BitVec.ofInt 32 (b : Int)).toInt = _
  have e : (BitVec.ofInt 32 (a : Int) &&& BitVec.ofInt 32 (b : Int)).toNat = a &&& b := by
    rw [BitVec.toNat_and, bvi_nat, bvi_nat, BitVec.toNat_ofNat, BitVec.toNat_ofNat, Nat.mod_eq_of_lt (by omega), Nat.mod_eq_of_lt (by omega)]
  have l : a &&& b ≤ a := Nat.and_le_left
  rw [BitVec.toInt_eq_toNat_of_lt (by rw [e]; omega), e]
theorem tb_nat {a : Nat} {i : Nat} (hi : i < 32) : tb (a : Int) (i : Int) = a.testBit i := by
  rw [tb_bv, bvi_nat, BitVec.getLsbD_ofNat]
  simp [hi]
theorem zushr_nat {a k : Nat} (ha : a < 2147483648) (hk : k < 32) (e : (Int32.ofInt (k : Int)).toUInt32 &&& Int32.toUInt32 31 = UInt32.ofNat k) : zushr (a : Int) (k : Int) = ((a / 2 ^ k : Nat) : Int) := by
  unfold zushr
  rw [e]
  have hu : (Int32.ofInt (a : Int)).toUInt32.toNat = a := by
    show (BitVec.ofInt 32 (a : Int)).toNat = a
    rw [bvi_nat, BitVec.toNat_ofNat, Nat.mod_eq_of_lt (by omega)]
  generalize (Int32.ofInt (a : Int)).toUInt32 = u at hu
  have hk2 : (UInt32.ofNat k).toNat = k := by
    rw [UInt32.toNat_ofNat']
    omega
  have h : (u >>> UInt32.ofNat k).toNat = a / 2 ^ k := by
    rw [UInt32.toNat_shiftRight, hu, hk2, Nat.mod_eq_of_lt hk, Nat.shiftRight_eq_div_pow]
  have hle : a / 2 ^ k ≤ a := Nat.div_le_self _ _
  generalize u >>> UInt32.ofNat k = w at h
  show w.toBitVec.toInt = _
  have h' : w.toBitVec.toNat = a / 2 ^ k := h
  rw [BitVec.toInt_eq_toNat_of_lt (by rw [h']; omega), h']
theorem zshr_5 {a : Nat} (ha : a < 4096) : zshr (a : Int) 5 = ((a / 32 : Nat) : Int) := by
  have key : ∀ b : Nat, b < 64 → ∀ c : Nat, c < 64 → zshr ((64 * b + c : Nat) : Int) 5 = (((64 * b + c) / 32 : Nat) : Int) := by decide +kernel
  have := key (a / 64) (by omega) (a % 64) (by omega)
  rw [show 64 * (a / 64) + a % 64 = a by omega] at this
  exact this
theorem zand_31 {a : Nat} (ha : a < 4096) : zand (a : Int) 31 = ((a % 32 : Nat) : Int) := by
  have := zand_nat (a := a) (b := 31) (by omega) (by omega)
  rw [show ((31 : Nat) : Int) = 31 from rfl] at this
  rw [this, show (31 : Nat) = 2 ^ 5 - 1 from rfl, Nat.and_two_pow_sub_one_eq_mod]
theorem and_split (k : Nat) {u m y n : Nat} (hu : u < 2 ^ k) (hm : m < 2 ^ k) : (u + 2 ^ k * y) &&& (m + 2 ^ k * n) = (u &&& m) + 2 ^ k * (y &&& n) := by
  have huv : u &&& m < 2 ^ k := Nat.lt_of_le_of_lt Nat.and_le_left hu
  rw [Nat.add_comm u, Nat.add_comm m, Nat.add_comm (u &&& m)]
  apply Nat.eq_of_testBit_eq
  intro i
  rw [Nat.testBit_and, Nat.testBit_two_pow_mul_add _ hu, Nat.testBit_two_pow_mul_add _ hm, Nat.testBit_two_pow_mul_add _ huv]
  split
  · rw [Nat.testBit_and]
  · rw [Nat.testBit_and]
theorem and3 {a b c m : Nat} (ha : a < 256) (hb : b < 256) (hc : c < 256) (hm : m < 256) : (a + 256 * (b + 256 * c)) &&& (m + 256 * (m + 256 * (m + 256 * m))) = (a &&& m) + 256 * ((b &&& m) + 256 * (c &&& m)) := by
  have h1 := and_split 8 (u := a) (m := m) (y := b + 256 * c) (n := m + 256 * (m + 256 * m)) ha hm
  have h2 := and_split 8 (u := b) (m := m) (y := c) (n := m + 256 * m) hb hm
  have h3 := and_split 8 (u := c) (m := m) (y := 0) (n := m) hc hm
  rw [show 2 ^ 8 = 256 from rfl] at h1 h2 h3
  rw [Nat.mul_zero, Nat.add_zero, Nat.zero_and, Nat.mul_zero, Nat.add_zero] at h3
  rw [h1, h2, h3]
def bp1 (a : Nat) : Nat := a - ((a / 2) &&& 85)
def bp2 (a : Nat) : Nat := (a &&& 51) + ((a / 4) &&& 51)
def bp3 (a : Nat) : Nat := (a + a / 16) &&& 15
def bct (a : Nat) : Nat → Nat
  | 0 => 0
  | n + 1 => bct a n + (if a.testBit n then 1 else 0)
theorem bpD1 : ∀ e, e < 2 → ∀ a, a < 256 → ((a / 2 + 128 * e) &&& 85) = ((a / 2) &&& 85) ∧ ((a / 2) &&& 85) ≤ a := by decide +kernel
theorem bpD2 : ∀ e, e < 4 → ∀ a, a < 256 → ((a / 4 + 64 * e) &&& 51) = ((a / 4) &&& 51) := by decide +kernel
theorem bpD3 : ∀ e, e < 5 → ∀ a, a < 69 → ((a + a / 16 + 16 * e) &&& 15) = bp3 a := by decide +kernel
theorem bpD4 : ∀ a, a < 256 → bp3 (bp2 (bp1 a)) = bct a 8 ∧ bp2 (bp1 a) < 69 ∧ bp2 (bp1 a) % 16 < 5 ∧ bp2 (bp1 a) / 16 < 5 ∧ bp1 a < 256 ∧ bct a 8 ≤ 8 := by decide +kernel
theorem bct_split (a : Nat) : ∀ n, bct a (8 + n) = bct a 8 + bct (a / 256) n
  | 0 => rfl
  | n + 1 => by
    show bct a (8 + n) + (if a.testBit (8 + n) then 1 else 0) = bct a 8 + (bct (a / 256) n + (if (a / 256).testBit n then 1 else 0))
    rw [bct_split a n, show (256 : Nat) = 2 ^ 8 from rfl, Nat.testBit_div_two_pow, Nat.add_comm n 8]
    omega
theorem bct_mod (a : Nat) : bct a 8 = bct (a % 256) 8 := by
  have : ∀ n, n ≤ 8 → bct a n = bct (a % 256) n := by
    intro n
    induction n with
    | zero => intro _; rfl
    | succ n ih =>
      intro h
      show bct a n + (if a.testBit n then 1 else 0) = bct (a % 256) n + (if (a % 256).testBit n then 1 else 0)
      rw [ih (by omega), show (256 : Nat) = 2 ^ 8 from rfl, Nat.testBit_mod_two_pow]
      have : n < 8 := by omega
      simp [this]
  exact this 8 (Nat.le_refl _)
section CT
variable {Q : Int → zM → Prop} {M : zM}
theorem c164 {x : Nat} (hx : x < 16777216) (hQ : Q ((bct x 24 : Nat) : Int) M) : zF 164 Q [(0, (x : Int))] M := by
  obtain ⟨a, b, c, ha, hb, hc, ex⟩ : ∃ a b c : Nat, a < 256 ∧ b < 256 ∧ c < 256 ∧ x = a + 256 * (b + 256 * c) := ⟨x % 256, x / 256 % 256, x / 65536, by omega, by omega, by omega, by omega⟩
  have sh : ∀ (y k : Nat), y < 2147483648 → k < 32 → (Int32.ofInt (k : Int)).toUInt32 &&& Int32.toUInt32 31 = UInt32.ofNat k → zushr (y : Int) (k : Int) = ((y / 2 ^ k : Nat) : Int) := fun y k h1 h2 h3 => zushr_nat h1 h2 h3
  have an : ∀ (y m : Nat), y < 2147483648 → m < 2147483648 → zand (y : Int) (m : Int) = ((y &&& m : Nat) : Int) := fun y m h1 h2 => zand_nat h1 h2
  obtain ⟨qa1, qa2, qa3, qa4, qa5, qa6⟩ := bpD4 a ha
  obtain ⟨qb1, qb2, qb3, qb4, qb5, qb6⟩ := bpD4 b hb
  obtain ⟨qc1, qc2, qc3, qc4, qc5, qc6⟩ := bpD4 c hc
  -- step 1
  have y1 : zw ((x : Int) - zand (zushr (x : Int) 1) 1431655765) = ((bp1 a + 256 * (bp1 b + 256 * bp1 c) : Nat) : Int) := by
    have e1 := sh x 1 (by omega) (by omega) (by decide)
    rw [show ((1 : Nat) : Int) = 1 from rfl] at e1
    have e2 := an (x / 2 ^ 1) 1431655765 (by omega) (by omega)
    rw [show ((1431655765 : Nat) : Int) = 1431655765 from rfl] at e2
    rw [e1, e2]
    have e3 : x / 2 ^ 1 = (a / 2 + 128 * (b % 2)) + 256 * ((b / 2 + 128 * (c % 2)) + 256 * (c / 2)) := by omega
    have e4 := and3 (a := a / 2 + 128 * (b % 2)) (b := b / 2 + 128 * (c % 2)) (c := c / 2) (m := 85) (by omega) (by omega) (by omega) (by omega)
    rw [show 85 + 256 * (85 + 256 * (85 + 256 * 85)) = 1431655765 from rfl] at e4
    have d1 := bpD1 (b % 2) (by omega) a ha
    have d2 := bpD1 (c % 2) (by omega) b hb
    have d3 := bpD1 0 (by omega) c hc
    rw [e3, e4, d1.1, d2.1, ex]
    unfold bp1
    rw [zw_id (by omega)]
    omega
  have y2 : zw (zand ((bp1 a + 256 * (bp1 b + 256 * bp1 c) : Nat) : Int) 858993459 + zand (zushr ((bp1 a + 256 * (bp1 b + 256 * bp1 c) : Nat) : Int) 2) 858993459) = ((bp2 (bp1 a) + 256 * (bp2 (bp1 b) + 256 * bp2 (bp1 c)) : Nat) : Int) := by
    generalize bp1 a = a1 at *
    generalize bp1 b = b1 at *
    generalize bp1 c = c1 at *
    have e1 := sh (a1 + 256 * (b1 + 256 * c1)) 2 (by omega) (by omega) (by decide)
    rw [show ((2 : Nat) : Int) = 2 from rfl] at e1
    have e0 := an (a1 + 256 * (b1 + 256 * c1)) 858993459 (by omega) (by omega)
    have e2 := an ((a1 + 256 * (b1 + 256 * c1)) / 2 ^ 2) 858993459 (by omega) (by omega)
    rw [show ((858993459 : Nat) : Int) = 858993459 from rfl] at e0 e2
    rw [e1, e0, e2]
    have e3 : (a1 + 256 * (b1 + 256 * c1)) / 2 ^ 2 = (a1 / 4 + 64 * (b1 % 4)) + 256 * ((b1 / 4 + 64 * (c1 % 4)) + 256 * (c1 / 4)) := by omega
    have e4 := and3 (a := a1 / 4 + 64 * (b1 % 4)) (b := b1 / 4 + 64 * (c1 % 4)) (c := c1 / 4) (m := 51) (by omega) (by omega) (by omega) (by omega)
    have e5 := and3 (a := a1) (b := b1) (c := c1) (m := 51) qa5 qb5 qc5 (by omega)
    rw [show 51 + 256 * (51 + 256 * (51 + 256 * 51)) = 858993459 from rfl] at e4 e5
    have d1 := bpD2 (b1 % 4) (by omega) a1 qa5
    have d2 := bpD2 (c1 % 4) (by omega) b1 qb5
    rw [e3, e4, e5, d1, d2]
    unfold bp2 at qa2 qb2 qc2 ⊢
    rw [zw_id (by omega)]
    omega
  have y3 : zand (zw (((bp2 (bp1 a) + 256 * (bp2 (bp1 b) + 256 * bp2 (bp1 c)) : Nat) : Int) + zushr ((bp2 (bp1 a) + 256 * (bp2 (bp1 b) + 256 * bp2 (bp1 c)) : Nat) : Int) 4)) 252645135 = ((bct a 8 + 256 * (bct b 8 + 256 * bct c 8) : Nat) : Int) := by
    rw [← qa1, ← qb1, ← qc1]
    generalize bp2 (bp1 a) = a1 at *
    generalize bp2 (bp1 b) = b1 at *
    generalize bp2 (bp1 c) = c1 at *
    have e1 := sh (a1 + 256 * (b1 + 256 * c1)) 4 (by omega) (by omega) (by decide)
    rw [show ((4 : Nat) : Int) = 4 from rfl] at e1
    have e3 : (a1 + 256 * (b1 + 256 * c1)) / 2 ^ 4 = (a1 / 16 + 16 * (b1 % 16)) + 256 * ((b1 / 16 + 16 * (c1 % 16)) + 256 * (c1 / 16)) := by omega
    rw [e1, e3, zw_id (by omega)]
    have e2 := an ((a1 + a1 / 16 + 16 * (b1 % 16)) + 256 * ((b1 + b1 / 16 + 16 * (c1 % 16)) + 256 * (c1 + c1 / 16))) 252645135 (by omega) (by omega)
    rw [show ((252645135 : Nat) : Int) = 252645135 from rfl] at e2
    rw [show ((a1 + 256 * (b1 + 256 * c1) : Nat) : Int) + ((a1 / 16 + 16 * (b1 % 16) + 256 * (b1 / 16 + 16 * (c1 % 16) + 256 * (c1 / 16)) : Nat) : Int) = (((a1 + a1 / 16 + 16 * (b1 % 16)) + 256 * ((b1 + b1 / 16 + 16 * (c1 % 16)) + 256 * (c1 + c1 / 16)) : Nat) : Int) by omega, e2]
    have e4 := and3 (a := a1 + a1 / 16 + 16 * (b1 % 16)) (b := b1 + b1 / 16 + 16 * (c1 % 16)) (c := c1 + c1 / 16) (m := 15) (by omega) (by omega) (by omega) (by omega)
    rw [show 15 + 256 * (15 + 256 * (15 + 256 * 15)) = 252645135 from rfl] at e4
    rw [e4, bpD3 (b1 % 16) qb3 a1 qa2, bpD3 (c1 % 16) qc3 b1 qb2]
    rfl
  have hb24 : bct x 24 = bct a 8 + (bct b 8 + bct c 8) := by
    rw [show 24 = 8 + (8 + 8) from rfl, bct_split, bct_split, bct_mod x, bct_mod (x / 256), show x % 256 = a by omega, show x / 256 % 256 = b by omega, show x / 256 / 256 = c by omega]
  refine s164_0 ?_
  rw [y1, y2, y3]
  generalize bct a 8 = a1 at *
  generalize bct b 8 = b1 at *
  generalize bct c 8 = c1 at *
  have e1 := sh (a1 + 256 * (b1 + 256 * c1)) 8 (by omega) (by omega) (by decide)
  rw [show ((8 : Nat) : Int) = 8 from rfl] at e1
  rw [e1, zw_id (x := ((a1 + 256 * (b1 + 256 * c1) : Nat) : Int) + (((a1 + 256 * (b1 + 256 * c1)) / 2 ^ 8 : Nat) : Int)) (by omega)]
  rw [show ((a1 + 256 * (b1 + 256 * c1) : Nat) : Int) + (((a1 + 256 * (b1 + 256 * c1)) / 2 ^ 8 : Nat) : Int) = ((a1 + b1 + 256 * (b1 + c1 + 256 * c1) : Nat) : Int) by omega]
  have e2 := sh (a1 + b1 + 256 * (b1 + c1 + 256 * c1)) 16 (by omega) (by omega) (by decide)
  rw [show ((16 : Nat) : Int) = 16 from rfl] at e2
  rw [e2, zw_id (by omega)]
  rw [show ((a1 + b1 + 256 * (b1 + c1 + 256 * c1) : Nat) : Int) + (((a1 + b1 + 256 * (b1 + c1 + 256 * c1)) / 2 ^ 16 : Nat) : Int) = ((a1 + b1 + c1 + 256 * (b1 + c1 + 256 * c1) : Nat) : Int) by omega]
  have e3 := an (a1 + b1 + c1 + 256 * (b1 + c1 + 256 * c1)) 63 (by omega) (by omega)
  rw [show ((63 : Nat) : Int) = 63 from rfl] at e3
  rw [e3, show (63 : Nat) = 2 ^ 6 - 1 from rfl, Nat.and_two_pow_sub_one_eq_mod, show (a1 + b1 + c1 + 256 * (b1 + c1 + 256 * c1)) % 2 ^ 6 = a1 + (b1 + c1) by omega]
  rw [hb24] at hQ
  exact hQ
end CT
