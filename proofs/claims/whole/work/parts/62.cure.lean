/-! CURE, pure: candidates, their sets as numbers, which of them are sound, the best -/
theorem bct_sum {x : Nat} : ∀ n, n ≤ 32 → ((bct x n : Nat) : Int) = zsum (fun i => if tb (x : Int) i = true then 1 else 0) n
  | 0, _ => rfl
  | n + 1, h => by
    have ih := bct_sum (x := x) n (by omega)
    show ((bct x n + (if x.testBit n then 1 else 0) : Nat) : Int) = zsum (fun i => if tb (x : Int) i = true then 1 else 0) n + (if tb (x : Int) (n : Int) = true then 1 else 0)
    rw [← ih, tb_nat (by omega)]
    split <;> omega
def pcd (N : zM) (S t : Int) : Prop := ptie N S t ∧ (¬ pli N S (N 6 t) ∨ ¬ pli N S (N 7 t))
noncomputable def pcl (N : zM) (S : Int) : Nat → List Int
  | 0 => []
  | t + 1 => @ite _ (pcd N S t) (Classical.propDecidable _) (pcl N S t ++ [(t : Int)]) (pcl N S t)
theorem pcl_s {N : zM} {S : Int} (t : Nat) : pcl N S (t + 1) = @ite _ (pcd N S t) (Classical.propDecidable _) (pcl N S t ++ [(t : Int)]) (pcl N S t) := rfl
theorem pcl_in {N : zM} {S : Int} : ∀ n x, x ∈ pcl N S n → (0 ≤ x ∧ x < (n : Int)) ∧ pcd N S x
  | 0, x, h => by simp [pcl] at h
  | n + 1, x, h => by
    rw [pcl_s] at h
    by_cases q : pcd N S n
    · rw [if_pos q] at h
      rcases List.mem_append.mp h with y | y
      · have := pcl_in n x y; exact ⟨by omega, this.2⟩
      · rw [List.mem_singleton] at y; rw [y]; exact ⟨by omega, q⟩
    · rw [if_neg q] at h
      have := pcl_in n x h; exact ⟨by omega, this.2⟩
theorem pcl_up {N : zM} {S : Int} : ∀ n, (pcl N S n).Pairwise (· < ·)
  | 0 => List.Pairwise.nil
  | n + 1 => by
    rw [pcl_s]
    by_cases q : pcd N S n
    · rw [if_pos q, List.pairwise_append]
      refine ⟨pcl_up n, List.pairwise_singleton _ _, fun a ha b hb => ?_⟩
      rw [List.mem_singleton] at hb
      have := (pcl_in n a ha).1
      omega
    · rw [if_neg q]; exact pcl_up n
theorem pcl_len {N : zM} {S : Int} : ∀ n, (pcl N S n).length ≤ n
  | 0 => by simp [pcl]
  | n + 1 => by
    have := pcl_len (N := N) (S := S) n
    rw [pcl_s]
    split
    · rw [List.length_append, List.length_singleton]; omega
    · omega
/-- the lines of a set -/
def pln : List Int → Nat → Int
  | [], _ => 0
  | c :: C, s => zor (if s % 2 = 1 then zshl 1 c else 0) (pln C (s / 2))
theorem pln_r : ∀ (C : List Int) (s : Nat), r32 (pln C s)
  | [], _ => by unfold pln r32; omega
  | _ :: _, _ => zor_r _ _
theorem tbs_0 (i : Int) : ¬ tbs 0 i := fun h => by have := h.2; rw [tb_0] at this; cases this
theorem pln_b : ∀ {C : List Int} {s : Nat}, (∀ x, x ∈ C → 0 ≤ x ∧ x < 24) → ∀ i, tbs (pln C s) i ↔ ∃ k : Nat, ∃ h : k < C.length, C[k] = i ∧ s.testBit k = true
  | [], s, _, i => ⟨fun h => absurd h (tbs_0 i), fun ⟨k, h, _⟩ => by simp at h⟩
  | c :: C, s, hC, i => by
    have hc := hC c List.mem_cons_self
    show tbs (zor (if s % 2 = 1 then zshl 1 c else 0) (pln C (s / 2))) i ↔ _
    rw [tbs_or, pln_b (fun x hx => hC x (List.mem_cons_of_mem _ hx)) i]
    have h0 : tbs (if s % 2 = 1 then zshl 1 c else 0) i ↔ c = i ∧ s.testBit 0 = true := by
      rw [Nat.testBit_zero]
      by_cases q : s % 2 = 1
      · rw [if_pos q, tbs_1 (by omega)]; simp [q]; exact ⟨fun z => z.symm, fun z => z.symm⟩
      · rw [if_neg q]; simp [q]; exact tbs_0 i
    rw [h0]
    constructor
    · rintro (⟨a, b⟩ | ⟨k, h, a, b⟩)
      · exact ⟨0, by simp, a, b⟩
      · exact ⟨k + 1, by simp; omega, a, by rw [Nat.testBit_succ]; exact b⟩
    · rintro ⟨k, h, a, b⟩
      match k, h, a, b with
      | 0, h, a, b => exact Or.inl ⟨a, b⟩
      | k + 1, h, a, b =>
        rw [Nat.testBit_succ] at b
        exact Or.inr ⟨k, by simp at h; omega, a, b⟩
theorem pln_0 : ∀ (C : List Int), pln C 0 = 0
  | [] => rfl
  | c :: C => by
    show zor (if 0 % 2 = 1 then zshl 1 c else 0) (pln C (0 / 2)) = 0
    rw [Nat.zero_div, pln_0 C, if_neg (by decide)]
    decide
theorem top_bit : ∀ (n s s' : Nat), s < s' → s' < 2 ^ n → ∃ k : Nat, k < n ∧ s.testBit k = false ∧ s'.testBit k = true ∧ ∀ j, k < j → s.testBit j = s'.testBit j
  | 0, s, s', h, h' => by simp at h'; omega
  | n + 1, s, s', h, h' => by
    by_cases q : s / 2 < s' / 2
    · obtain ⟨k, k0, k1, k2, k3⟩ := top_bit n (s / 2) (s' / 2) q (by rw [Nat.pow_succ] at h'; omega)
      refine ⟨k + 1, by omega, by rw [Nat.testBit_succ]; exact k1, by rw [Nat.testBit_succ]; exact k2, fun j hj => ?_⟩
      obtain ⟨j', rfl⟩ : ∃ j', j = j' + 1 := ⟨j - 1, by omega⟩
      rw [Nat.testBit_succ, Nat.testBit_succ]
      exact k3 j' (by omega)
    · refine ⟨0, by omega, by rw [Nat.testBit_zero]; simp; omega, by rw [Nat.testBit_zero]; simp; omega, fun j hj => ?_⟩
      obtain ⟨j', rfl⟩ : ∃ j', j = j' + 1 := ⟨j - 1, by omega⟩
      rw [Nat.testBit_succ, Nat.testBit_succ, show s / 2 = s' / 2 by omega]
theorem lt_tb {a b n k : Nat} (ha : a < 2 ^ n) (h1 : a.testBit k = false) (h2 : b.testBit k = true) (h3 : ∀ j, k < j → a.testBit j = b.testBit j) : a < b := by
  rcases Nat.lt_trichotomy a b with q | q | q
  · exact q
  · rw [q, h2] at h1; cases h1
  · exfalso
    obtain ⟨k', k0, k1, k2, k3⟩ := top_bit n b a q ha
    rcases Nat.lt_trichotomy k' k with y | y | y
    · have := k3 k y; rw [h1, h2] at this; cases this
    · rw [y, h2] at k1; cases k1
    · have := h3 k' y; rw [k1, k2] at this; cases this
/-- masks of 24 bits -/
theorem tbs_nn {x : Int} (hr : r32 x) (h : ∀ i, tbs x i → i < 24) : 0 ≤ x ∧ x < 16777216 := by
  have e : x = ((BitVec.ofInt 32 x).toNat % 16777216 : Nat) := by
    refine tbs_ext hr (by unfold r32; omega) (fun i => ?_)
    constructor
    · intro z
      have z2 := h i z
      obtain ⟨j, rfl⟩ : ∃ j : Nat, i = j := ⟨i.toNat, by have := z.1; omega⟩
      refine ⟨z.1, ?_⟩
      rw [tb_nat (by have := z.1; omega), show (16777216 : Nat) = 2 ^ 24 from rfl, Nat.testBit_mod_two_pow]
      have z3 := z.2
      rw [tb_bv] at z3
      have : j < 24 := by omega
      simp only [this, decide_true, Bool.true_and]
      exact z3
    · intro z
      obtain ⟨j, rfl⟩ : ∃ j : Nat, i = j := ⟨i.toNat, by have := z.1; omega⟩
      have z3 := z.2
      rw [tb_nat (by have := z.1; omega), show (16777216 : Nat) = 2 ^ 24 from rfl, Nat.testBit_mod_two_pow] at z3
      refine ⟨z.1, ?_⟩
      rw [tb_bv]
      rw [Bool.and_eq_true] at z3
      exact z3.2
  rw [e]; omega
theorem tbs_lt {x y : Int} (hx : 0 ≤ x ∧ x < 16777216) (hy : 0 ≤ y ∧ y < 16777216) {i : Int} (h1 : ¬ tbs x i) (h2 : tbs y i) (h3 : ∀ j, i < j → (tbs x j ↔ tbs y j)) : x < y := by
  obtain ⟨a, rfl⟩ : ∃ a : Nat, x = a := ⟨x.toNat, by omega⟩
  obtain ⟨b, rfl⟩ : ∃ b : Nat, y = b := ⟨y.toNat, by omega⟩
  have hi := h2.1
  obtain ⟨k, rfl⟩ : ∃ k : Nat, i = k := ⟨i.toNat, by omega⟩
  have := lt_tb (a := a) (b := b) (k := k) (n := 24) (by omega) (by
    have : ¬ a.testBit k = true := fun z => h1 ⟨hi, by rw [tb_nat (by omega)]; exact z⟩
    simpa using this) (by have := h2.2; rw [tb_nat (by omega)] at this; exact this) (fun j hj => by
    by_cases q : j < 32
    · have := h3 j (by omega)
      unfold tbs at this
      rw [tb_nat q, tb_nat q] at this
      have hj' : 0 ≤ (j : Int) ∧ (j : Int) < 32 := by omega
      simp only [hj', true_and] at this
      exact Bool.eq_iff_iff.mpr (by simpa using this)
    · rw [Nat.testBit_lt_two_pow (Nat.lt_of_lt_of_le (show a < 2 ^ 24 by omega) (Nat.pow_le_pow_right (by omega) (by omega))), Nat.testBit_lt_two_pow (Nat.lt_of_lt_of_le (show b < 2 ^ 24 by omega) (Nat.pow_le_pow_right (by omega) (by omega)))])
  omega
theorem pln_lt {C : List Int} {s s' : Nat} (hC : ∀ x, x ∈ C → 0 ≤ x ∧ x < 24) (hu : C.Pairwise (· < ·)) (h : s < s') (h' : s' < 2 ^ C.length) : pln C s < pln C s' := by
  obtain ⟨k, k0, k1, k2, k3⟩ := top_bit C.length s s' h h'
  have up : ∀ i j : Nat, (hi : i < C.length) → (hj : j < C.length) → i < j → C[i] < C[j] := fun i j hi hj q => (List.pairwise_iff_getElem.mp hu) i j hi hj q
  have nn : ∀ s, 0 ≤ pln C s ∧ pln C s < 16777216 := fun s => tbs_nn (pln_r C s) (fun i hi => by
    obtain ⟨k, h, a, _⟩ := (pln_b hC i).mp hi
    have := hC _ (List.getElem_mem h)
    omega)
  refine tbs_lt (nn s) (nn s') (i := C[k]) (fun z => ?_) ((pln_b hC _).mpr ⟨k, k0, rfl, k2⟩) (fun j hj => ?_)
  · obtain ⟨k', h1, h2, h3⟩ := (pln_b hC _).mp z
    have : k' = k := by
      rcases Nat.lt_trichotomy k' k with q | q | q
      · have := up k' k h1 k0 q; omega
      · exact q
      · have := up k k' k0 h1 q; omega
    subst this
    rw [k1] at h3; cases h3
  · rw [pln_b hC, pln_b hC]
    constructor
    · rintro ⟨k', h1, h2, h3⟩
      have : k < k' := by
        rcases Nat.lt_trichotomy k' k with q | q | q
        · have := up k' k h1 k0 q; omega
        · subst q; omega
        · exact q
      exact ⟨k', h1, h2, by rw [← k3 k' this]; exact h3⟩
    · rintro ⟨k', h1, h2, h3⟩
      have : k < k' := by
        rcases Nat.lt_trichotomy k' k with q | q | q
        · have := up k' k h1 k0 q; omega
        · subst q; omega
        · exact q
      exact ⟨k', h1, h2, by rw [k3 k' this]; exact h3⟩
/-- sound sets -/
def psn (N : zM) (S : Int) (C : List Int) (s : Nat) : Prop := prad N (zor S (pln C s)) ∧ ∀ l, 0 ≤ l → l < 32 → pov N (zor S (pln C s)) l → pov N S l
theorem pov_mono {N : zM} {S S' : Int} (hW : pW N) (hs : ∀ l, tbs S l → tbs S' l) (hr : prad N S') {fl ne fl2 ne2 : Int → Int} (hX : pX N S fl ne) (hX2 : pX N S' fl2 ne2) : ∀ l, 0 ≤ l → pov N S l → pov N S' l := fun l l0 ⟨h1, h2⟩ => by
  have hm := hW.1
  obtain ⟨L, rt, by', de, be, k1, k2⟩ := pX_p hX
  obtain ⟨L', rt', by2, de', be', q1, q2⟩ := pX_p hX2
  have := (kF_mono k1 q1 (kT_mono hr hs k1 q1) k2 q2).2 l l0 (by omega)
  exact ⟨h1, by omega⟩
theorem psn_mono {N : zM} {S : Int} {C : List Int} {s s' : Nat} (hW : pW N) (hXX : pXX N) (hS : ∀ l, tbs S l → l < N 4 2) (hC : ∀ x, x ∈ C → 0 ≤ x ∧ x < N 4 2) (hb : ∀ k, s.testBit k = true → s'.testBit k = true) (h : psn N S C s') : psn N S C s := by
  have hm := hW.1
  have hC' : ∀ x, x ∈ C → 0 ≤ x ∧ x < 24 := fun x hx => by have := hC x hx; omega
  have sub : ∀ l, tbs (zor S (pln C s)) l → tbs (zor S (pln C s')) l := fun l hl => by
    rw [tbs_or] at hl ⊢
    rcases hl with q | q
    · exact Or.inl q
    · obtain ⟨k, h1, h2, h3⟩ := (pln_b hC' l).mp q
      exact Or.inr ((pln_b hC' l).mpr ⟨k, h1, h2, hb k h3⟩)
  have bnd : ∀ s l, tbs (zor S (pln C s)) l → l < N 4 2 := fun s l hl => by
    rcases tbs_or.mp hl with q | q
    · exact hS l q
    · obtain ⟨k, h1, h2, h3⟩ := (pln_b hC' l).mp q
      have := hC _ (List.getElem_mem h1)
      omega
  obtain ⟨fl, ne, hX⟩ := hXX _ (bnd s)
  obtain ⟨fl2, ne2, hX2⟩ := hXX _ (bnd s')
  exact ⟨kRad_mono h.1 sub, fun l l0 l1 hl => h.2 l l0 l1 (pov_mono hW sub h.1 hX hX2 l l0 hl)⟩
/-- the best of the sets below n -/
def kCu (N : zM) (S : Int) (C : List Int) (n : Nat) (x m w : Int) : Prop :=
  ∃ s : Nat, s < n ∧ psn N S C s ∧ x = pln C s ∧ m = (bct s 24 : Nat) ∧ w = plt N (zor S (pln C s)) ∧ ∀ s' : Nat, s' < n → psn N S C s' → plt N (zor S (pln C s')) < w ∨ (plt N (zor S (pln C s')) = w ∧ (m < (bct s' 24 : Nat) ∨ (m = (bct s' 24 : Nat) ∧ s ≤ s')))
theorem kCu_u {N : zM} {S : Int} {C : List Int} {n : Nat} {x m w x' m' w' : Int} (h : kCu N S C n x m w) (g : kCu N S C n x' m' w') : x = x' ∧ m = m' ∧ w = w' := by
  obtain ⟨s, h1, h2, h3, h4, h5, h6⟩ := h
  obtain ⟨s', g1, g2, g3, g4, g5, g6⟩ := g
  have a := h6 s' g1 g2
  have b := g6 s h1 h2
  have : s = s' := by omega
  subst this
  exact ⟨by rw [h3, g3], by rw [h4, g4], by rw [h5, g5]⟩
theorem kCu_no {N : zM} {S : Int} {C : List Int} {n : Nat} {x m w : Int} (h : kCu N S C n x m w) (hn : psn N S C n → plt N (zor S (pln C n)) < w ∨ (plt N (zor S (pln C n)) = w ∧ m ≤ (bct n 24 : Nat))) : kCu N S C (n + 1) x m w := by
  obtain ⟨s, h1, h2, h3, h4, h5, h6⟩ := h
  refine ⟨s, by omega, h2, h3, h4, h5, fun s' hs' hp => ?_⟩
  by_cases q : s' = n
  · subst q
    have := hn hp
    omega
  · exact h6 s' (by omega) hp
theorem kCu_up {N : zM} {S : Int} {C : List Int} {n : Nat} {x m w : Int} (h : kCu N S C n x m w) (hs : psn N S C n) (hn : w < plt N (zor S (pln C n)) ∨ (plt N (zor S (pln C n)) = w ∧ (bct n 24 : Nat) < m)) : kCu N S C (n + 1) (pln C n) (bct n 24 : Nat) (plt N (zor S (pln C n))) := by
  obtain ⟨s, h1, h2, h3, h4, h5, h6⟩ := h
  refine ⟨n, by omega, hs, rfl, rfl, rfl, fun s' hs' hp => ?_⟩
  by_cases q : s' = n
  · subst q; omega
  · have := h6 s' (by omega) hp
    omega
