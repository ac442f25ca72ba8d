/-! leaves of the reference: contracts, the goal behind the call as a hypothesis -/
theorem zw_id {x : Int} (h : -2147483648 ≤ x ∧ x < 2147483648) : zw x = x := by unfold zw; omega
theorem zW_id {x : Int} (h : -9223372036854775808 ≤ x ∧ x < 9223372036854775808) : zW x = x := by unfold zW; omega
/-- a sum over 0, 1, .. n - 1 -/
def zsum (f : Int → Int) : Nat → Int
  | 0 => 0
  | n + 1 => zsum f n + f n
theorem zsum_b {f : Int → Int} {b : Int} : ∀ n : Nat, (∀ i : Nat, i < n → 0 ≤ f i ∧ f i ≤ b) → 0 ≤ zsum f n ∧ zsum f n ≤ b * n
  | 0, _ => by simp [zsum]
  | n + 1, h => by
    have ih := zsum_b n (fun i hi => h i (by omega))
    have h1 := h n (by omega)
    unfold zsum
    rw [show ((n + 1 : Nat) : Int) = (n : Int) + 1 by omega, Int.mul_add, Int.mul_one]
    omega
theorem zsum_congr {f g : Int → Int} : ∀ n : Nat, (∀ i : Nat, i < n → f i = g i) → zsum f n = zsum g n
  | 0, _ => rfl
  | n + 1, h => by
    unfold zsum
    rw [zsum_congr n (fun i hi => h i (by omega)), h n (by omega)]
/-- x is the set of those i < 32 with p -/
def zmk (x : Int) (p : Int → Prop) : Prop := (-2147483648 ≤ x ∧ x < 2147483648) ∧ ∀ i : Int, 0 ≤ i → i < 32 → (tb x i = true ↔ p i)
theorem zmk_u {x y : Int} {p q : Int → Prop} (hx : zmk x p) (hy : zmk y q) (h : ∀ i : Int, 0 ≤ i → i < 32 → (p i ↔ q i)) : x = y := by
  refine tb_ext hx.1 hy.1 (fun i h0 h1 => ?_)
  have a := hx.2 i h0 h1
  have b := hy.2 i h0 h1
  have c := h i h0 h1
  rw [Bool.eq_iff_iff, a, b, c]
theorem zmk_0 : zmk 0 (fun _ => False) := ⟨by omega, fun i _ _ => by rw [tb_0]; simp⟩
theorem zmk_cg {x : Int} {p q : Int → Prop} (h : zmk x p) (e : ∀ i : Int, 0 ≤ i → i < 32 → (p i ↔ q i)) : zmk x q := ⟨h.1, fun i a b => (h.2 i a b).trans (e i a b)⟩
theorem zmk_or {x y : Int} {p q : Int → Prop} (hx : zmk x p) (hy : zmk y q) : zmk (zor x y) (fun i => p i ∨ q i) := ⟨zor_r _ _, fun i a b => by rw [tb_or, Bool.or_eq_true, hx.2 i a b, hy.2 i a b]⟩
theorem zmk_and {x y : Int} {p q : Int → Prop} (hx : zmk x p) (hy : zmk y q) : zmk (zand x y) (fun i => p i ∧ q i) := ⟨zand_r _ _, fun i a b => by rw [tb_and, Bool.and_eq_true, hx.2 i a b, hy.2 i a b]⟩
theorem zmk_not {x : Int} {p : Int → Prop} (hx : zmk x p) : zmk (zxor x (-1)) (fun i => ¬ p i) := ⟨zxor_r _ _, fun i a b => by
  rw [tb_xor, tb_m1 a b]
  have := hx.2 i a b
  cases h : tb x i
  · rw [h] at this; simp at this; simp [this]
  · rw [h] at this; simp at this; simp [this]⟩
theorem zmk_1 {k : Int} (h0 : 0 ≤ k) (h : k < 32) : zmk (zshl 1 k) (fun i => i = k) := ⟨zshl_r _ _, fun i a b => by rw [tb_shl h0 h a b]; simp⟩
theorem zor_0 {x : Int} (h : -2147483648 ≤ x ∧ x < 2147483648) : zor x 0 = x := tb_ext (zor_r _ _) h (fun i _ _ => by rw [tb_or, tb_0]; simp)
section ML
variable {Q : Int → zM → Prop} {M : zM}
theorem c98 {a1 a2 a3 : Int} (h : Q (if a2 ≤ a1 ∧ a1 ≤ a3 then 1 else 0) M) : zF 98 Q [(0, a1), (0, a2), (0, a3)] M := by
  refine s98_0 ⟨fun q => ?_, fun q => ⟨fun q2 => ?_, fun q2 => ?_⟩⟩
  · rwa [if_neg (by omega)] at h
  · rwa [if_neg (by omega)] at h
  · rwa [if_pos (by omega)] at h
/-- one more refusal of a kind -/
theorem c99 {a1 : Int} (ha : -5 ≤ a1 ∧ a1 ≤ -2) (h : Q a1 (zset M 124 (-2 - a1) (zw (M 124 (-2 - a1) + 1)))) : zF 99 Q [(2, 123), (0, a1)] M := by
  refine s99_0 ?_
  rw [zw_id (x := -2 - a1) (by omega)]
  exact ⟨by omega, h⟩
theorem c101 (h : Q (M 123 2) (zset M 123 2 0)) : zF 101 Q [(2, 123)] M := s101_0 h
theorem c102 {a1 : Int} (h0 : 0 ≤ a1) (ht : M 123 2 ≤ 200) (h : Q (if a1 < M 123 2 then M 125 a1 else -1) M) : zF 102 Q [(2, 123), (0, a1)] M := by
  refine s102_0 ⟨fun q => ?_, fun q => ⟨by omega, ?_⟩⟩
  · rwa [if_neg q] at h
  · rwa [if_pos q] at h
theorem c103 {a1 : Int} (h0 : 0 ≤ a1) (ht : M 123 2 ≤ 200) (h : Q (if a1 < M 123 2 ∧ 48 ≤ M 125 a1 ∧ M 125 a1 ≤ 57 then 1 else 0) M) : zF 103 Q [(2, 123), (0, a1)] M := by
  refine s103_0 (c102 h0 ht (c98 ⟨?_, ?_⟩))
  · split <;> omega
  · by_cases q : a1 < M 123 2
    · rw [if_pos q]
      by_cases q2 : 48 ≤ M 125 a1 ∧ M 125 a1 ≤ 57
      · rw [if_pos q2]; rwa [if_pos ⟨q, q2⟩] at h
      · rw [if_neg q2]; rwa [if_neg (fun z => q2 z.2)] at h
    · rw [if_neg q, if_neg (by omega)]; rwa [if_neg (fun z => q z.1)] at h
/-- the other end of a line -/
def zoth (M : zM) (l v : Int) : Int := if M 128 l = v then M 129 l else if M 129 l = v then M 128 l else -1
theorem c117 {a1 a2 : Int} (ha : 0 ≤ a1 ∧ a1 < 24) (h : Q (zoth M a1 a2) M) : zF 117 Q [(2, 123), (0, a1), (0, a2)] M := by
  unfold zoth at h
  refine s117_0 ⟨ha, fun q => ⟨fun q2 => ?_, fun q2 => ?_⟩, fun q => ?_⟩
  · rwa [if_neg q, if_neg q2] at h
  · rwa [if_neg q, if_pos q2] at h
  · rwa [if_pos q] at h
theorem c123 {a1 : Int} (hl : 0 ≤ M 123 3 ∧ M 123 3 ≤ 24) (h : Q (if 0 ≤ a1 ∧ a1 < M 123 3 then 1 else 0) M) : zF 123 Q [(2, 123), (0, a1)] M := by
  refine s123_0 ?_
  rw [zw_id (by omega)]
  refine c98 ⟨by split <;> omega, ?_⟩
  have e : (0 ≤ a1 ∧ a1 ≤ M 123 3 - 1) ↔ (0 ≤ a1 ∧ a1 < M 123 3) := by omega
  simp only [e]
  exact h
theorem c124 {a1 : Int} (h : Q (if (0 ≤ a1 ∧ a1 < 16) ∧ ¬ M 126 a1 = 0 then 1 else 0) M) : zF 124 Q [(2, 123), (0, a1)] M := by
  refine s124_0 (c98 ?_)
  by_cases q : 0 ≤ a1 ∧ a1 ≤ 15
  · rw [if_pos q]
    refine ⟨fun z => by omega, fun _ => ⟨by omega, fun z => ?_, fun z => ?_⟩⟩
    · rwa [if_neg (fun w => w.2 z)] at h
    · rwa [if_pos ⟨by omega, z⟩] at h
  · rw [if_neg q]
    refine ⟨fun _ => ?_, fun z => absurd rfl z⟩
    rwa [if_neg (by omega)] at h
theorem c125 {a1 : Int} (hl : 0 ≤ M 123 3 ∧ M 123 3 ≤ 24) (h : Q (if (0 ≤ a1 ∧ a1 < M 123 3) ∧ M 132 a1 = 0 then 1 else 0) M) : zF 125 Q [(2, 123), (0, a1)] M := by
  refine s125_0 (c123 hl ?_)
  by_cases q : 0 ≤ a1 ∧ a1 < M 123 3
  · rw [if_pos q]
    refine ⟨fun z => by omega, fun _ => ⟨by omega, fun z => ?_, fun z => ?_⟩⟩
    · rwa [if_neg (fun w => z w.2)] at h
    · rwa [if_pos ⟨q, z⟩] at h
  · rw [if_neg q]
    refine ⟨fun _ => ?_, fun z => absurd rfl z⟩
    rwa [if_neg (fun w => q w.1)] at h
theorem c137 {a1 : Int} (ha : 0 ≤ a1 ∧ a1 < 16) (h : Q (if M 126 a1 = 1 then 16 else a1) M) : zF 137 Q [(2, 123), (0, a1)] M := by
  refine s137_0 ⟨ha, fun q => ?_, fun q => ?_⟩
  · rwa [if_neg q] at h
  · rwa [if_pos q] at h
/-- which lines are over -/
theorem c121 (hl : 0 ≤ M 123 3 ∧ M 123 3 ≤ 24) (h : ∀ r, zmk r (fun l => l < M 123 3 ∧ M 131 l < M 147 l) → Q r M) : zF 121 Q [(2, 123)] M := by
  have key : ∀ (n : Nat) (v1 v2 : Int), 0 ≤ v2 → v2 + n = M 123 3 → zmk v1 (fun l => l < v2 ∧ M 131 l < M 147 l) → zS 121 Q 4 [(2, 123), (0, v1), (0, v2)] [] M := by
    intro n
    induction n with
    | zero =>
      intro v1 v2 h0 hn hv
      refine s121_4 ⟨fun q => h v1 ?_, fun q => absurd q (by omega)⟩
      rw [show M 123 3 = v2 by omega]; exact hv
    | succ n ih =>
      intro v1 v2 h0 hn hv
      refine s121_4 ⟨fun q => absurd q (by omega), fun q => ⟨by omega, fun q2 => ?_, fun q2 => ?_⟩⟩
      · rw [zw_id (by omega), zor_0 hv.1]
        refine ih v1 (v2 + 1) (by omega) (by omega) (zmk_cg hv (fun i _ _ => ⟨fun z => ⟨by omega, z.2⟩, fun z => ⟨?_, z.2⟩⟩))
        by_cases e : i = v2
        · subst e; exact absurd z.2 q2
        · omega
      · rw [zw_id (by omega)]
        refine ih _ (v2 + 1) (by omega) (by omega) (zmk_cg (zmk_or hv (zmk_1 h0 (by omega))) (fun i _ _ => ⟨fun z => ?_, fun z => ?_⟩))
        · rcases z with z | z
          · exact ⟨by omega, z.2⟩
          · subst z; exact ⟨by omega, q2⟩
        · by_cases e : i = v2
          · exact Or.inr e
          · exact Or.inl ⟨by omega, z.2⟩
  exact s121_0 (key (M 123 3).toNat 0 0 (by omega) (by omega) (zmk_cg zmk_0 (fun i _ _ => ⟨fun z => z.elim, fun z => by omega⟩)))
/-- which lines are closed -/
theorem c147 (hl : 0 ≤ M 123 3 ∧ M 123 3 ≤ 24) (h : ∀ r, zmk r (fun l => l < M 123 3 ∧ M 132 l = 1) → Q r M) : zF 147 Q [(2, 123)] M := by
  have key : ∀ (n : Nat) (v1 v2 : Int), 0 ≤ v2 → v2 + n = M 123 3 → zmk v1 (fun l => l < v2 ∧ M 132 l = 1) → zS 147 Q 4 [(2, 123), (0, v1), (0, v2)] [] M := by
    intro n
    induction n with
    | zero =>
      intro v1 v2 h0 hn hv
      refine s147_4 ⟨fun q => h v1 ?_, fun q => absurd q (by omega)⟩
      rw [show M 123 3 = v2 by omega]; exact hv
    | succ n ih =>
      intro v1 v2 h0 hn hv
      refine s147_4 ⟨fun q => absurd q (by omega), fun q => ⟨by omega, fun q2 => ?_, fun q2 => ?_⟩⟩
      · rw [zw_id (by omega), zor_0 hv.1]
        refine ih v1 (v2 + 1) (by omega) (by omega) (zmk_cg hv (fun i _ _ => ⟨fun z => ⟨by omega, z.2⟩, fun z => ⟨?_, z.2⟩⟩))
        by_cases e : i = v2
        · subst e; exact absurd z.2 q2
        · omega
      · rw [zw_id (by omega)]
        refine ih _ (v2 + 1) (by omega) (by omega) (zmk_cg (zmk_or hv (zmk_1 h0 (by omega))) (fun i _ _ => ⟨fun z => ?_, fun z => ?_⟩))
        · rcases z with z | z
          · exact ⟨by omega, z.2⟩
          · subst z; exact ⟨by omega, q2⟩
        · by_cases e : i = v2
          · exact Or.inr e
          · exact Or.inl ⟨by omega, z.2⟩
  exact s147_0 (key (M 123 3).toNat 0 0 (by omega) (by omega) (zmk_cg zmk_0 (fun i _ _ => ⟨fun z => z.elim, fun z => by omega⟩)))
/-- how many lines are so -/
theorem c135 {a1 : Int} (hl : 0 ≤ M 123 3 ∧ M 123 3 ≤ 24) (h : Q (zsum (fun l => if M 132 l = a1 then 1 else 0) (M 123 3).toNat) M) : zF 135 Q [(2, 123), (0, a1)] M := by
  have hb : ∀ n : Nat, 0 ≤ zsum (fun l => if M 132 l = a1 then 1 else 0) n ∧ zsum (fun l => if M 132 l = a1 then 1 else 0) n ≤ 1 * n := fun n => zsum_b n (fun i _ => by split <;> omega)
  have key : ∀ (n k : Nat), ((k : Nat) : Int) + n = M 123 3 → zS 135 Q 4 [(2, 123), (0, a1), (0, zsum (fun l => if M 132 l = a1 then 1 else 0) k), (0, (k : Int))] [] M := by
    intro n
    induction n with
    | zero =>
      intro k hk
      refine s135_4 ⟨fun q => ?_, fun q => absurd q (by omega)⟩
      rwa [show k = (M 123 3).toNat by omega]
    | succ n ih =>
      intro k hk
      have := hb k
      have e := ih (k + 1) (by omega)
      unfold zsum at e
      refine s135_4 ⟨fun q => absurd q (by omega), fun q => ⟨by omega, fun q2 => ?_, fun q2 => ?_⟩⟩
      · rw [zw_id (x := (k : Int) + 1) (by omega), zw_id (by omega)]
        rwa [if_neg q2] at e
      · rw [zw_id (x := (k : Int) + 1) (by omega), zw_id (by omega)]
        rwa [if_pos q2] at e
  exact s135_0 (key (M 123 3).toNat 0 (by omega))
/-- the loads of those that are lit -/
theorem c122 (hd : ∀ v, 0 ≤ v → v < 16 → 0 ≤ M 127 v ∧ M 127 v ≤ 99) (h : Q (zsum (fun v => if M 126 v = 2 ∧ ¬ M 142 v = -1 then M 127 v else 0) 16) M) : zF 122 Q [(2, 123)] M := by
  have hb : ∀ n : Nat, n ≤ 16 → 0 ≤ zsum (fun v => if M 126 v = 2 ∧ ¬ M 142 v = -1 then M 127 v else 0) n ∧ zsum (fun v => if M 126 v = 2 ∧ ¬ M 142 v = -1 then M 127 v else 0) n ≤ 99 * n := fun n hn => zsum_b n (fun i hi => by
    have := hd i (by omega) (by omega)
    split <;> omega)
  have key : ∀ (n k : Nat), k + n = 16 → zS 122 Q 4 [(2, 123), (0, zsum (fun v => if M 126 v = 2 ∧ ¬ M 142 v = -1 then M 127 v else 0) k), (0, (k : Int))] [] M := by
    intro n
    induction n with
    | zero =>
      intro k hk
      refine s122_4 ⟨fun q => ?_, fun q => absurd q (by omega)⟩
      rwa [show k = 16 by omega]
    | succ n ih =>
      intro k hk
      have h1 := hb k (by omega)
      have h2 := hd k (by omega) (by omega)
      have e := ih (k + 1) (by omega)
      unfold zsum at e
      refine s122_4 ⟨fun q => absurd q (by omega), fun q => ⟨by omega, fun q2 => ?_, fun q2 => ⟨fun q3 => ?_, fun q3 => ?_⟩⟩⟩
      · rw [zw_id (x := (k : Int) + 1) (by omega), zw_id (by omega)]
        rwa [if_neg (fun z => q2 z.1)] at e
      · rw [zw_id (x := (k : Int) + 1) (by omega), zw_id (by omega)]
        rwa [if_neg (fun z => z.2 q3)] at e
      · rw [zw_id (x := (k : Int) + 1) (by omega), zw_id (by omega)]
        rwa [if_pos ⟨q2, q3⟩] at e
  exact s122_0 (key 16 0 rfl)
end ML
