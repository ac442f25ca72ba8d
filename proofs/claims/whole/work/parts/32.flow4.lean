/-! the class: weigh; sums over a row of places -/
section FL4
variable {Q : Int → zM → Prop} {M : zM} {f : Int}
theorem c11 (kf : zKT f = (2, 0)) (hW : zWC M) (hx : ∀ l, 0 ≤ l → l < 24 → 0 ≤ M (f + 5) l ∧ M (f + 5) l ≤ 1584) (hQ : ∀ M', (∀ a, a ≠ f → M' a = M a) → (∀ j, j ≠ 3 → j ≠ 5 → M' f j = M f j) → M' f 5 = zsum (fun l => M 8 l * M (f + 5) l * M (f + 5) l) (M 4 2).toNat → zmk (M' f 3) (fun l => l < M 4 2 ∧ M 9 l < M (f + 5) l) → Q 0 M') : zF 11 Q [(2, f), (2, 4)] M := by
  have hf := zin_0 kf
  have hm := hW.1
  have hterm : ∀ l, 0 ≤ l → l < M 4 2 → 0 ≤ M 8 l * M (f + 5) l * M (f + 5) l ∧ M 8 l * M (f + 5) l * M (f + 5) l ≤ 248396544 := fun l h0 h1 => by
    have hr := (hW.2.2.2.2.1 l h0 h1).2.1
    have hy := hx l h0 (by omega)
    have h1 : 0 ≤ M 8 l * M (f + 5) l := Int.mul_nonneg (by omega) hy.1
    have h2 : M 8 l * M (f + 5) l ≤ 99 * 1584 := Int.mul_le_mul hr.2 hy.2 hy.1 (by omega)
    have h3 : 0 ≤ M 8 l * M (f + 5) l * M (f + 5) l := Int.mul_nonneg h1 hy.1
    have h4 : M 8 l * M (f + 5) l * M (f + 5) l ≤ 99 * 1584 * 1584 := Int.mul_le_mul h2 hy.2 hy.1 (by omega)
    omega
  have hsb : ∀ t : Nat, t ≤ M 4 2 → 0 ≤ zsum (fun l => M 8 l * M (f + 5) l * M (f + 5) l) t ∧ zsum (fun l => M 8 l * M (f + 5) l * M (f + 5) l) t ≤ 248396544 * t := fun t ht => zsum_b t (fun i hi => hterm i (by omega) (by omega))
  have key : ∀ (n k : Nat) (M' : zM), (k : Int) + n = M 4 2 → (∀ a, a ≠ f → M' a = M a) → (∀ j, j ≠ 3 → j ≠ 5 → M' f j = M f j) → M' f 5 = zsum (fun l => M 8 l * M (f + 5) l * M (f + 5) l) k → zmk (M' f 3) (fun l => l < k ∧ M 9 l < M (f + 5) l) → zS 11 Q 12 [(2, f), (2, 4), (0, (k : Int))] [] M' := by
    intro n
    induction n with
    | zero =>
      intro k M' hk h1 h2 h3 h4
      refine s11_12 kf ⟨fun _ => hQ M' h1 h2 ?_ ?_, fun q => ?_⟩
      · rw [h3, show k = (M 4 2).toNat by omega]
      · rw [show M 4 2 = (k : Int) by omega]; exact h4
      · rw [h1 4 (by omega)] at q; omega
    | succ n ih =>
      intro k M' hk h1 h2 h3 h4
      have hl := hW.2.2.2.2.1 k (by omega) (by omega)
      have ht := hterm k (by omega) (by omega)
      have hs := hsb k (by omega)
      have h15 := h1 (f + 5) (by omega)
      have h18 := h1 8 (by omega)
      have h19 := h1 9 (by omega)
      refine s11_12 kf ⟨fun q => ?_, fun _ => c12 kf (by omega) (by rw [h18]; exact hl.2.1) (by rw [h15]; exact hx k (by omega) (by omega)) ⟨by omega, fun q => ?_, fun q => ?_⟩⟩
      · rw [h1 4 (by omega)] at q; omega
      · rw [h19, h15] at q
        rw [zw_id (x := (k : Int) + 1) (by omega), h18, h15, h3, zW_id (by omega)]
        refine ih (k + 1) _ (by omega) (fun a ha => by rw [zrow_o _ ha]; exact h1 a ha) (fun j a b => by rw [zrow_s, fset_o _ b]; exact h2 j a b) (by rw [zrow_s, fset_s]; rfl) ?_
        rw [zrow_s, fset_o _ (by decide)]
        refine zmk_cg h4 (fun i _ _ => ⟨fun z => ⟨by omega, z.2⟩, fun z => ⟨?_, z.2⟩⟩)
        by_cases e : i = k
        · subst e; exact absurd z.2 q
        · omega
      · rw [h19, h15] at q
        rw [zw_id (x := (k : Int) + 1) (by omega), h18, h15, h3, zW_id (by omega)]
        refine ih (k + 1) _ (by omega) (fun a ha => by rw [zrow_o _ ha, zrow_o _ ha]; exact h1 a ha) (fun j a b => by rw [zrow_s, fset_o _ a, zrow_s, fset_o _ b]; exact h2 j a b) (by rw [zrow_s, fset_o _ (by decide), zrow_s, fset_s]; rfl) ?_
        rw [zrow_s, fset_s]
        refine zmk_cg (zmk_or h4 (zmk_1 (by omega) (by omega))) (fun i _ _ => ⟨fun z => ?_, fun z => ?_⟩)
        · rcases z with z | z
          · exact ⟨by omega, z.2⟩
          · subst z; exact ⟨by omega, q⟩
        · by_cases e : i = k
          · exact Or.inr e
          · exact Or.inl ⟨by omega, z.2⟩
  refine s11_0 kf (key (M 4 2).toNat 0 _ (by omega) (fun a ha => by rw [zrow_o _ ha, zrow_o _ ha]) (fun j a b => by rw [zrow_s, fset_o _ a, zrow_s, fset_o _ b]) (by rw [zrow_s, fset_o _ (by decide), zrow_s, fset_s]; rfl) ?_)
  rw [zrow_s, fset_s]
  exact zmk_cg zmk_0 (fun i _ _ => ⟨fun z => z.elim, fun z => by omega⟩)
end FL4
/-- whether v stands among the first n of a row -/
def zmem (qu : Int → Int) : Nat → Int → Bool
  | 0, _ => false
  | n + 1, v => zmem qu n v || decide (qu n = v)
theorem zmem_iff (qu : Int → Int) : ∀ (n : Nat) (v : Int), zmem qu n v = true ↔ ∃ j : Int, 0 ≤ j ∧ j < n ∧ qu j = v
  | 0, v => by
    constructor
    · intro h; simp [zmem] at h
    · rintro ⟨j, a, b, _⟩; omega
  | n + 1, v => by
    unfold zmem
    rw [Bool.or_eq_true, zmem_iff qu n v, decide_eq_true_eq]
    constructor
    · rintro (⟨j, a, b, c⟩ | h)
      · exact ⟨j, a, by omega, c⟩
      · exact ⟨n, by omega, by omega, h⟩
    · rintro ⟨j, a, b, c⟩
      by_cases e : j = n
      · exact Or.inr (by rw [← e]; exact c)
      · exact Or.inl ⟨j, a, by omega, c⟩
theorem zsum_enum {qu g : Int → Int} (B : Nat) : ∀ n : Nat, (∀ j : Int, 0 ≤ j → j < n → 0 ≤ qu j ∧ qu j < B) → (∀ i j : Int, 0 ≤ i → i < n → 0 ≤ j → j < n → qu i = qu j → i = j) → zsum (fun j => g (qu j)) n = zsum (fun v => if zmem qu n v = true then g v else 0) B
  | 0, _, _ => by rw [zsum_0 (f := fun v => if zmem qu 0 v = true then g v else 0) B (fun i _ => by simp [zmem])]; rfl
  | n + 1, hr, hi => by
    have ih := zsum_enum (g := g) B n (fun j a b => hr j a (by omega)) (fun i j a b c d => hi i j a (by omega) c (by omega))
    have hq := hr n (by omega) (by omega)
    have e1 : zsum (fun j => g (qu j)) (n + 1) = zsum (fun j => g (qu j)) n + g (qu n) := rfl
    have hnot : ¬ zmem qu n (qu n) = true := fun h => by
      obtain ⟨j, a, b, c⟩ := (zmem_iff qu n _).mp h
      have := hi j n a (by omega) (by omega) (by omega) c
      omega
    have hyes : zmem qu (n + 1) (qu n) = true := (zmem_iff qu (n + 1) _).mpr ⟨n, by omega, by omega, rfl⟩
    rw [e1, ih, zsum_ch (f := fun v => if zmem qu (n + 1) v = true then g v else 0) (g := fun v => if zmem qu n v = true then g v else 0) B (qu n).toNat (by omega) (fun i hi' hne => by
      have : zmem qu (n + 1) i = zmem qu n i := by
        show (zmem qu n i || decide (qu n = (i : Int))) = zmem qu n i
        rw [decide_eq_false (by omega : ¬ qu n = i), Bool.or_false]
      rw [this])]
    rw [show (((qu n).toNat : Nat) : Int) = qu n by omega, if_pos hyes, if_neg hnot]
    omega
