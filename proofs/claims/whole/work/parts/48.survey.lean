/-! the best exchange, how many help: pure; the class's survey -/
def ptie (N : zM) (S t : Int) : Prop := (0 ≤ t ∧ t < N 4 2) ∧ ¬ tbs S t ∧ ¬ tbs (N 4 4) t
def phl (N : zM) (S t : Int) (e : Int × Int) : Prop := 0 < pgn N (prs N S t) t e.2 ∧ pmy N (prs N S t) t e.2
def pA (N : zM) (S t l g : Int) : Prop := ptie N S t ∧ ∃ e, e ∈ prs N S t ∧ e.1 = l ∧ pgn N (prs N S t) t e.2 = g ∧ phl N S t e
noncomputable def pc (N : zM) (S t : Int) : List (Int × Int) → Int
  | [] => 0
  | e :: B => (@ite _ (phl N S t e) (Classical.propDecidable _) 1 0) + pc N S t B
noncomputable def psv (N : zM) (S : Int) : Nat → Int
  | 0 => 0
  | t + 1 => psv N S t + @ite _ (ptie N S t) (Classical.propDecidable _) (pc N S t (prs N S t)) 0
/-- the best of a set -/
def kB (A : Int → Int → Int → Prop) (bt bl bg : Int) : Prop :=
  (bt = -1 ∧ bl = -1 ∧ bg = 0 ∧ ∀ t l g, ¬ A t l g) ∨ (A bt bl bg ∧ 0 < bg ∧ ∀ t l g, A t l g → g < bg ∨ (g = bg ∧ (bt < t ∨ (bt = t ∧ bl ≤ l))))
theorem kB_cg {A A' : Int → Int → Int → Prop} {bt bl bg : Int} (h : kB A bt bl bg) (e : ∀ t l g, A t l g ↔ A' t l g) : kB A' bt bl bg := by
  have : A = A' := funext fun t => funext fun l => funext fun g => propext (e t l g)
  rw [← this]; exact h
theorem kB_u {A : Int → Int → Int → Prop} {bt bl bg bt' bl' bg' : Int} (h : kB A bt bl bg) (h' : kB A bt' bl' bg') (h0 : ∀ t l g, A t l g → 0 ≤ t) : bt = bt' ∧ bl = bl' ∧ bg = bg' := by
  rcases h with ⟨a1, a2, a3, a4⟩ | ⟨a1, a2, a3⟩ <;> rcases h' with ⟨b1, b2, b3, b4⟩ | ⟨b1, b2, b3⟩
  · omega
  · exact absurd b1 (a4 _ _ _)
  · exact absurd a1 (b4 _ _ _)
  · have x := a3 _ _ _ b1
    have y := b3 _ _ _ a1
    omega
theorem kB_gt {A : Int → Int → Int → Prop} {bt bl bg t l g : Int} (h : kB A bt bl bg) (hg : bg < g) : kB (fun t' l' g' => A t' l' g' ∨ (t' = t ∧ l' = l ∧ g' = g)) t l g := by
  refine Or.inr ⟨Or.inr ⟨rfl, rfl, rfl⟩, ?_, fun t' l' g' q => ?_⟩
  · rcases h with ⟨a1, a2, a3, a4⟩ | ⟨a1, a2, a3⟩ <;> omega
  · rcases q with q | ⟨q1, q2, q3⟩
    · rcases h with ⟨a1, a2, a3, a4⟩ | ⟨a1, a2, a3⟩
      · exact absurd q (a4 _ _ _)
      · have := a3 _ _ _ q; omega
    · omega
theorem kB_lo {A : Int → Int → Int → Prop} {bt bl bg t l g : Int} (h : kB A bt bl bg) (h1 : bt = t) (h2 : l < bl) (h3 : bg = g) (ht : 0 ≤ t) : kB (fun t' l' g' => A t' l' g' ∨ (t' = t ∧ l' = l ∧ g' = g)) t l g := by
  rcases h with ⟨a1, a2, a3, a4⟩ | ⟨a1, a2, a3⟩
  · omega
  · refine Or.inr ⟨Or.inr ⟨rfl, rfl, rfl⟩, by omega, fun t' l' g' q => ?_⟩
    rcases q with q | ⟨q1, q2, q3⟩
    · have := a3 _ _ _ q; omega
    · omega
theorem kB_no {A : Int → Int → Int → Prop} {bt bl bg t l g : Int} (h : kB A bt bl bg) (hg : 0 < g) (h1 : g < bg ∨ (g = bg ∧ (bt < t ∨ (bt = t ∧ bl ≤ l)))) : kB (fun t' l' g' => A t' l' g' ∨ (t' = t ∧ l' = l ∧ g' = g)) bt bl bg := by
  rcases h with ⟨a1, a2, a3, a4⟩ | ⟨a1, a2, a3⟩
  · omega
  · refine Or.inr ⟨Or.inl a1, a2, fun t' l' g' q => ?_⟩
    rcases q with q | ⟨q1, q2, q3⟩
    · exact a3 _ _ _ q
    · omega
theorem zlcmp_0 {x y : Int} : zlcmp x y = 0 ↔ x = y := by
  unfold zlcmp
  split
  · omega
  · split <;> omega
theorem zlcmp_p {x y : Int} : 0 < zlcmp x y ↔ y < x := by
  unfold zlcmp
  split
  · omega
  · split <;> omega
theorem zlcmp_n {x y : Int} : zlcmp x y < 0 ↔ x < y := by
  unfold zlcmp
  split
  · omega
  · split <;> omega
theorem zlow {m : Int} (h0 : 0 ≤ m) (h1 : m ≤ 24) : zmk (zw (zshl 1 m - 1)) (fun i => i < m) := by
  refine ⟨by unfold zw; omega, fun i i0 i1 => ?_⟩
  obtain ⟨a, rfl⟩ : ∃ a : Nat, m = a := ⟨m.toNat, by omega⟩
  obtain ⟨b, rfl⟩ : ∃ b : Nat, i = b := ⟨i.toNat, by omega⟩
  have key : ∀ a : Nat, a < 25 → ∀ b : Nat, b < 32 → tb (zw (zshl 1 (a : Nat) - 1)) (b : Nat) = decide (b < a) := by decide +kernel
  rw [key a (by omega) b (by omega), decide_eq_true_iff]
  omega
section SV
variable {Q : Int → zM → Prop} {M : zM}
theorem c20 {sh : Int} (hm : 0 ≤ M 4 2 ∧ M 4 2 ≤ 24) (h : ∀ r, (-2147483648 ≤ r ∧ r < 2147483648) → (∀ l, tbs r l ↔ ptie (pnet M) sh l) → Q r M) : zF 20 Q [(2, 4), (0, sh)] M := by
  refine s20_0 rfl (h _ (zand_r _ _) (fun l => ?_))
  unfold ptie
  rw [pnet_42, pnet_44, tbs_and, tbs_and]
  have hl := zlow hm.1 hm.2
  constructor
  · rintro ⟨⟨a, b⟩, c⟩
    have h1 := (hl.2 l a.1.1 a.1.2).mp a.2
    exact ⟨⟨a.1.1, h1⟩, (tbs_not a.1).mp b, (tbs_not a.1).mp c⟩
  · rintro ⟨a, b, c⟩
    have a' : 0 ≤ l ∧ l < 32 := by omega
    exact ⟨⟨⟨a', (hl.2 l a'.1 a'.2).mpr a.2⟩, (tbs_not a').mpr b⟩, (tbs_not a').mpr c⟩
theorem c21 {l sh : Int} (hm : 0 ≤ M 4 2 ∧ M 4 2 ≤ 24) (hl : 0 ≤ l ∧ l < 32) (h0 : ¬ ptie (pnet M) sh l → Q 0 M) (h1 : ptie (pnet M) sh l → Q 1 M) : zF 21 Q [(2, 4), (0, l), (0, sh)] M :=
  s21_0 rfl (c20 hm (fun r _ hr => ⟨fun q => h0 (fun z => (tbs_shr hl).mp q ((hr l).mpr z)), fun q => h1 ((hr l).mp (Classical.byContradiction fun z => q ((tbs_shr hl).mpr z)))⟩))
theorem c66 {A : Int → Int → Int → Prop} {t l g : Int} (ht : 0 ≤ t) (hg : 0 < g) (hA : ∀ t' l' g', A t' l' g' → t' ≤ t) (hB : kB A (M 92 1) (M 92 2) (M 92 3)) (hQ : ∀ M', (∀ a, a ≠ 92 → M' a = M a) → M' 92 0 = M 92 0 → kB (fun t' l' g' => A t' l' g' ∨ (t' = t ∧ l' = l ∧ g' = g)) (M' 92 1) (M' 92 2) (M' 92 3) → Q 0 M') : zF 66 Q [(2, 92), (0, t), (0, l), (1, g)] M := by
  have up : kB (fun t' l' g' => A t' l' g' ∨ (t' = t ∧ l' = l ∧ g' = g)) t l g → Q 0 (zset (zset (zset M 92 3 g) 92 1 t) 92 2 l) := fun z => by
    refine hQ _ (fun a ha => by rw [zrow_o _ ha, zrow_o _ ha, zrow_o _ ha]) ?_ ?_
    · rw [zrow_s, fset_o _ (by decide), zrow_s, fset_o _ (by decide), zrow_s, fset_o _ (by decide)]
    · have e1 : zset (zset (zset M 92 3 g) 92 1 t) 92 2 l 92 1 = t := by rw [zrow_s, fset_o _ (by decide), zrow_s, fset_s]
      have e2 : zset (zset (zset M 92 3 g) 92 1 t) 92 2 l 92 2 = l := by rw [zrow_s, fset_s]
      have e3 : zset (zset (zset M 92 3 g) 92 1 t) 92 2 l 92 3 = g := by rw [zrow_s, fset_o _ (by decide), zrow_s, fset_o _ (by decide), zrow_s, fset_s]
      rw [e1, e2, e3]
      exact z
  have no : (g < M 92 3 ∨ (g = M 92 3 ∧ (M 92 1 < t ∨ (M 92 1 = t ∧ M 92 2 ≤ l)))) → Q 0 M := fun z => hQ M (fun _ _ => rfl) rfl (kB_no hB hg z)
  have hbt : M 92 1 ≤ t := by
    rcases hB with ⟨a1, _⟩ | ⟨a1, _⟩
    · omega
    · exact hA _ _ _ a1
  refine s66_0 ⟨fun q => ⟨fun q1 => up (kB_gt hB (zlcmp_p.mp q1)), fun q1 => no ?_⟩, fun q => ⟨fun q1 => ⟨fun q2 => up (kB_gt hB (zlcmp_p.mp q2)), fun q2 => no ?_⟩, fun q1 => ⟨fun q2 => ⟨fun q3 => up (kB_gt hB (zlcmp_p.mp q3)), fun q3 => no ?_⟩, fun q2 => ⟨fun q3 => up (kB_gt hB (zlcmp_p.mp q3)), fun _ => up (kB_lo hB q1.symm q2 (zlcmp_0.mp q).symm ht)⟩⟩⟩⟩
  · rw [zlcmp_p] at q1; rw [zlcmp_0] at q; omega
  · have := zlcmp_0.mp q; omega
  · have := zlcmp_0.mp q; omega
end SV
