/-! the class: carry, lossOn, weigh -/
theorem zcopy_o (M : zM) {q sp d dp n b : Int} (h : b ≠ d) : zcopy M q sp d dp n b = M b := by
  funext j
  unfold zcopy
  rw [if_neg (fun z => h z.1)]
theorem zcopy_d (M : zM) {q d n j : Int} (h0 : 0 ≤ j) (h1 : j < n) : zcopy M q 0 d 0 n d j = M q j := by
  unfold zcopy
  rw [if_pos ⟨rfl, by omega, by omega⟩]
  congr 1
  omega
/-- what carry leaves as it was -/
def zcr (f : Int) (M M' : zM) : Prop := zFf f M M' ∧ M' (f + 1) = M (f + 1) ∧ M' (f + 2) = M (f + 2) ∧ M' (f + 3) = M (f + 3) ∧ M' (f + 7) = M (f + 7) ∧ ∀ j, j ≠ 4 → M' f j = M f j
section FL3
variable {Q : Int → zM → Prop} {M : zM} {f : Int}
theorem c10 (kf : zKT f = (2, 0)) (hW : zWC M) {lc : Int} (hlc : 0 ≤ lc ∧ lc ≤ 16) (hr : ∀ j, 0 ≤ j → j < lc → 0 ≤ M (f + 7) j ∧ M (f + 7) j < 16) (hinj : ∀ j j', 0 ≤ j → j < lc → 0 ≤ j' → j' < lc → M (f + 7) j = M (f + 7) j' → j = j') (hby : ∀ j, 0 ≤ j → j < lc → ¬ M (f + 2) (M (f + 7) j) = -1 → (0 ≤ M (f + 2) (M (f + 7) j) ∧ M (f + 2) (M (f + 7) j) < M 4 2) ∧ ∃ j2, 0 ≤ j2 ∧ j2 < j ∧ zbt (M 6) (M 7) (M (f + 2) (M (f + 7) j)) (M (f + 7) j2) (M (f + 7) j))
    (hQ : ∀ M', zcr f M M' → zCB (M 5) (M 6) (M 7) (M (f + 2)) (M (f + 7)) (M' (f + 4)) (M' (f + 5)) (M' (f + 6)) lc (-1) (M' f 4) → Q 0 M') : zF 10 Q [(2, f), (2, 4), (0, lc)] M := by
  have hf := zin_0 kf
  have hm := hW.1
  have hne : ∀ j, 0 ≤ j → j < lc → ¬ M (f + 2) (M (f + 7) j) = -1 → ¬ M 6 (M (f + 2) (M (f + 7) j)) = M 7 (M (f + 2) (M (f + 7) j)) := fun j h0 h1 q => by
    have := (hby j h0 h1 q).1
    exact (hW.2.2.2.2.1 _ this.1 this.2).1.2.2.1
  have hlo : ∀ v, 0 ≤ v → v < 16 → 0 ≤ M 5 v ∧ M 5 v ≤ 99 := fun v h0 h1 => (hW.2.2.2.1 v h0 h1).1
  have hps : ∀ t : Nat, t ≤ lc → 0 ≤ zsum (fun j => M 5 (M (f + 7) j)) t ∧ zsum (fun j => M 5 (M (f + 7) j)) t ≤ 99 * t := fun t ht => zsum_b t (fun i hi => by
    have := hr i (by omega) (by omega)
    exact hlo _ this.1 this.2)
  have key : ∀ (n : Nat) (M' : zM) (i : Int), i + 1 = n → i < lc → zcr f M M' → zCB (M 5) (M 6) (M 7) (M (f + 2)) (M (f + 7)) (M' (f + 4)) (M' (f + 5)) (M' (f + 6)) lc i (M' f 4) → zS 10 Q 40 [(2, f), (2, 4), (0, lc), (0, i), (3, 0), (3, 0), (3, 0)] [] M' := by
    intro n
    induction n with
    | zero =>
      intro M' i hn hi hc hB
      refine s10_40 kf ⟨fun _ => hQ M' hc ?_, fun q => absurd q (by omega)⟩
      rw [show (-1 : Int) = i by omega]; exact hB
    | succ n ih =>
      intro M' i hn hi hc hB
      obtain ⟨hF, h1, h2, h3, h7, h0⟩ := id hc
      obtain ⟨e4, e5, e6, e7, e8, e9, e10, e11⟩ := zWC_Ff hf hF
      have hi0 : 0 ≤ i ∧ i < lc := by omega
      have hv := hr i hi0.1 hi0.2
      have hlv := hlo _ hv.1 hv.2
      have hll : -1584 ≤ M' f 4 ∧ M' f 4 ≤ 1584 := by
        have x1 := hps lc.toNat (by omega)
        have x2 := hps (i + 1).toNat (by omega)
        have x3 := hB.2.2.2.2.2.2
        omega
      refine s10_40 kf ⟨fun q => absurd q (by omega), fun _ => ?_⟩
      rw [h7, h2, e5]
      refine ⟨by omega, hv, fun q => ?_, fun q => ?_⟩
      · rw [zw_id (x := i + -1) (by omega), zw_id (by omega)]
        refine ih _ (i + -1) (by omega) (by omega) ⟨zFf_s hF (by omega), by rw [zrow_o _ (by omega)]; exact h1, by rw [zrow_o _ (by omega)]; exact h2, by rw [zrow_o _ (by omega)]; exact h3, by rw [zrow_o _ (by omega)]; exact h7, fun j hj => by rw [zrow_s, fset_o _ hj]; exact h0 j hj⟩ ?_
        rw [zrow_o _ (by omega), zrow_o _ (by omega), zrow_o _ (by omega), zrow_s, fset_s]
        exact zCB_root hB hi0 hr q
      · have hb := hby i hi0.1 hi0.2 q
        have hl := (hW.2.2.2.2.1 _ hb.1.1 hb.1.2).1
        refine c22 (by omega) ?_
        rw [zrow_o _ (by omega), zrow_o _ (by omega), e6, e7]
        generalize hu : (if M 6 (M (f + 2) (M (f + 7) i)) = M (f + 7) i then M 7 (M (f + 2) (M (f + 7) i)) else M 6 (M (f + 2) (M (f + 7) i))) = u
        have hbt : zbt (M 6) (M 7) (M (f + 2) (M (f + 7) i)) u (M (f + 7) i) := by
          obtain ⟨j2, -, -, x⟩ := hb.2
          unfold zbt at x ⊢
          by_cases z : M 6 (M (f + 2) (M (f + 7) i)) = M (f + 7) i
          · rw [if_pos z] at hu; exact Or.inr ⟨z, hu⟩
          · rw [if_neg z] at hu
            rcases x with ⟨x1, x2⟩ | ⟨x1, x2⟩
            · exact Or.inl ⟨hu, x2⟩
            · exact absurd x1 z
        obtain ⟨s1, s2, s3, s4⟩ := zCB_step hB hi0 hlc.2 hr hinj (fun j a b c => ⟨by have := (hby j a b c).1; omega, (hby j a b c).2⟩) hne q hbt
        refine ⟨s1, by omega, ?_⟩
        rw [zw_id (x := i + -1) (by omega), zw_id (x := M' f 4 + M 5 (M (f + 7) i)) (by omega)]
        rw [zrow_o M' (show f + 4 ≠ f by omega), zw_id (by omega), zrow_s, fset_o _ (Ne.symm s3), zrow_o M' (show f + 4 ≠ f by omega)]
        generalize hN : zset (zset (zset (zset M' f 4 (M' f 4 + M 5 (M (f + 7) i))) (f + 4) u (M' (f + 4) u + M' (f + 4) (M (f + 7) i))) (f + 5) (M (f + 2) (M (f + 7) i)) (M' (f + 4) (M (f + 7) i))) (f + 6) (M (f + 2) (M (f + 7) i)) u = N
        refine ih N (i + -1) (by omega) (by omega) ⟨by rw [← hN]; exact zFf_s (zFf_s (zFf_s (zFf_s hF (by omega)) (by omega)) (by omega)) (by omega), ?_, ?_, ?_, ?_, fun j hj => ?_⟩ ?_
        · rw [← hN, zrow_o _ (by omega), zrow_o _ (by omega), zrow_o _ (by omega), zrow_o _ (by omega)]; exact h1
        · rw [← hN, zrow_o _ (by omega), zrow_o _ (by omega), zrow_o _ (by omega), zrow_o _ (by omega)]; exact h2
        · rw [← hN, zrow_o _ (by omega), zrow_o _ (by omega), zrow_o _ (by omega), zrow_o _ (by omega)]; exact h3
        · rw [← hN, zrow_o _ (by omega), zrow_o _ (by omega), zrow_o _ (by omega), zrow_o _ (by omega)]; exact h7
        · rw [← hN, zrow_o _ (by omega), zrow_o _ (by omega), zrow_o _ (by omega), zrow_s, fset_o _ hj]; exact h0 j hj
        · have r4 : N (f + 4) = fset (M' (f + 4)) u (M' (f + 4) u + M' (f + 4) (M (f + 7) i)) := by rw [← hN, zrow_o _ (by omega), zrow_o _ (by omega), zrow_s, zrow_o _ (by omega)]
          have r5 : N (f + 5) = fset (M' (f + 5)) (M (f + 2) (M (f + 7) i)) (M' (f + 4) (M (f + 7) i)) := by rw [← hN, zrow_o _ (by omega), zrow_s, zrow_o _ (by omega), zrow_o _ (by omega)]
          have r6 : N (f + 6) = fset (M' (f + 6)) (M (f + 2) (M (f + 7) i)) u := by rw [← hN, zrow_s, zrow_o _ (by omega), zrow_o _ (by omega), zrow_o _ (by omega)]
          have rf : N f 4 = M' f 4 + M 5 (M (f + 7) i) := by rw [← hN, zrow_o _ (by omega), zrow_o _ (by omega), zrow_o _ (by omega), zrow_s, fset_s]
          rw [r4, r5, r6, rf]
          exact s4
  refine s10_0 kf (c165 (l := 24) (zKo kf (by decide)) (by decide) (fun M1 a1 a2 => c165 (l := 24) (zKo kf (by decide)) (by decide) (fun M2 b1 b2 => ?_)))
  rw [zw_id (by omega)]
  have hF2 : ∀ a, a ≠ f + 5 → a ≠ f + 6 → M2 a = M a := fun a x y => (b1 a y).trans (a1 a x)
  generalize hN : zset (zcopy M2 5 0 (f + 4) 0 16) f 4 0 = N
  have rO : ∀ a, a ≠ f → a ≠ f + 4 → a ≠ f + 5 → a ≠ f + 6 → N a = M a := fun a x1 x2 x3 x4 => by rw [← hN, zrow_o _ x1, zcopy_o _ x2]; exact hF2 a x3 x4
  have r4 : ∀ v, 0 ≤ v → v < 16 → N (f + 4) v = M 5 v := fun v h0 h1 => by rw [← hN, zrow_o _ (by omega), zcopy_d _ h0 h1, hF2 5 (by omega) (by omega)]
  have r5 : ∀ l, 0 ≤ l → l < 24 → N (f + 5) l = 0 := fun l h0 h1 => by rw [← hN, zrow_o _ (by omega), zcopy_o _ (by omega), b1 _ (by omega)]; exact a2 l h0 h1
  have r6 : ∀ l, 0 ≤ l → l < 24 → N (f + 6) l = -1 := fun l h0 h1 => by rw [← hN, zrow_o _ (by omega), zcopy_o _ (by omega)]; exact b2 l h0 h1
  have rf : N f = fset (M f) 4 0 := by rw [← hN, zrow_s, zcopy_o _ (by omega), hF2 f (by omega) (by omega)]
  have zs : ∀ x, zsum (fun l => if N (f + 6) l = x then N (f + 5) l else 0) 24 = 0 := fun x => zsum_0 24 (fun t ht => by
    split
    · exact r5 t (by omega) (by omega)
    · rfl)
  refine key lc.toNat N (lc - 1) (by omega) (by omega) ⟨fun a j ha => by rw [rO a (by omega) (by omega) (by omega) (by omega)], rO _ (by omega) (by omega) (by omega) (by omega), rO _ (by omega) (by omega) (by omega) (by omega), rO _ (by omega) (by omega) (by omega) (by omega), rO _ (by omega) (by omega) (by omega) (by omega), fun j hj => by rw [rf, fset_o _ hj]⟩ ⟨fun j h0 h1 => ?_, fun j h0 h1 h2 => by omega, fun l h0 h1 => ⟨fun _ => r5 l h0 h1, fun q => absurd (r6 l h0 h1) q⟩, fun v h0 h1 => ?_, fun l h0 h1 => by rw [r5 l h0 h1]; omega, ?_, ?_⟩
  · have := hr j h0 h1
    rw [r4 _ this.1 this.2, zs]; omega
  · rw [r4 v h0 h1]; have := hlo v h0 h1; omega
  · rw [show (lc - 1 + 1).toNat = lc.toNat by omega]
    rw [zsum_congr (g := fun j => M 5 (M (f + 7) j)) lc.toNat (fun i hi => by
      have := hr i (by omega) (by omega)
      exact r4 _ this.1 this.2)]
    have := hps lc.toNat (by omega)
    omega
  · rw [show (lc - 1 + 1).toNat = lc.toNat by omega, rf, fset_s]; omega
theorem c12 {l : Int} (kf : zKT f = (2, 0)) (hl : 0 ≤ l ∧ l < 24) (hr : 1 ≤ M 8 l ∧ M 8 l ≤ 99) (hx : 0 ≤ M (f + 5) l ∧ M (f + 5) l ≤ 1584) (h : Q (M 8 l * M (f + 5) l * M (f + 5) l) M) : zF 12 Q [(2, f), (2, 4), (0, l)] M := by
  refine s12_0 kf ⟨hl, ?_⟩
  have h1 : 0 ≤ M 8 l * M (f + 5) l := Int.mul_nonneg (by omega) hx.1
  have h2 : M 8 l * M (f + 5) l ≤ 99 * 1584 := Int.mul_le_mul hr.2 hx.2 hx.1 (by omega)
  have h3 : 0 ≤ M 8 l * M (f + 5) l * M (f + 5) l := Int.mul_nonneg h1 hx.1
  have h4 : M 8 l * M (f + 5) l * M (f + 5) l ≤ 99 * 1584 * 1584 := Int.mul_le_mul h2 hx.2 hx.1 (by omega)
  rw [zW_id (x := M 8 l * M (f + 5) l) (by omega), zW_id (by omega)]
  exact h
end FL3
