/-! the reference's reader: leaves, places -/
def mra (M : zM) : Prop := M 123 14 = -1 ∧ (0 ≤ M 123 2 ∧ M 123 2 ≤ 200) ∧ ∀ i, 0 ≤ i → i < M 123 2 → 0 ≤ M 125 i ∧ M 125 i ≤ 127
def mft (M : zM) (q : Int) : zM := zset (zset M 123 14 q) 123 13 q
theorem mft_eq (M : zM) (q : Int) : zset (zset (zset M 123 13 q) 123 14 q) 123 13 q = mft M q := by
  funext a i
  unfold mft zset
  by_cases h1 : a = 123 ∧ i = 13
  · simp [h1]
  · by_cases h2 : a = 123 ∧ i = 14
    · simp [h2]
    · simp [h1, h2]
theorem mft_14 (M : zM) (q : Int) : mft M q 123 14 = q := by unfold mft; rw [zrow_s, fset_o _ (by decide), zrow_s, fset_s]
theorem mft_o (M : zM) (q : Int) {a i : Int} (h : ¬ (a = 123 ∧ (i = 13 ∨ i = 14))) : mft M q a i = M a i := by
  unfold mft zset
  rw [if_neg (fun z => h ⟨z.1, Or.inl z.2⟩), if_neg (fun z => h ⟨z.1, Or.inr z.2⟩)]
section MR
variable {Q : Int → zM → Prop} {M P : zM}
theorem mp_o (M : zM) (q : Int) {a i : Int} (h : ¬ (a = 123 ∧ i = 13)) : zset M 123 13 q a i = M a i := by
  unfold zset
  rw [if_neg h]
theorem mp_r (M : zM) (q : Int) {a : Int} (h : a ≠ 123) : zset M 123 13 q a = M a := zrow_o _ h
theorem mp_5 (M : zM) (q : Int) : zset M 123 13 q 123 13 = q := by rw [zrow_s, fset_s]
theorem o104_1 {q : Int} (hR : mra M) (hq : 0 ≤ q ∧ q ≤ 300) (hQ : Q 1 (zset M 123 13 (q + 1))) : zF 104 Q [(2, 123), (0, 1)] (zset M 123 13 q) := by
  refine s104_0 ⟨fun _ => ⟨fun z => ?_, fun z => ?_⟩, fun z => absurd z (by decide)⟩
  · rw [mp_o _ _ (by omega)] at z; have := hR.1; omega
  · rw [mp_5, zset_zset, zw_id (by omega)]; exact hQ
theorem o104_0 {q : Int} (hR : mra M) (hq : 0 ≤ q ∧ q ≤ 300) (hQ : Q 0 (mft M q)) : zF 104 Q [(2, 123), (0, 0)] (zset M 123 13 q) := by
  refine s104_0 ⟨fun z => absurd rfl z, fun _ => ⟨fun z => ?_, fun z => ⟨fun z2 => ?_, fun z2 => ?_⟩⟩⟩
  · rw [mp_o _ _ (by omega)] at z; have := hR.1; omega
  · rw [mp_5, zw_id (by omega), Int.add_zero, mft_eq]; exact hQ
  · rw [mp_5] at z2; omega
theorem o102 {M' : zM} {a : Int} (hR : mra M) (h2 : M' 123 2 = M 123 2) (h125 : M' 125 = M 125) (ha : 0 ≤ a) (hQ : Q (pbt (M 125) (M 123 2) a) M') : zF 102 Q [(2, 123), (0, a)] M' := by
  refine c102 ha (by rw [h2]; exact hR.2.1.2) ?_
  rw [h2, h125]
  unfold pbt at hQ
  by_cases q : a < M 123 2
  · rw [if_pos ⟨ha, q⟩] at hQ; rw [if_pos q]; exact hQ
  · rw [if_neg (fun z => q z.2)] at hQ; rw [if_neg q]; exact hQ
theorem o103 {M' : zM} {a : Int} (hR : mra M) (h2 : M' 123 2 = M 123 2) (h125 : M' 125 = M 125) (ha : 0 ≤ a) (h0 : ¬ pdg (pbt (M 125) (M 123 2) a) → Q 0 M') (h1 : pdg (pbt (M 125) (M 123 2) a) → Q 1 M') : zF 103 Q [(2, 123), (0, a)] M' := by
  refine c103 ha (by rw [h2]; exact hR.2.1.2) ?_
  rw [h2, h125]
  unfold pdg pbt at h0 h1
  by_cases q : a < M 123 2
  · rw [if_pos ⟨ha, q⟩] at h0 h1
    by_cases q2 : 48 ≤ M 125 a ∧ M 125 a ≤ 57
    · rw [if_pos ⟨q, q2⟩]; exact h1 q2
    · rw [if_neg (fun z => q2 z.2)]; exact h0 q2
  · rw [if_neg (fun z => q z.2)] at h0
    rw [if_neg (fun z => q z.1)]
    exact h0 (by omega)
theorem o105 {q : Int} {m : Nat} (hR : mra M) (hq : 0 ≤ q ∧ q ≤ M 123 2) (hm : m = 2 ∨ m = 3) (h0 : ¬ pdg (pbt (M 125) (M 123 2) q) → Q 0 (mft M q)) (h1 : pdg (pbt (M 125) (M 123 2) q) → Q (pfv (pbt (M 125) (M 123 2)) m q 0).1 (zset M 123 13 (pfv (pbt (M 125) (M 123 2)) m q 0).2)) : zF 105 Q [(2, 123), (0, (m : Int))] (zset M 123 13 q) := by
  have hn := hR.2.1
  have key : ∀ (j i : Nat) (p v : Int), i + j = m → 0 < i → q ≤ p → p ≤ M 123 2 → 0 ≤ v → (v + 1) * 10 ^ j ≤ 1000 → pfv (pbt (M 125) (M 123 2)) j p v = pfv (pbt (M 125) (M 123 2)) m q 0 → pdg (pbt (M 125) (M 123 2) q) → zS 105 Q 4 [(2, 123), (0, (m : Int)), (0, v), (0, (i : Int))] [] (zset M 123 13 p) := by
    intro j
    induction j with
    | zero =>
      intro i p v hi hi0 hp hp2 hv hb e hd
      refine s105_4 ⟨fun _ => ⟨fun _ => ?_, fun z => by omega⟩, fun z => by omega⟩
      have e' : (v, p) = pfv (pbt (M 125) (M 123 2)) m q 0 := e
      have e1 : v = (pfv (pbt (M 125) (M 123 2)) m q 0).1 := by rw [← e']
      have e2 : p = (pfv (pbt (M 125) (M 123 2)) m q 0).2 := by rw [← e']
      rw [e2, e1]
      exact h1 hd
    | succ j ih =>
      intro i p v hi hi0 hp hp2 hv hb e hd
      refine s105_4 ⟨fun z => by omega, fun _ => ?_⟩
      rw [mp_5]
      refine o103 hR (mp_o _ _ (by omega)) (mp_r _ _ (by decide)) (by omega) (fun z => ⟨fun _ => ⟨fun _ => ?_, fun y => by omega⟩, fun y => absurd rfl y⟩) (fun z => ⟨fun y => absurd y (by decide), fun _ => ?_⟩)
      · rw [pfv_s, cif_f z] at e
        have e1 : v = (pfv (pbt (M 125) (M 123 2)) m q 0).1 := by rw [← e]
        have e2 : p = (pfv (pbt (M 125) (M 123 2)) m q 0).2 := by rw [← e]
        rw [e2, e1]
        exact h1 hd
      · rw [mp_5]
        have hi2 := pbt_in (t := M 125) (n := M 123 2) (p := p) (by unfold pdg at z; omega)
        refine o102 hR (mp_o _ _ (by omega)) (mp_r _ _ (by decide)) (by omega) ?_
        have hj1 : (1 : Int) ≤ 10 ^ j := by
          have : (0 : Int) < 10 ^ j := Int.pow_pos (by decide)
          omega
        have z' := z
        unfold pdg at z'
        have e10 : (v + 1) * 10 ^ (j + 1) = (10 * v + 10) * 10 ^ j := by rw [Int.pow_succ, Int.mul_comm (10 ^ j) 10, ← Int.mul_assoc]; congr 1; omega
        have hle : (10 * v + pbt (M 125) (M 123 2) p - 48 + 1) * 10 ^ j ≤ (10 * v + 10) * 10 ^ j := Int.mul_le_mul_of_nonneg_right (by omega) (by omega)
        have hle2 : (10 * v + 10) * 1 ≤ (10 * v + 10) * 10 ^ j := Int.mul_le_mul_of_nonneg_left hj1 (by omega)
        rw [zw_id (x := 10 * v) (by omega), zw_id (x := 10 * v + pbt (M 125) (M 123 2) p) (by omega), zw_id (by omega), zw_id (x := (i : Int) + 1) (by omega), mp_5, zw_id (x := p + 1) (by omega), zset_zset]
        refine ih (i + 1) (p + 1) _ (by omega) (by omega) (by omega) (by omega) (by omega) (by omega) ?_ hd
        rw [pfv_s, cif_t z] at e
        exact e
  refine s105_0 (s105_4 ⟨fun z => by omega, fun _ => ?_⟩)
  rw [mp_5]
  refine o103 hR (mp_o _ _ (by omega)) (mp_r _ _ (by decide)) (by omega) (fun z => ⟨fun _ => ⟨fun y => absurd rfl y, fun _ => o104_0 hR (by omega) (h0 z)⟩, fun y => absurd rfl y⟩) (fun z => ⟨fun y => absurd y (by decide), fun _ => ?_⟩)
  rw [mp_5]
  have hi2 := pbt_in (t := M 125) (n := M 123 2) (p := q) (by unfold pdg at z; omega)
  refine o102 hR (mp_o _ _ (by omega)) (mp_r _ _ (by decide)) (by omega) ?_
  have z' := z
  unfold pdg at z'
  rw [zw_id (x := 10 * 0) (by omega), zw_id (x := 10 * 0 + pbt (M 125) (M 123 2) q) (by omega), zw_id (by omega), zw_id (x := 0 + 1) (by omega), mp_5, zw_id (x := q + 1) (by omega), zset_zset]
  obtain ⟨m', rfl⟩ : ∃ m', m = m' + 1 := ⟨m - 1, by omega⟩
  refine key m' 1 (q + 1) _ (by omega) (by omega) (by omega) (by omega) (by omega) ?_ ?_ z
  · rcases hm with e | e
    · have : m' = 1 := by omega
      subst this; omega
    · have : m' = 2 := by omega
      subst this; omega
  · rw [pfv_s (m := m'), cif_t z]
/-- what was read, in the reference's rows -/
def mR0 (P M : zM) : Prop :=
  M 123 15 = P 4 2
  ∧ (∀ v, 0 ≤ v → v < 16 → (tbs (P 4 1) v ↔ M 134 v = 1) ∧ (tbs (P 4 0) v ↔ ¬ M 134 v = 0) ∧ 0 ≤ M 134 v ∧ M 134 v ≤ 2)
  ∧ (∀ l, 0 ≤ l → l < P 4 2 → M 136 l = P 6 l ∧ M 137 l = P 7 l ∧ M 138 l = P 8 l ∧ M 139 l = P 9 l ∧ (tbs (P 4 3) l ↔ M 140 l = 1) ∧ (0 ≤ M 140 l ∧ M 140 l ≤ 1) ∧ M 141 l = P 20 l)
def mR (P M : zM) : Prop := mR0 P M ∧ M 123 16 = pcard (P 4 1) ∧ ∀ v, 0 ≤ v → v < 16 → M 135 v = P 5 v
def mrf (M M' : zM) : Prop := ∀ a i : Int, ¬ (134 ≤ a ∧ a ≤ 141) → ¬ (a = 123 ∧ 13 ≤ i ∧ i ≤ 16) → M' a i = M a i
theorem mrf_r {M : zM} : mrf M M := fun _ _ _ _ => rfl
theorem mrf_t {M M' M'' : zM} (h : mrf M M') (g : mrf M' M'') : mrf M M'' := fun a i p q => (g a i p q).trans (h a i p q)
theorem mrf_s {M M' : zM} {a i x : Int} (h : mrf M M') (ha : 134 ≤ a ∧ a ≤ 141 ∨ (a = 123 ∧ 13 ≤ i ∧ i ≤ 16)) : mrf M (zset M' a i x) := fun b j p q => by
  unfold zset
  rw [if_neg (fun z => by omega)]
  exact h b j p q
theorem mrf_ft {M M' : zM} {q : Int} (h : mrf M M') : mrf M (mft M' q) := mrf_s (mrf_s h (by omega)) (by omega)
theorem mR0_cg {M' : zM} (h : mR0 P M) (h15 : M' 123 15 = M 123 15) (hr : ∀ a, 134 ≤ a → a ≤ 141 → a ≠ 135 → M' a = M a) : mR0 P M' := by
  unfold mR0
  rw [h15, hr 134 (by omega) (by omega) (by decide), hr 136 (by omega) (by omega) (by decide), hr 137 (by omega) (by omega) (by decide), hr 138 (by omega) (by omega) (by decide), hr 139 (by omega) (by omega) (by decide), hr 140 (by omega) (by omega) (by decide), hr 141 (by omega) (by omega) (by decide)]
  exact h
theorem c106 {p : Int} (hR : mra M) (hm : mR P M) (hw : pwf P) (hp : 0 ≤ p ∧ p < M 123 2) (h13 : M 123 13 = p)
    (h0 : ∀ q M', ppl (pbt (M 125) (M 123 2)) p P = (none, q) → mrf M M' → M' 123 14 = q → mR0 P M' → Q 0 M')
    (h1 : ∀ P' q M', ppl (pbt (M 125) (M 123 2)) p P = (some P', q) → mrf M M' → M' 123 14 = -1 → M' 123 13 = q → mR P' M' → Q 0 M') : zF 106 Q [(2, 123)] M := by
  have hbb : ∀ i, -1 ≤ pbt (M 125) (M 123 2) i ∧ pbt (M 125) (M 123 2) i ≤ 127 := fun i => pbt_b hR.2.2
  have hn := hR.2.1
  have hfn : ∀ m i, i ≤ M 123 2 → (pfv (pbt (M 125) (M 123 2)) m i 0).2 ≤ M 123 2 := fun m i z => pfv_n z
  have e0 : zset M 123 13 p = M := by rw [← h13]; exact zset_id M 123 13
  obtain ⟨⟨m1, m2, m3⟩, m4, m5⟩ := hm
  have hm0 : mR0 P M := ⟨m1, m2, m3⟩
  generalize hb : pbt (M 125) (M 123 2) = b at *
  have bp := hbb p
  have fail : ∀ q, ppl b p P = (none, q) → Q 0 (mft M q) := fun q e => h0 q _ e (mrf_ft mrf_r) (mft_14 _ _) (mR0_cg hm0 (mft_o _ _ (by omega)) (fun a _ _ _ => funext fun i => mft_o _ _ (by omega)))
  refine s106_0 ?_
  rw [h13]
  refine o102 hR rfl rfl hp.1 ?_
  rw [hb, zw_id (by omega)]
  have bad0 : ¬ ((0 ≤ b p - 97 ∧ b p - 97 < 16) ∧ ¬ tbs (P 4 0) (b p - 97)) → Q 0 (mft M p) := fun z => fail p (by unfold ppl; rw [cif_t z])
  refine c98 ⟨fun q => ?_, fun q => ?_⟩
  · have hno : ¬ (0 ≤ b p - 97 ∧ b p - 97 < 16) := fun z => by rw [if_pos ⟨z.1, by omega⟩] at q; cases q
    have := o104_0 (Q := fun x8 M9 => ((¬ x8 = 0 → zF 103 (fun x12 M13 => ((x12 = 0 → zF 102 (fun x16 M17 => ((¬ x16 = 59 → zF 104 (fun x20 M21 => ((x20 = 0 → Q 0 M21) ∧ (¬ x20 = 0 → (0 ≤ b p - 97 ∧ b p - 97 < 16) ∧ Q 0 (zset (zset M21 134 (b p - 97) 1) 123 16 (zw ((M21 123 16) + 1)))))) [(2, 123), (0, 0)] M17) ∧ (x16 = 59 → ((¬ (M17 123 16) < 4 → zF 104 (fun x25 M26 => ((x25 = 0 → Q 0 M26) ∧ (¬ x25 = 0 → (0 ≤ b p - 97 ∧ b p - 97 < 16) ∧ Q 0 (zset (zset M26 134 (b p - 97) 1) 123 16 (zw ((M26 123 16) + 1)))))) [(2, 123), (0, 0)] M17) ∧ ((M17 123 16) < 4 → zF 104 (fun x29 M30 => ((x29 = 0 → Q 0 M30) ∧ (¬ x29 = 0 → (0 ≤ b p - 97 ∧ b p - 97 < 16) ∧ Q 0 (zset (zset M30 134 (b p - 97) 1) 123 16 (zw ((M30 123 16) + 1)))))) [(2, 123), (0, 1)] M17))))) [(2, 123), (0, M13 123 13)] M13) ∧ (¬ x12 = 0 → zF 105 (fun x33 M34 => (0 ≤ b p - 97 ∧ b p - 97 < 16) ∧ zF 102 (fun x36 M37 => ((¬ x36 = 59 → zF 104 (fun x40 M41 => ((x40 = 0 → Q 0 (zset M41 134 (b p - 97) 0)) ∧ (¬ x40 = 0 → Q 0 (zset M41 134 (b p - 97) 2)))) [(2, 123), (0, 0)] M37) ∧ (x36 = 59 → zF 104 (fun x44 M45 => ((x44 = 0 → Q 0 (zset M45 134 (b p - 97) 0)) ∧ (¬ x44 = 0 → Q 0 (zset M45 134 (b p - 97) 2)))) [(2, 123), (0, 1)] M37))) [(2, 123), (0, M34 123 13)] (zset M34 135 (b p - 97) x33)) [(2, 123), (0, 2)] M13))) [(2, 123), (0, M9 123 13)] M9) ∧ (x8 = 0 → Q 0 M9))) hR (q := p) (by omega) ⟨fun z => absurd rfl z, fun _ => bad0 (fun z => hno z.1)⟩
    rw [e0] at this
    exact this
  · have hin : 0 ≤ b p - 97 ∧ b p - 97 < 16 := by
      have : 0 ≤ b p - 97 ∧ b p - 97 ≤ 15 := Classical.byContradiction fun z => q (if_neg z)
      omega
    have hk := m2 _ hin.1 hin.2
    refine ⟨hin, fun q2 => ?_, fun q2 => ?_⟩
    · rw [show (zF 104 _ [(2, 123), (0, 0)] M) = (zF 104 _ [(2, 123), (0, 0)] (zset M 123 13 p)) from by rw [e0]]
      exact o104_0 hR (by omega) ⟨fun z => absurd rfl z, fun _ => bad0 (fun z => z.2 (hk.2.1.mpr q2))⟩
    · have hnt : ¬ tbs (P 4 0) (b p - 97) := fun z => hk.2.1.mp z q2
      have ok0 : ¬ ¬ ((0 ≤ b p - 97 ∧ b p - 97 < 16) ∧ ¬ tbs (P 4 0) (b p - 97)) := fun z => z ⟨hin, hnt⟩
      rw [show (zF 104 _ [(2, 123), (0, 1)] M) = (zF 104 _ [(2, 123), (0, 1)] (zset M 123 13 p)) from by rw [e0]]
      have hq1 : 0 ≤ p + 1 ∧ p + 1 ≤ M 123 2 := by omega
      refine o104_1 hR (by omega) ⟨fun _ => ?_, fun z => absurd z (by decide)⟩
      rw [mp_5]
      refine o103 hR (mp_o _ _ (by omega)) (mp_r _ _ (by decide)) (by omega) (fun d => ⟨fun _ => ?_, fun y => absurd rfl y⟩) (fun d => ⟨fun y => absurd y (by decide), fun _ => ?_⟩)
      · rw [hb] at d
        rw [mp_5]
        refine o102 hR (mp_o _ _ (by omega)) (mp_r _ _ (by decide)) (by omega) ?_
        rw [hb]
        refine ⟨fun z => o104_0 hR (by omega) ⟨fun _ => fail (p + 1) (by unfold ppl; rw [cif_f ok0, cif_f z, cif_t d]), fun y => absurd rfl y⟩, fun z => ⟨fun z2 => o104_0 hR (by omega) ⟨fun _ => fail (p + 1) (by
          rw [mp_o _ _ (by omega), m4] at z2
          unfold ppl; rw [cif_f ok0, cif_t z, cif_f z2]), fun y => absurd rfl y⟩, fun z2 => o104_1 hR (by omega) ⟨fun y => absurd y (by decide), fun _ => ?_⟩⟩⟩
        rw [mp_o _ _ (by omega), m4] at z2
        have hcn := pcard_nn (P 4 1)
        rw [mp_o _ _ (show ¬ ((123 : Int) = 123 ∧ (16 : Int) = 13) by omega), m4, zw_id (by omega)]
        generalize hM' : zset (zset (zset M 123 13 (p + 1 + 1)) 134 (b p - 97) 1) 123 16 (pcard (P 4 1) + 1) = M'
        have r134 : M' 134 = fset (M 134) (b p - 97) 1 := by rw [← hM', zrow_o _ (by decide), zrow_s, zrow_o _ (by decide)]
        have rO : ∀ a i, a ≠ 134 → ¬ (a = 123 ∧ (i = 13 ∨ i = 16)) → M' a i = M a i := fun a i x1 x2 => by
          rw [← hM']; unfold zset; rw [if_neg (fun z => x2 ⟨z.1, Or.inr z.2⟩), if_neg (fun z => x1 z.1), if_neg (fun z => x2 ⟨z.1, Or.inl z.2⟩)]
        have rR : ∀ a, a ≠ 134 → a ≠ 123 → M' a = M a := fun a x1 x2 => funext fun i => rO a i x1 (fun z => x2 z.1)
        refine h1 _ (p + 2) M' (by unfold ppl; rw [cif_f ok0, cif_t z, cif_t z2]) (by rw [← hM']; exact mrf_s (mrf_s (mrf_s mrf_r (by omega)) (by omega)) (by omega)) (by rw [rO 123 14 (by decide) (by omega)]; exact hR.1) ?_ ⟨⟨?_, fun v v0 v1 => ?_, fun l l0 l1 => ?_⟩, ?_, fun v v0 v1 => ?_⟩
        · rw [← hM', zrow_s, fset_o _ (by decide), zrow_o _ (by decide), zrow_s, fset_s]; omega
        · rw [rO 123 15 (by decide) (by omega), zrow_s, fset_o _ (by decide), zrow_s, fset_o _ (by decide)]; exact m1
        · have t1 : zset (zset P 4 0 (zor (P 4 0) (zshl 1 (b p - 97)))) 4 1 (zor (P 4 1) (zshl 1 (b p - 97))) 4 1 = zor (P 4 1) (zshl 1 (b p - 97)) := by rw [zrow_s, fset_s]
          have t0 : zset (zset P 4 0 (zor (P 4 0) (zshl 1 (b p - 97)))) 4 1 (zor (P 4 1) (zshl 1 (b p - 97))) 4 0 = zor (P 4 0) (zshl 1 (b p - 97)) := by rw [zrow_s, fset_o _ (by decide), zrow_s, fset_s]
          rw [t1, t0, tbs_or1 (by omega), tbs_or1 (by omega), r134]
          by_cases e : v = b p - 97
          · rw [e, fset_s]; exact ⟨⟨fun _ => rfl, fun _ => Or.inr rfl⟩, ⟨fun _ => by decide, fun _ => Or.inr rfl⟩, by omega, by omega⟩
          · rw [fset_o _ e]
            have := m2 v v0 v1
            exact ⟨⟨fun z => this.1.mp (z.elim id (fun y => absurd y e)), fun z => Or.inl (this.1.mpr z)⟩, ⟨fun z => this.2.1.mp (z.elim id (fun y => absurd y e)), fun z => Or.inl (this.2.1.mpr z)⟩, this.2.2.1, this.2.2.2⟩
        · have tO : ∀ a, a ≠ 4 → zset (zset P 4 0 (zor (P 4 0) (zshl 1 (b p - 97)))) 4 1 (zor (P 4 1) (zshl 1 (b p - 97))) a = P a := fun a ha => by rw [zrow_o _ ha, zrow_o _ ha]
          have t2 : zset (zset P 4 0 (zor (P 4 0) (zshl 1 (b p - 97)))) 4 1 (zor (P 4 1) (zshl 1 (b p - 97))) 4 2 = P 4 2 := by rw [zrow_s, fset_o _ (by decide), zrow_s, fset_o _ (by decide)]
          have t3 : zset (zset P 4 0 (zor (P 4 0) (zshl 1 (b p - 97)))) 4 1 (zor (P 4 1) (zshl 1 (b p - 97))) 4 3 = P 4 3 := by rw [zrow_s, fset_o _ (by decide), zrow_s, fset_o _ (by decide)]
          rw [t2] at l1
          rw [tO 6 (by decide), tO 7 (by decide), tO 8 (by decide), tO 9 (by decide), tO 20 (by decide), t3, rR 136 (by decide) (by decide), rR 137 (by decide) (by decide), rR 138 (by decide) (by decide), rR 139 (by decide) (by decide), rR 140 (by decide) (by decide), rR 141 (by decide) (by decide)]
          exact m3 l l0 l1
        · have t1 : zset (zset P 4 0 (zor (P 4 0) (zshl 1 (b p - 97)))) 4 1 (zor (P 4 1) (zshl 1 (b p - 97))) 4 1 = zor (P 4 1) (zshl 1 (b p - 97)) := by rw [zrow_s, fset_s]
          have hc : zor (P 4 1) (zshl 1 (b p - 97)) = zor (zshl 1 (b p - 97)) (P 4 1) := tbs_ext (zor_r _ _) (zor_r _ _) (fun i => by rw [tbs_or, tbs_or]; exact Or.comm)
          rw [t1, hc, pcard_add (by omega) (fun z => hnt (hw.1.2.2.1 _ z)), ← hM', zrow_s, fset_s]
        · rw [rR 135 (by decide) (by decide), zrow_o _ (by decide), zrow_o _ (by decide)]; exact m5 v v0 v1
      · rw [hb] at d
        refine o105 (m := 2) hR hq1 (Or.inl rfl) (fun z => absurd (by rw [hb]; exact d) z) (fun _ => ?_)
        rw [hb]
        have fb := pfv_b (b := b) (m := 2) (p := p + 1) (v := 0) (by omega)
        have fn := hfn 2 (p + 1) hq1.2
        have n59 : ¬ b (p + 1) = 59 := fun z => by unfold pdg at d; omega
        generalize hx : (pfv b 2 (p + 1) 0).1 = x at *
        generalize hqq : (pfv b 2 (p + 1) 0).2 = qq at *
        rw [mp_5]
        have base : mra (zset M 135 (b p - 97) x) := ⟨by rw [zrow_o _ (by decide)]; exact hR.1, by rw [zrow_o _ (by decide)]; exact hR.2.1, by rw [zrow_o _ (by decide), zrow_o _ (by decide)]; exact hR.2.2⟩
        have comm : ∀ q, zset (zset M 123 13 q) 135 (b p - 97) x = zset (zset M 135 (b p - 97) x) 123 13 q := fun q => by
          funext a i
          unfold zset
          by_cases z1 : a = 123 ∧ i = 13
          · rw [if_neg (fun z => by omega), if_pos z1, if_pos z1]
          · rw [if_neg z1, if_neg z1]
        rw [comm]
        refine o102 hR (by rw [mp_o _ _ (by omega), zrow_o _ (by decide)]) (by rw [mp_r _ _ (by decide), zrow_o _ (by decide)]) (by omega) ?_
        rw [hb]
        refine ⟨fun z => o104_0 base (by omega) ⟨fun _ => ?_, fun y => absurd rfl y⟩, fun z => o104_1 base (by omega) ⟨fun y => absurd y (by decide), fun _ => ?_⟩⟩
        · refine h0 qq _ (by unfold ppl; rw [cif_f ok0, cif_f n59, cif_f (fun y => y d), hqq, cif_f z]) (mrf_s (mrf_ft (mrf_s mrf_r (by omega))) (by omega)) (by rw [zrow_o _ (by decide), mft_14]) ?_
          have e134 : zset (mft (zset M 135 (b p - 97) x) qq) 134 (b p - 97) 0 134 = M 134 := by
            rw [zrow_s]
            funext i
            by_cases e : i = b p - 97
            · rw [e, fset_s]; exact q2.symm
            · rw [fset_o _ e, mft_o _ _ (by omega), zrow_o _ (by decide)]
          refine mR0_cg hm0 (by rw [zrow_o _ (by decide), mft_o _ _ (by omega), zrow_o _ (by decide)]) (fun a x1 x2 x3 => ?_)
          by_cases e : a = 134
          · rw [e]; exact e134
          · rw [zrow_o _ e]; funext i; rw [mft_o _ _ (by omega), zrow_o _ x3]
        · generalize hM' : zset (zset (zset M 135 (b p - 97) x) 123 13 (qq + 1)) 134 (b p - 97) 2 = M'
          have r134 : M' 134 = fset (M 134) (b p - 97) 2 := by rw [← hM', zrow_s, zrow_o _ (by decide), zrow_o _ (by decide)]
          have r135 : M' 135 = fset (M 135) (b p - 97) x := by rw [← hM', zrow_o _ (by decide), zrow_o _ (by decide), zrow_s]
          have rO : ∀ a i, a ≠ 134 → a ≠ 135 → ¬ (a = 123 ∧ i = 13) → M' a i = M a i := fun a i x1 x2 x3 => by
            rw [← hM']; unfold zset; rw [if_neg (fun z => x1 z.1), if_neg (fun z => x3 z), if_neg (fun z => x2 z.1)]
          have rR : ∀ a, a ≠ 134 → a ≠ 135 → a ≠ 123 → M' a = M a := fun a x1 x2 x3 => funext fun i => rO a i x1 x2 (fun z => x3 z.1)
          refine h1 _ (qq + 1) M' (by unfold ppl; rw [cif_f ok0, cif_f n59, cif_f (fun y => y d), hqq, hx, cif_t z]) (by rw [← hM']; exact mrf_s (mrf_s (mrf_s mrf_r (by omega)) (by omega)) (by omega)) (by rw [rO 123 14 (by decide) (by decide) (by omega)]; exact hR.1) ?_ ⟨⟨?_, fun v v0 v1 => ?_, fun l l0 l1 => ?_⟩, ?_, fun v v0 v1 => ?_⟩
          · rw [← hM', zrow_o _ (by decide), zrow_s, fset_s]
          · rw [rO 123 15 (by decide) (by decide) (by omega), zrow_o _ (by decide), zrow_s, fset_o _ (by decide)]; exact m1
          · have t1 : zset (zset P 4 0 (zor (P 4 0) (zshl 1 (b p - 97)))) 5 (b p - 97) x 4 1 = P 4 1 := by rw [zrow_o _ (by decide), zrow_s, fset_o _ (by decide)]
            have t0 : zset (zset P 4 0 (zor (P 4 0) (zshl 1 (b p - 97)))) 5 (b p - 97) x 4 0 = zor (P 4 0) (zshl 1 (b p - 97)) := by rw [zrow_o _ (by decide), zrow_s, fset_s]
            rw [t1, t0, tbs_or1 (by omega), r134]
            by_cases e : v = b p - 97
            · rw [e, fset_s]; exact ⟨⟨fun y => absurd (hw.1.2.2.1 _ y) hnt, fun y => absurd y (by decide)⟩, ⟨fun _ => by decide, fun _ => Or.inr rfl⟩, by omega, by omega⟩
            · rw [fset_o _ e]
              have := m2 v v0 v1
              exact ⟨this.1, ⟨fun z => this.2.1.mp (z.elim id (fun y => absurd y e)), fun z => Or.inl (this.2.1.mpr z)⟩, this.2.2.1, this.2.2.2⟩
          · have tO : ∀ a, a ≠ 4 → a ≠ 5 → zset (zset P 4 0 (zor (P 4 0) (zshl 1 (b p - 97)))) 5 (b p - 97) x a = P a := fun a ha hb => by rw [zrow_o _ hb, zrow_o _ ha]
            have t2 : zset (zset P 4 0 (zor (P 4 0) (zshl 1 (b p - 97)))) 5 (b p - 97) x 4 2 = P 4 2 := by rw [zrow_o _ (by decide), zrow_s, fset_o _ (by decide)]
            have t3 : zset (zset P 4 0 (zor (P 4 0) (zshl 1 (b p - 97)))) 5 (b p - 97) x 4 3 = P 4 3 := by rw [zrow_o _ (by decide), zrow_s, fset_o _ (by decide)]
            rw [t2] at l1
            rw [tO 6 (by decide) (by decide), tO 7 (by decide) (by decide), tO 8 (by decide) (by decide), tO 9 (by decide) (by decide), tO 20 (by decide) (by decide), t3, rR 136 (by decide) (by decide) (by decide), rR 137 (by decide) (by decide) (by decide), rR 138 (by decide) (by decide) (by decide), rR 139 (by decide) (by decide) (by decide), rR 140 (by decide) (by decide) (by decide), rR 141 (by decide) (by decide) (by decide)]
            exact m3 l l0 l1
          · have t1 : zset (zset P 4 0 (zor (P 4 0) (zshl 1 (b p - 97)))) 5 (b p - 97) x 4 1 = P 4 1 := by rw [zrow_o _ (by decide), zrow_s, fset_o _ (by decide)]
            rw [t1, rO 123 16 (by decide) (by decide) (by omega)]; exact m4
          · rw [r135, zrow_s, zrow_o _ (by decide)]
            by_cases e : v = b p - 97
            · rw [e, fset_s, fset_s]
            · rw [fset_o _ e, fset_o _ e]; exact m5 v v0 v1
end MR
