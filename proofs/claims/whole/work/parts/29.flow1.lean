/-! the class: enqueue, spread, growFrom -/
def tbs (x v : Int) : Prop := (0 ≤ v ∧ v < 32) ∧ tb x v = true
theorem tbs_or1 {s w x : Int} (hw : 0 ≤ w ∧ w < 32) : tbs (zor s (zshl 1 w)) x ↔ tbs s x ∨ x = w := by
  unfold tbs
  rw [tb_or]
  constructor
  · rintro ⟨h, h2⟩
    rw [tb_shl hw.1 hw.2 h.1 h.2, Bool.or_eq_true, decide_eq_true_eq] at h2
    rcases h2 with h2 | h2
    · exact Or.inl ⟨h, h2⟩
    · exact Or.inr h2
  · rintro (⟨h, h2⟩ | h)
    · exact ⟨h, by rw [h2]; rfl⟩
    · subst h
      exact ⟨hw, by rw [tb_shl hw.1 hw.2 hw.1 hw.2]; simp⟩
theorem tbs_shr {x k : Int} (hk : 0 ≤ k ∧ k < 32) : (zand (zshr x k) 1 = 0 ↔ ¬ tbs x k) := by
  rw [tb_shr hk.1 hk.2]
  unfold tbs
  cases h : tb x k
  · simp
  · simp [hk]
/-- the lines at each place -/
def zTL (M : zM) : Prop := ∀ v, 0 ≤ v → v < 16 → (0 ≤ M 10 v ∧ M 10 v ≤ M 10 (v + 1) ∧ M 10 (v + 1) ≤ 48)
  ∧ (∀ i, M 10 v ≤ i → i < M 10 (v + 1) → (0 ≤ M 11 i ∧ M 11 i < M 4 2) ∧ (M 6 (M 11 i) = v ∨ M 7 (M 11 i) = v))
  ∧ (∀ i j, M 10 v ≤ i → i < M 10 (v + 1) → M 10 v ≤ j → j < M 10 (v + 1) → M 11 i = M 11 j → i = j)
  ∧ (∀ l, 0 ≤ l → l < M 4 2 → (M 6 l = v ∨ M 7 l = v) → ∃ i, M 10 v ≤ i ∧ i < M 10 (v + 1) ∧ M 11 i = l)
/-- the class's net -/
def zWC (M : zM) : Prop :=
  (0 ≤ M 4 2 ∧ M 4 2 ≤ 24)
  ∧ (∀ v, tbs (M 4 0) v → v < 16) ∧ (∀ v, tbs (M 4 1) v → tbs (M 4 0) v)
  ∧ (∀ v, 0 ≤ v → v < 16 → (0 ≤ M 5 v ∧ M 5 v ≤ 99) ∧ (tbs (M 4 1) v → M 5 v = 0) ∧ (¬ tbs (M 4 0) v → M 5 v = 0))
  ∧ (∀ l, 0 ≤ l → l < M 4 2 → ((0 ≤ M 6 l ∧ M 6 l < 16) ∧ (0 ≤ M 7 l ∧ M 7 l < 16) ∧ ¬ M 6 l = M 7 l ∧ tbs (M 4 0) (M 6 l) ∧ tbs (M 4 0) (M 7 l)) ∧ (1 ≤ M 8 l ∧ M 8 l ≤ 99) ∧ (0 ≤ M 9 l ∧ M 9 l ≤ 999))
  ∧ zTL M
/-- only the flow's own cells -/
def zFf (f : Int) (M M' : zM) : Prop := ∀ a i : Int, ¬ (f ≤ a ∧ a ≤ f + 7) → M' a i = M a i
theorem zFf_r {f : Int} {M : zM} : zFf f M M := fun _ _ _ => rfl
theorem zFf_t {f : Int} {M M' M'' : zM} (h : zFf f M M') (g : zFf f M' M'') : zFf f M M'' := fun a i p => (g a i p).trans (h a i p)
theorem zFf_s {f : Int} {M M' : zM} {a i x : Int} (h : zFf f M M') (ha : f ≤ a ∧ a ≤ f + 7) : zFf f M (zset M' a i x) := fun b j p => by
  unfold zset
  rw [if_neg (fun z => by omega)]
  exact h b j p
theorem zFf_row {f : Int} {M M' : zM} (h : zFf f M M') {a : Int} (ha : ¬ (f ≤ a ∧ a ≤ f + 7)) : M' a = M a := funext fun i => h a i ha
theorem zWC_Ff {f : Int} {M M' : zM} (hf : f = 12 ∨ f = 20 ∨ f = 100 ∨ f = 115) (h : zFf f M M') : M' 4 = M 4 ∧ M' 5 = M 5 ∧ M' 6 = M 6 ∧ M' 7 = M 7 ∧ M' 8 = M 8 ∧ M' 9 = M 9 ∧ M' 10 = M 10 ∧ M' 11 = M 11 :=
  ⟨zFf_row h (by omega), zFf_row h (by omega), zFf_row h (by omega), zFf_row h (by omega), zFf_row h (by omega), zFf_row h (by omega), zFf_row h (by omega), zFf_row h (by omega)⟩
def zWF (M : zM) (f b k : Int) (D : Int → Prop) : Prop := zWK (tbs (M 4 1)) (M 6) (M 7) (M 4 2) (tbs (M f 0)) (tbs (M f 14)) (M (f + 1)) (M (f + 2)) (M (f + 3)) (M (f + 7)) (M f 13) b k D (M f 1)
/-- a place comes into the row -/
def zenq (M : zM) (f w r p d : Int) : zM := zset (zset (zset (zset (zset (zset M (f + 7) (M f 13) w) f 13 (M f 13 + 1)) f 14 (zor (M f 14) (zshl 1 w))) (f + 1) w r) (f + 2) w p) (f + 3) w d
section FL
variable {Q : Int → zM → Prop} {M : zM} {f : Int}
theorem c9 {w r p d : Int} (kf : zKT f = (2, 0)) (h0 : 0 ≤ M f 13 ∧ M f 13 < 16) (hw : 0 ≤ w ∧ w < 16) (h : Q 0 (zenq M f w r p d)) : zF 9 Q [(2, f), (0, w), (0, r), (0, p), (0, d)] M := by
  refine s9_0 kf ⟨fun _ => ⟨h0, hw, ?_⟩, fun q => absurd h0.2 q⟩
  rw [zw_id (by omega)]
  exact h
theorem zenq_f (w r p d : Int) : zFf f M (zenq M f w r p d) := zFf_s (zFf_s (zFf_s (zFf_s (zFf_s (zFf_s zFf_r (by omega)) (by omega)) (by omega)) (by omega)) (by omega)) (by omega)
theorem zenq_1 (w r p d : Int) : zenq M f w r p d (f + 1) = fset (M (f + 1)) w r := by
  unfold zenq
  rw [zrow_o _ (by omega), zrow_o _ (by omega), zrow_s, zrow_o _ (by omega), zrow_o _ (by omega), zrow_o _ (by omega)]
theorem zenq_2 (w r p d : Int) : zenq M f w r p d (f + 2) = fset (M (f + 2)) w p := by
  unfold zenq
  rw [zrow_o _ (by omega), zrow_s, zrow_o _ (by omega), zrow_o _ (by omega), zrow_o _ (by omega), zrow_o _ (by omega)]
theorem zenq_3 (w r p d : Int) : zenq M f w r p d (f + 3) = fset (M (f + 3)) w d := by
  unfold zenq
  rw [zrow_s, zrow_o _ (by omega), zrow_o _ (by omega), zrow_o _ (by omega), zrow_o _ (by omega), zrow_o _ (by omega)]
theorem zenq_7 (w r p d : Int) : zenq M f w r p d (f + 7) = fset (M (f + 7)) (M f 13) w := by
  unfold zenq
  rw [zrow_o _ (by omega), zrow_o _ (by omega), zrow_o _ (by omega), zrow_o _ (by omega), zrow_o _ (by omega), zrow_s]
theorem zenq_0 (w r p d : Int) : zenq M f w r p d f = fset (fset (M f) 13 (M f 13 + 1)) 14 (zor (M f 14) (zshl 1 w)) := by
  unfold zenq
  rw [zrow_o _ (by omega), zrow_o _ (by omega), zrow_o _ (by omega), zrow_s, zrow_s, zrow_o _ (by omega)]
/-- what was there stays -/
def zgr (f : Int) (M M' : zM) : Prop := zFf f M M' ∧ M f 13 ≤ M' f 13 ∧ M' f 0 = M f 0 ∧ M' f 2 = M f 2 ∧ (∀ i, 0 ≤ i → i < M f 13 → M' (f + 7) i = M (f + 7) i) ∧ (∀ v, tbs (M f 14) v → tbs (M' f 14) v ∧ (0 ≤ v → v < 16 → M' (f + 1) v = M (f + 1) v ∧ M' (f + 2) v = M (f + 2) v ∧ M' (f + 3) v = M (f + 3) v)) ∧ (∀ v, tbs (M' f 14) v → tbs (M f 14) v ∨ v < 16)
theorem zgr_r : zgr f M M := ⟨zFf_r, Int.le_refl _, rfl, rfl, fun _ _ _ => rfl, fun _ h => ⟨h, fun _ _ => ⟨rfl, rfl, rfl⟩⟩, fun _ h => Or.inl h⟩
theorem zgr_t {M' M'' : zM} (h : zgr f M M') (g : zgr f M' M'') : zgr f M M'' := by
  obtain ⟨h1, h2, h3, h4, h5, h6, h7⟩ := h
  obtain ⟨g1, g2, g3, g4, g5, g6, g7⟩ := g
  refine ⟨zFf_t h1 g1, by omega, g3.trans h3, g4.trans h4, fun i a b => (g5 i a (by omega)).trans (h5 i a b), fun v hv => ?_, fun v hv => (g7 v hv).elim (h7 v) Or.inr⟩
  obtain ⟨x1, x2⟩ := h6 v hv
  obtain ⟨y1, y2⟩ := g6 v x1
  refine ⟨y1, fun a b => ?_⟩
  obtain ⟨p1, p2, p3⟩ := x2 a b
  obtain ⟨q1, q2, q3⟩ := y2 a b
  exact ⟨q1.trans p1, q2.trans p2, q3.trans p3⟩
theorem zgr_e {w r p d : Int} (hw : 0 ≤ w ∧ w < 16) (hs : ¬ tbs (M f 14) w) : zgr f M (zenq M f w r p d) := by
  refine ⟨zenq_f w r p d, ?_, ?_, ?_, fun i a b => ?_, fun v hv => ⟨?_, fun _ _ => ?_⟩, fun v hv => ?_⟩
  · rw [zenq_0, fset_o _ (by decide), fset_s]; omega
  · rw [zenq_0, fset_o _ (by decide), fset_o _ (by decide)]
  · rw [zenq_0, fset_o _ (by decide), fset_o _ (by decide)]
  · rw [zenq_7, fset_o _ (by omega)]
  · rw [zenq_0, fset_s]; exact (tbs_or1 ⟨hw.1, by omega⟩).mpr (Or.inl hv)
  · have : v ≠ w := fun z => hs (by rw [← z]; exact hv)
    rw [zenq_1, zenq_2, zenq_3, fset_o _ this, fset_o _ this, fset_o _ this]
    exact ⟨rfl, rfl, rfl⟩
  · rw [zenq_0, fset_s] at hv
    rcases (tbs_or1 ⟨hw.1, by omega⟩).mp hv with z | z
    · exact Or.inl z
    · exact Or.inr (by omega)
theorem c22 {l v : Int} (hl : 0 ≤ l ∧ l < 24) (h : Q (if M 6 l = v then M 7 l else M 6 l) M) : zF 22 Q [(2, 4), (0, l), (0, v)] M := by
  refine s22_0 (w := 4) rfl ⟨hl, fun q => ?_, fun q => ?_⟩
  · have q' : ¬ M 6 l = v := q
    rw [if_neg q'] at h; exact h
  · have q' : M 6 l = v := q
    rw [if_pos q'] at h; exact h
/-- all lines of a place are looked at -/
theorem c8 (kf : zKT f = (2, 0)) (hW : zWC M) {b k : Int} (hB : zWF M f b k (fun _ => False)) (hk : k < M f 13) (hQ : ∀ M', zgr f M M' → zWF M' f b (k + 1) (fun _ => False) → Q 0 M') : zF 8 Q [(2, f), (2, 4), (0, M (f + 7) k)] M := by
  have hf := zin_0 kf
  have hkv : ∀ M', zgr f M M' → M' (f + 7) k = M (f + 7) k := fun M' g => g.2.2.2.2.1 k (by have := hB.1; omega) hk
  have hv := (hB.2.1 k (by have := hB.1; omega) hk).1
  generalize hvv : M (f + 7) k = v at hv
  have hT := hW.2.2.2.2.2 v hv.1 hv.2
  have hm := hW.1
  have key : ∀ (n : Nat) (M' : zM) (t : Int), t + n = M 10 (v + 1) → M 10 v ≤ t → zgr f M M' → zWF M' f b k (fun l => ∃ i, M 10 v ≤ i ∧ i < t ∧ M 11 i = l) → k < M' f 13 → zS 8 Q 7 [(2, f), (2, 4), (0, v), (0, t), (3, 0), (3, 0)] [] M' := by
    intro n
    induction n with
    | zero =>
      intro M' t hn ht hg hB' hk'
      obtain ⟨e4, e5, e6, e7, e8, e9, e10, e11⟩ := zWC_Ff hf hg.1
      refine s8_7 kf ⟨by rw [zw_id (by omega)]; omega, fun q => ?_, fun q => ?_⟩
      · refine hQ M' hg (zWK_next hB' hk' (fun l u h0 h1 h2 => ?_) (fun _ z => z))
        rw [e6, e7, hkv M' hg, hvv] at h2
        rw [e4] at h1
        obtain ⟨i, i1, i2, i3⟩ := hT.2.2.2 l h0 h1 (by unfold zbt at h2; rcases h2 with ⟨x, y⟩ | ⟨x, y⟩ <;> omega)
        exact ⟨i, i1, by omega, i3⟩
      · rw [zw_id (by omega), e10] at q; omega
    | succ n ih =>
      intro M' t hn ht hg hB' hk'
      obtain ⟨e4, e5, e6, e7, e8, e9, e10, e11⟩ := zWC_Ff hf hg.1
      have hp := hT.2.1 t ht (by omega)
      have hl := (hW.2.2.2.2.1 (M 11 t) hp.1.1 hp.1.2).1
      have hkq : M' (f + 7) k = v := (hkv M' hg).trans hvv
      have k0 : 0 ≤ k := by have := hB'.1; omega
      have next : ∀ M2, zgr f M M2 → zWF M2 f b k (fun l => ∃ i, M 10 v ≤ i ∧ i < t + 1 ∧ M 11 i = l) → k < M2 f 13 → zS 8 Q 7 [(2, f), (2, 4), (0, v), (0, zw (t + 1)), (3, 0), (3, 0)] [] M2 := fun M2 g1 g2 g3 => by
        rw [zw_id (by omega)]
        exact ih M2 (t + 1) (by omega) (by omega) g1 g2 g3
      have hDD : ∀ l, (∃ i, M 10 v ≤ i ∧ i < t + 1 ∧ M 11 i = l) ↔ (∃ i, M 10 v ≤ i ∧ i < t ∧ M 11 i = l) ∨ l = M 11 t := fun l => by
        constructor
        · rintro ⟨i, i1, i2, i3⟩
          by_cases z : i = t
          · exact Or.inr (by rw [← i3, z])
          · exact Or.inl ⟨i, i1, by omega, i3⟩
        · rintro (⟨i, i1, i2, i3⟩ | z)
          · exact ⟨i, i1, by omega, i3⟩
          · exact ⟨t, ht, by omega, z.symm⟩
      have hp32 : 0 ≤ M 11 t ∧ M 11 t < 32 := by omega
      refine s8_7 kf ?_
      rw [zw_id (x := v + 1) (by omega), e10, e11]
      refine ⟨by omega, fun q => absurd q (by omega), fun _ => ⟨by omega, fun q => ?_, fun q => ⟨hv, fun q2 => ?_, fun q2 => ?_⟩⟩⟩
      · rw [tbs_shr hp32] at q
        exact next M' hg (zWK_skip hB' (fun z => absurd z q) hDD) hk'
      · rw [tbs_shr hp32] at q
        have q' : tbs (M' f 0) (M 11 t) := Classical.byContradiction q
        refine c22 (by omega) ?_
        rw [e6, e7]
        generalize hw : (if M 6 (M 11 t) = v then M 7 (M 11 t) else M 6 (M 11 t)) = w
        have hb : zbt (M' 6) (M' 7) (M 11 t) (M' (f + 7) k) w := by
          rw [e6, e7, hkq]
          unfold zbt
          by_cases z : M 6 (M 11 t) = v
          · rw [if_pos z] at hw; exact Or.inl ⟨z, hw⟩
          · rw [if_neg z] at hw
            rcases hp.2 with y | y
            · exact absurd y z
            · exact Or.inr ⟨hw, y⟩
        have hwr : 0 ≤ w ∧ w < 16 := by rw [← hw]; split <;> omega
        have hne : ¬ M' 6 (M 11 t) = M' 7 (M 11 t) := by rw [e6, e7]; exact hl.2.2.1
        refine ⟨fun q3 => ?_, fun q3 => ?_⟩
        · rw [tbs_shr ⟨hwr.1, by omega⟩] at q3
          have hde := (hB'.2.1 k k0 hk')
          rw [hkq] at hde
          obtain ⟨a1, a2⟩ := zWK_add (sn' := tbs (zor (M' f 14) (zshl 1 w))) (D' := fun l => ∃ i, M 10 v ≤ i ∧ i < t + 1 ∧ M 11 i = l) hB' hk' (by rw [e4]; exact hp.1) q' hwr hb q3 hne (fun x => tbs_or1 ⟨hwr.1, by omega⟩) hDD
          refine c9 kf ⟨by have := hB'.1; omega, a1⟩ hwr (next _ (zgr_t hg (zgr_e hwr q3)) ?_ ?_)
          · unfold zWF
            rw [zenq_1, zenq_2, zenq_3, zenq_7, zenq_0, zFf_row (zenq_f w _ _ _) (by omega : ¬ (f ≤ 4 ∧ 4 ≤ f + 7)), zFf_row (zenq_f w _ _ _) (by omega : ¬ (f ≤ 6 ∧ 6 ≤ f + 7)), zFf_row (zenq_f w _ _ _) (by omega : ¬ (f ≤ 7 ∧ 7 ≤ f + 7))]
            rw [fset_s, fset_o _ (show (13 : Int) ≠ 14 by decide), fset_s, fset_o _ (show (0 : Int) ≠ 14 by decide), fset_o _ (show (0 : Int) ≠ 13 by decide), fset_o _ (show (1 : Int) ≠ 14 by decide), fset_o _ (show (1 : Int) ≠ 13 by decide), zw_id (by omega)]
            rw [hkq] at a2
            exact a2
          · rw [zenq_0, fset_o _ (by decide), fset_s]; omega
        · rw [tbs_shr ⟨hwr.1, by omega⟩] at q3
          have q3' : tbs (M' f 14) w := Classical.byContradiction q3
          have hbk : ¬ M 11 t = M' (f + 2) (M' (f + 7) k) := by rw [hkq]; exact q2
          have hr := zWK_rad (D' := fun l => ∃ i, M 10 v ≤ i ∧ i < t + 1 ∧ M 11 i = l) hB' hk' (by rw [e4]; exact hp.1) q' hwr hb q3' hne hbk (fun z => by
            obtain ⟨i, i1, i2, i3⟩ := z
            have := hT.2.2.1 i t i1 (by omega) ht (by omega) i3
            omega) hDD
          have ro : ∀ x, x ≠ f → zset M' f 1 0 x = M' x := fun x h => zrow_o _ h
          refine next _ (zgr_t hg ⟨zFf_s zFf_r (by omega), ?_, ?_, ?_, fun i _ _ => by rw [ro _ (by omega)], fun x hx => ⟨?_, fun _ _ => by rw [ro _ (by omega), ro _ (by omega), ro _ (by omega)]; exact ⟨rfl, rfl, rfl⟩⟩, fun x hx => Or.inl (by rw [zrow_s, fset_o _ (by decide)] at hx; exact hx)⟩) ?_ ?_
          · rw [zrow_s, fset_o _ (by decide)]; omega
          · rw [zrow_s, fset_o _ (by decide)]
          · rw [zrow_s, fset_o _ (by decide)]
          · rw [zrow_s, fset_o _ (by decide)]; exact hx
          · unfold zWF
            rw [ro 4 (by omega), ro 6 (by omega), ro 7 (by omega), ro (f + 1) (by omega), ro (f + 2) (by omega), ro (f + 3) (by omega), ro (f + 7) (by omega), zrow_s, fset_o _ (show (0 : Int) ≠ 1 by decide), fset_o _ (show (14 : Int) ≠ 1 by decide), fset_o _ (show (13 : Int) ≠ 1 by decide), fset_s]
            exact hr
          · rw [zrow_s, fset_o _ (by decide)]; exact hk'
      · refine next M' hg (zWK_skip hB' (fun _ u hu => ?_) hDD) hk'
        have hbk : M' (f + 2) (M' (f + 7) k) = M 11 t := by rw [hkq]; exact q2.symm
        rcases hB'.2.2.2.2.1 k k0 hk' with g | ⟨g1, j, g2, g3, g4, g5, g6, g7⟩
        · omega
        · rw [hbk] at g5
          have hne : ¬ M' 6 (M 11 t) = M' 7 (M 11 t) := by rw [e6, e7]; exact hl.2.2.1
          have := zbt_u hne hu (zbt_s g5)
          subst this
          exact ⟨(hB'.2.1 j g2 (by omega)).2.1, Or.inl g6, fun _ => Or.inl hbk⟩
  refine s8_0 kf ⟨by omega, ?_⟩
  exact key (M 10 (v + 1) - M 10 v).toNat M (M 10 v) (by omega) (Int.le_refl _) zgr_r (by
    have e : (fun l => ∃ i, M 10 v ≤ i ∧ i < M 10 v ∧ M 11 i = l) = fun _ => False := funext fun l => propext ⟨fun ⟨i, i1, i2, _⟩ => by omega, fun z => z.elim⟩
    rw [e]; exact hB) hk
/-- from a place of the row on, all lines -/
theorem c7 (kf : zKT f = (2, 0)) (hW : zWC M) {b k : Int} (hB : zWF M f b k (fun _ => False)) (hQ : ∀ M', zgr f M M' → zWF M' f b (M' f 13) (fun _ => False) → Q 0 M') : zF 7 Q [(2, f), (2, 4), (0, k)] M := by
  have hf := zin_0 kf
  have key : ∀ (n : Nat) (M' : zM) (t : Int), 16 - t ≤ n → zgr f M M' → zWF M' f b t (fun _ => False) → zS 7 Q 2 [(2, f), (2, 4), (0, k), (0, t)] [] M' := by
    intro n
    induction n with
    | zero =>
      intro M' t hn hg hB'
      have a := hB'.1
      refine s7_2 kf ⟨fun q => ?_, fun q => absurd q (by omega)⟩
      refine hQ M' hg ?_
      rw [show M' f 13 = t by omega]; exact hB'
    | succ n ih =>
      intro M' t hn hg hB'
      have a := hB'.1
      refine s7_2 kf ⟨fun q => ?_, fun q => ⟨fun q2 => absurd q2 (by omega), fun q2 => ⟨by omega, ?_⟩⟩⟩
      · refine hQ M' hg ?_
        rw [show M' f 13 = t by omega]; exact hB'
      · refine c8 kf ?_ hB' q (fun M2 hg2 hB2 => ?_)
        · obtain ⟨e4, e5, e6, e7, e8, e9, e10, e11⟩ := zWC_Ff hf hg.1
          unfold zWC zTL at hW ⊢
          rw [e4, e5, e6, e7, e8, e9, e10, e11]; exact hW
        · rw [zw_id (by omega)]
          exact ih M2 (t + 1) (by omega) (zgr_t hg hg2) hB2
  exact s7_0 kf (key (16 - k).toNat M k (by omega) zgr_r hB)
end FL
