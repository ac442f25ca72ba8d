/-! rows of the memory; pigeonholes; what a walk from the feeders leaves -/
def fset (f : Int → Int) (i x : Int) : Int → Int := fun j => if j = i then x else f j
theorem fset_s (f : Int → Int) (i x : Int) : fset f i x i = x := by unfold fset; rw [if_pos rfl]
theorem fset_o (f : Int → Int) {i x j : Int} (h : j ≠ i) : fset f i x j = f j := by unfold fset; rw [if_neg h]
theorem zrow_s (M : zM) (a i x : Int) : zset M a i x a = fset (M a) i x := zset_at M a i x
theorem zrow_o (M : zM) {a i x b : Int} (h : b ≠ a) : zset M a i x b = M b := zset_row M a i x b h
theorem pig : ∀ (m n : Nat) (f : Nat → Nat), (∀ i, i < n → f i < m) → (∀ i j, i < n → j < n → f i = f j → i = j) → n ≤ m
  | 0, n, f, h, _ => by
    rcases Nat.eq_zero_or_pos n with q | q
    · omega
    · exact absurd (h 0 q) (by omega)
  | m + 1, 0, f, _, _ => by omega
  | m + 1, k + 1, f, h, inj => by
    have := pig m k (fun i => if f i = m then f k else f i) (fun i hi => by
      split
      · rename_i q
        have h1 := h k (by omega)
        have : f k ≠ m := fun z => by have := inj i k (by omega) (by omega) (by omega); omega
        omega
      · have := h i (by omega); omega) (fun i j hi hj q => by
      split at q <;> split at q
      · exact inj i j (by omega) (by omega) (by omega)
      · have := inj k j (by omega) (by omega) q; omega
      · have := inj i k (by omega) (by omega) q; omega
      · exact inj i j (by omega) (by omega) q)
    omega
/-- so many different places, all below b -/
theorem pigI {f : Int → Int} {n b : Int} (h : ∀ i, 0 ≤ i → i < n → 0 ≤ f i ∧ f i < b) (inj : ∀ i j, 0 ≤ i → i < n → 0 ≤ j → j < n → f i = f j → i = j) (hb : 0 ≤ b) : n ≤ b := by
  rcases Int.lt_or_le n 0 with q | q
  · omega
  · have := pig b.toNat n.toNat (fun i => (f i).toNat) (fun i hi => by have := h i (by omega) (by omega); omega) (fun i j hi hj e => by
      have h1 := h i (by omega) (by omega)
      have h2 := h j (by omega) (by omega)
      have := inj i j (by omega) (by omega) (by omega) (by omega) (by omega)
      omega)
    omega
/-- line l goes between u and v -/
def zbt (fi se : Int → Int) (l u v : Int) : Prop := (fi l = u ∧ se l = v) ∨ (fi l = v ∧ se l = u)
/-- the walk from the feeders: on places stand in the row ro, k of them done, of that at k the lines below p -/
def zLB (ki is fi se : Int → Int) (m : Int) (fe by' de ro : Int → Int) (on k p : Int) : Prop :=
  (0 ≤ k ∧ k ≤ on ∧ on ≤ 16)
  ∧ (∀ i, 0 ≤ i → i < on → (0 ≤ ro i ∧ ro i < 16) ∧ ¬ fe (ro i) = -1 ∧ 0 ≤ de (ro i) ∧ de (ro i) ≤ i)
  ∧ (∀ i j, 0 ≤ i → i < on → 0 ≤ j → j < on → ro i = ro j → i = j)
  ∧ (∀ v, 0 ≤ v → v < 16 → ¬ fe v = -1 → (0 ≤ fe v ∧ fe v < 16 ∧ ki (fe v) = 1) ∧ ∃ i, 0 ≤ i ∧ i < on ∧ ro i = v)
  ∧ (∀ v, 0 ≤ v → v < 16 → ki v = 1 → fe v = v ∧ by' v = -1 ∧ de v = 0)
  ∧ (∀ v, 0 ≤ v → v < 16 → ¬ ki v = 1 → fe v = -1 → by' v = -1 ∧ de v = -1)
  ∧ (∀ i, 0 ≤ i → i < on → ¬ ki (ro i) = 1 → (0 ≤ by' (ro i) ∧ by' (ro i) < m ∧ is (by' (ro i)) = 1) ∧ ∃ j, 0 ≤ j ∧ j < i ∧ zbt fi se (by' (ro i)) (ro j) (ro i) ∧ fe (ro i) = fe (ro j) ∧ de (ro i) = de (ro j) + 1)
  ∧ (∀ i l u, 0 ≤ i → i < on → 0 ≤ l → l < m → is l = 1 → (i < k ∨ (i = k ∧ l < p)) → zbt fi se l (ro i) u → ¬ fe u = -1)
/-- a place is met -/
theorem zLB_add {ki is fi se : Int → Int} {m : Int} {fe by' de ro : Int → Int} {on k p w : Int} (h : zLB ki is fi se m fe by' de ro on k p) (hk : k < on) (hp : 0 ≤ p ∧ p < m) (hc : is p = 1) (hw : 0 ≤ w ∧ w < 16) (hb : zbt fi se p (ro k) w) (hu : fe w = -1) (hne : ¬ fi p = se p) : on < 16 ∧ zLB ki is fi se m (fset fe w (fe (ro k))) (fset by' w p) (fset de w (de (ro k) + 1)) (fset ro on w) (on + 1) k (p + 1) := by
  obtain ⟨⟨a1, a2, a3⟩, b, c, d, e, f, g, j⟩ := h
  have hkr := b k a1 hk
  have hwr : ∀ i, 0 ≤ i → i < on → ro i ≠ w := fun i h0 h1 q => (b i h0 h1).2.1 (by rw [q]; exact hu)
  have hki : ¬ ki w = 1 := fun q => by have := (e w hw.1 hw.2 q).1; omega
  have hon : on + 1 ≤ 16 := by
    refine pigI (f := fset ro on w) (n := on + 1) (b := 16) (fun i h0 h1 => ?_) (fun i i2 h0 h1 h2 h3 q => ?_) (by omega)
    · by_cases z : i = on
      · subst z; rw [fset_s]; exact hw
      · rw [fset_o _ z]; exact (b i h0 (by omega)).1
    · by_cases z : i = on
      · by_cases z2 : i2 = on
        · omega
        · rw [z, fset_s, fset_o _ z2] at q; exact absurd q.symm (hwr i2 h2 (by omega))
      · by_cases z2 : i2 = on
        · rw [z2, fset_s, fset_o _ z] at q; exact absurd q (hwr i h0 (by omega))
        · rw [fset_o _ z, fset_o _ z2] at q; exact c i i2 h0 (by omega) h2 (by omega) q
  have hfk := d (ro k) hkr.1.1 hkr.1.2 hkr.2.1
  have rO : ∀ i, 0 ≤ i → i < on → fset ro on w i = ro i := fun i _ h1 => fset_o _ (by omega)
  have fO : ∀ v, v ≠ w → fset fe w (fe (ro k)) v = fe v := fun v q => fset_o _ q
  have fW : fset fe w (fe (ro k)) w = fe (ro k) := fset_s _ _ _
  refine ⟨by omega, ⟨by omega, by omega, by omega⟩, ?_, ?_, ?_, ?_, ?_, ?_, ?_⟩
  · intro i h0 h1
    by_cases z : i = on
    · rw [z, fset_s, fset_s, fset_s]
      refine ⟨hw, hkr.2.1, by omega, by omega⟩
    · rw [rO i h0 (by omega), fO _ (hwr i h0 (by omega)), fset_o _ (hwr i h0 (by omega))]
      exact b i h0 (by omega)
  · intro i i2 h0 h1 h2 h3 q
    by_cases z : i = on
    · by_cases z2 : i2 = on
      · omega
      · rw [z, fset_s, fset_o _ z2] at q; exact absurd q.symm (hwr i2 h2 (by omega))
    · by_cases z2 : i2 = on
      · rw [z2, fset_s, fset_o _ z] at q; exact absurd q (hwr i h0 (by omega))
      · rw [fset_o _ z, fset_o _ z2] at q; exact c i i2 h0 (by omega) h2 (by omega) q
  · intro v h0 h1 q
    by_cases z : v = w
    · rw [z, fW]
      exact ⟨hfk.1, on, by omega, by omega, fset_s _ _ _⟩
    · rw [fO v z] at q ⊢
      obtain ⟨d1, i, d2, d3, d4⟩ := d v h0 h1 q
      exact ⟨d1, i, d2, by omega, by rw [rO i d2 d3]; exact d4⟩
  · intro v h0 h1 q
    have z : v ≠ w := fun z => hki (by rw [← z]; exact q)
    rw [fO v z, fset_o _ z, fset_o _ z]
    exact e v h0 h1 q
  · intro v h0 h1 q q2
    by_cases z : v = w
    · rw [z, fW] at q2; exact absurd q2 hkr.2.1
    · rw [fO v z] at q2
      rw [fset_o _ z, fset_o _ z]
      exact f v h0 h1 q q2
  · intro i h0 h1 q
    by_cases z : i = on
    · rw [z, fset_s, fset_s, fset_s, fset_s]
      refine ⟨⟨hp.1, hp.2, hc⟩, k, a1, hk, ?_, ?_, ?_⟩
      · rw [rO k a1 hk]; exact hb
      · rw [rO k a1 hk, fO _ (hwr k a1 hk)]
      · rw [rO k a1 hk, fset_o _ (hwr k a1 hk)]
    · have hi : i < on := by omega
      rw [rO i h0 hi] at q ⊢
      rw [fset_o _ (hwr i h0 hi), fO _ (hwr i h0 hi), fset_o _ (hwr i h0 hi)]
      obtain ⟨g1, j2, g2, g3, g4, g5, g6⟩ := g i h0 hi q
      refine ⟨g1, j2, g2, g3, ?_, ?_, ?_⟩
      · rw [rO j2 g2 (by omega)]; exact g4
      · rw [rO j2 g2 (by omega), fO _ (hwr j2 g2 (by omega))]; exact g5
      · rw [rO j2 g2 (by omega), fset_o _ (hwr j2 g2 (by omega))]; exact g6
  · intro i l u h0 h1 h2 h3 h4 h5 h6
    have hi : i < on := by omega
    rw [rO i h0 hi] at h6
    by_cases z : u = w
    · rw [z, fW]; exact hkr.2.1
    · rw [fO u z]
      rcases h5 with h5 | ⟨h5, h7⟩
      · exact j i l u h0 hi h2 h3 h4 (Or.inl h5) h6
      · by_cases z2 : l = p
        · exfalso
          subst z2; subst h5
          unfold zbt at h6 hb
          rcases h6 with ⟨x1, x2⟩ | ⟨x1, x2⟩ <;> rcases hb with ⟨y1, y2⟩ | ⟨y1, y2⟩ <;> omega
        · exact j i l u h0 hi h2 h3 h4 (Or.inr ⟨h5, by omega⟩) h6
/-- a line leads nowhere new -/
theorem zLB_skip {ki is fi se : Int → Int} {m : Int} {fe by' de ro : Int → Int} {on k p : Int} (h : zLB ki is fi se m fe by' de ro on k p) (hs : is p = 1 → ∀ u, zbt fi se p (ro k) u → ¬ fe u = -1) : zLB ki is fi se m fe by' de ro on k (p + 1) := by
  obtain ⟨a, b, c, d, e, f, g, j⟩ := h
  refine ⟨a, b, c, d, e, f, g, fun i l u h0 h1 h2 h3 h4 h5 h6 => ?_⟩
  rcases h5 with h5 | ⟨h5, h7⟩
  · exact j i l u h0 h1 h2 h3 h4 (Or.inl h5) h6
  · by_cases z : l = p
    · subst z; subst h5; exact hs h4 u h6
    · exact j i l u h0 h1 h2 h3 h4 (Or.inr ⟨h5, by omega⟩) h6
/-- a place is done -/
theorem zLB_next {ki is fi se : Int → Int} {m : Int} {fe by' de ro : Int → Int} {on k p : Int} (h : zLB ki is fi se m fe by' de ro on k p) (hk : k < on) (hp : m ≤ p) : zLB ki is fi se m fe by' de ro on (k + 1) 0 := by
  obtain ⟨a, b, c, d, e, f, g, j⟩ := h
  refine ⟨by omega, b, c, d, e, f, g, fun i l u h0 h1 h2 h3 h4 h5 h6 => ?_⟩
  rcases h5 with h5 | ⟨h5, h7⟩
  · by_cases z : i = k
    · exact j i l u h0 h1 h2 h3 h4 (Or.inr ⟨z, by omega⟩) h6
    · exact j i l u h0 h1 h2 h3 h4 (Or.inl (by omega)) h6
  · omega
/-- what the walk leaves -/
def zTS (ki is fi se : Int → Int) (m : Int) (fe by' de : Int → Int) : Prop :=
  (∀ v, 0 ≤ v → v < 16 → ki v = 1 → fe v = v ∧ by' v = -1 ∧ de v = 0)
  ∧ (∀ v, 0 ≤ v → v < 16 → ¬ ki v = 1 → fe v = -1 → by' v = -1 ∧ de v = -1)
  ∧ (∀ v, 0 ≤ v → v < 16 → ¬ fe v = -1 → (0 ≤ fe v ∧ fe v < 16 ∧ ki (fe v) = 1) ∧ 0 ≤ de v ∧ de v < 16)
  ∧ (∀ v, 0 ≤ v → v < 16 → ¬ ki v = 1 → ¬ fe v = -1 → (0 ≤ by' v ∧ by' v < m ∧ is (by' v) = 1) ∧ ∃ u, (0 ≤ u ∧ u < 16) ∧ zbt fi se (by' v) u v ∧ ¬ fe u = -1 ∧ fe v = fe u ∧ de v = de u + 1)
  ∧ (∀ l u v, 0 ≤ l → l < m → is l = 1 → zbt fi se l u v → (0 ≤ u ∧ u < 16) → (0 ≤ v ∧ v < 16) → ¬ fe u = -1 → ¬ fe v = -1)
theorem zLB_TS {ki is fi se : Int → Int} {m : Int} {fe by' de ro : Int → Int} {on : Int} (h : zLB ki is fi se m fe by' de ro on on 0) : zTS ki is fi se m fe by' de := by
  obtain ⟨a, b, c, d, e, f, g, j⟩ := h
  refine ⟨e, f, fun v h0 h1 q => ?_, fun v h0 h1 q q2 => ?_, fun l u v h0 h1 h2 h3 h4 h5 q => ?_⟩
  · obtain ⟨d1, i, d2, d3, d4⟩ := d v h0 h1 q
    have := b i d2 d3
    rw [d4] at this
    exact ⟨d1, this.2.2.1, by omega⟩
  · obtain ⟨d1, i, d2, d3, d4⟩ := d v h0 h1 q2
    have := g i d2 d3 (by rw [d4]; exact q)
    rw [d4] at this
    obtain ⟨g1, i2, g2, g3, g4, g5, g6⟩ := this
    have hb := b i2 g2 (by omega)
    exact ⟨g1, ro i2, hb.1, g4, hb.2.1, g5, g6⟩
  · obtain ⟨d1, i, d2, d3, d4⟩ := d u h4.1 h4.2 q
    exact j i l v d2 d3 h0 h1 h2 (Or.inl (by omega)) (by rw [d4]; exact h3)
