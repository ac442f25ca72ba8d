/-! the class's walk: first from the feeders, then through the dark, tree by tree; b: where the last tree begins -/
def zsame (fd : Int → Prop) (rt : Int → Int) (x y : Int) : Prop := rt x = rt y ∨ (fd (rt x) ∧ fd (rt y))
def zWK (fd : Int → Prop) (fi se : Int → Int) (m : Int) (cl sn : Int → Prop) (rt by' de qu : Int → Int) (qn b k : Int) (D : Int → Prop) (rad : Int) : Prop :=
  (0 ≤ b ∧ b ≤ k ∧ k ≤ qn ∧ qn ≤ 16)
  ∧ (∀ i, 0 ≤ i → i < qn → (0 ≤ qu i ∧ qu i < 16) ∧ sn (qu i) ∧ 0 ≤ de (qu i) ∧ de (qu i) ≤ i)
  ∧ (∀ i j, 0 ≤ i → i < qn → 0 ≤ j → j < qn → qu i = qu j → i = j)
  ∧ (∀ v, 0 ≤ v → v < 16 → sn v → ∃ i, 0 ≤ i ∧ i < qn ∧ qu i = v)
  ∧ (∀ i, 0 ≤ i → i < qn → (by' (qu i) = -1 ∧ de (qu i) = 0 ∧ rt (qu i) = qu i) ∨ ((0 ≤ by' (qu i) ∧ by' (qu i) < m ∧ cl (by' (qu i))) ∧ ∃ j, 0 ≤ j ∧ j < i ∧ (j < k ∨ (j = k ∧ D (by' (qu i)))) ∧ zbt fi se (by' (qu i)) (qu j) (qu i) ∧ rt (qu i) = rt (qu j) ∧ de (qu i) = de (qu j) + 1))
  ∧ (∀ i l u, 0 ≤ i → i < qn → 0 ≤ l → l < m → cl l → (i < k ∨ (i = k ∧ D l)) → zbt fi se l (qu i) u → sn u ∧ zsame fd rt (qu i) u ∧ (rad = 1 → by' (qu i) = l ∨ by' u = l))
  ∧ (rad = 1 ∨ (rad = 0 ∧ ∃ l x y, (0 ≤ l ∧ l < m ∧ cl l) ∧ zbt fi se l x y ∧ ((0 ≤ x ∧ x < 16) ∧ sn x ∧ ¬ by' x = l) ∧ ((0 ≤ y ∧ y < 16) ∧ sn y ∧ ¬ by' y = l) ∧ zsame fd rt x y))
  ∧ (∀ i l u, 0 ≤ i → i < b → 0 ≤ l → l < m → cl l → zbt fi se l (qu i) u → ∃ j, 0 ≤ j ∧ j < b ∧ qu j = u)
  ∧ (∀ i j, b ≤ i → i < qn → b ≤ j → j < qn → zsame fd rt (qu i) (qu j))
theorem zbt_u {fi se : Int → Int} {l x y z : Int} (hne : ¬ fi l = se l) (h : zbt fi se l x y) (g : zbt fi se l x z) : y = z := by
  unfold zbt at h g
  rcases h with ⟨a, b⟩ | ⟨a, b⟩ <;> rcases g with ⟨c, d⟩ | ⟨c, d⟩ <;> omega
theorem zbt_s {fi se : Int → Int} {l x y : Int} (h : zbt fi se l x y) : zbt fi se l y x := by
  unfold zbt at h ⊢
  rcases h with h | h
  · exact Or.inr h
  · exact Or.inl h
section WK
variable {fd : Int → Prop} {fi se : Int → Int} {m : Int} {cl sn sn' D D' : Int → Prop} {rt by' de qu : Int → Int} {qn b k p w rad : Int}
/-- a place is met by line p -/
theorem zWK_add (h : zWK fd fi se m cl sn rt by' de qu qn b k D rad) (hk : k < qn) (hp : 0 ≤ p ∧ p < m) (hc : cl p) (hw : 0 ≤ w ∧ w < 16) (hb : zbt fi se p (qu k) w) (hu : ¬ sn w) (hne : ¬ fi p = se p) (hsn : ∀ x, sn' x ↔ sn x ∨ x = w) (hD : ∀ x, D' x ↔ D x ∨ x = p) : qn < 16 ∧ zWK fd fi se m cl sn' (fset rt w (rt (qu k))) (fset by' w p) (fset de w (de (qu k) + 1)) (fset qu qn w) (qn + 1) b k D' rad := by
  obtain ⟨⟨a0, a1, a2, a3⟩, c2, c3, c4, c5, c6, c7, c8, c9⟩ := h
  have k0 : 0 ≤ k := by omega
  have hkr := c2 k k0 hk
  have hwr : ∀ i, 0 ≤ i → i < qn → qu i ≠ w := fun i h0 h1 q => hu (by rw [← q]; exact (c2 i h0 h1).2.1)
  have qO : ∀ i, i < qn → fset qu qn w i = qu i := fun i h1 => fset_o _ (by omega)
  have hqn : qn + 1 ≤ 16 := by
    refine pigI (f := fset qu qn w) (n := qn + 1) (b := 16) (fun i h0 h1 => ?_) (fun i j h0 h1 h2 h3 q => ?_) (by omega)
    · by_cases z : i = qn
      · subst z; rw [fset_s]; exact hw
      · rw [fset_o _ z]; exact (c2 i h0 (by omega)).1
    · by_cases z : i = qn
      · by_cases z2 : j = qn
        · omega
        · rw [z, fset_s, fset_o _ z2] at q; exact absurd q.symm (hwr j h2 (by omega))
      · by_cases z2 : j = qn
        · rw [z2, fset_s, fset_o _ z] at q; exact absurd q (hwr i h0 (by omega))
        · rw [fset_o _ z, fset_o _ z2] at q; exact c3 i j h0 (by omega) h2 (by omega) q
  have rO : ∀ x, x ≠ w → fset rt w (rt (qu k)) x = rt x := fun x q => fset_o _ q
  have rW : fset rt w (rt (qu k)) w = rt (qu k) := fset_s _ _ _
  have bO : ∀ x, x ≠ w → fset by' w p x = by' x := fun x q => fset_o _ q
  have bW : fset by' w p w = p := fset_s _ _ _
  have dO : ∀ x, x ≠ w → fset de w (de (qu k) + 1) x = de x := fun x q => fset_o _ q
  have dW : fset de w (de (qu k) + 1) w = de (qu k) + 1 := fset_s _ _ _
  have hkw := hwr k k0 hk
  refine ⟨by omega, ⟨by omega, by omega, by omega, by omega⟩, ?_, ?_, ?_, ?_, ?_, ?_, ?_, ?_⟩
  · intro i h0 h1
    by_cases z : i = qn
    · rw [z, fset_s, dW]
      exact ⟨hw, (hsn w).mpr (Or.inr rfl), by omega, by omega⟩
    · rw [qO i (by omega), dO _ (hwr i h0 (by omega))]
      have := c2 i h0 (by omega)
      exact ⟨this.1, (hsn _).mpr (Or.inl this.2.1), this.2.2⟩
  · intro i j h0 h1 h2 h3 q
    by_cases z : i = qn
    · by_cases z2 : j = qn
      · omega
      · rw [z, fset_s, fset_o _ z2] at q; exact absurd q.symm (hwr j h2 (by omega))
    · by_cases z2 : j = qn
      · rw [z2, fset_s, fset_o _ z] at q; exact absurd q (hwr i h0 (by omega))
      · rw [fset_o _ z, fset_o _ z2] at q; exact c3 i j h0 (by omega) h2 (by omega) q
  · intro v h0 h1 q
    rcases (hsn v).mp q with q | q
    · obtain ⟨i, d2, d3, d4⟩ := c4 v h0 h1 q
      exact ⟨i, d2, by omega, by rw [qO i d3]; exact d4⟩
    · exact ⟨qn, by omega, by omega, by rw [fset_s]; exact q.symm⟩
  · intro i h0 h1
    by_cases z : i = qn
    · rw [z, fset_s, bW, dW, rW]
      refine Or.inr ⟨⟨hp.1, hp.2, hc⟩, k, k0, hk, Or.inr ⟨rfl, (hD p).mpr (Or.inr rfl)⟩, ?_, ?_, ?_⟩
      · rw [qO k hk]; exact hb
      · rw [qO k hk, rO _ hkw]
      · rw [qO k hk, dO _ hkw]
    · have hi : i < qn := by omega
      rw [qO i hi, bO _ (hwr i h0 hi), dO _ (hwr i h0 hi), rO _ (hwr i h0 hi)]
      rcases c5 i h0 hi with g | ⟨g1, j, g2, g3, g4, g5, g6, g7⟩
      · exact Or.inl g
      · have hj := hwr j g2 (by omega)
        refine Or.inr ⟨g1, j, g2, g3, ?_, ?_, ?_, ?_⟩
        · rcases g4 with g4 | ⟨g4, g8⟩
          · exact Or.inl g4
          · exact Or.inr ⟨g4, (hD _).mpr (Or.inl g8)⟩
        · rw [qO j (by omega)]; exact g5
        · rw [qO j (by omega), rO _ hj]; exact g6
        · rw [qO j (by omega), dO _ hj]; exact g7
  · intro i l u h0 h1 h2 h3 h4 h5 h6
    have hi : i < qn := by omega
    rw [qO i hi] at h6 ⊢
    rw [bO _ (hwr i h0 hi)]
    have new : i = k → l = p → sn' u ∧ zsame fd (fset rt w (rt (qu k))) (qu i) u ∧ (rad = 1 → by' (qu i) = l ∨ fset by' w p u = l) := by
      intro z1 z2
      subst z1; subst z2
      have := zbt_u hne h6 hb
      subst this
      exact ⟨(hsn _).mpr (Or.inr rfl), Or.inl (by rw [rW, rO _ hkw]), fun _ => Or.inr bW⟩
    have old : (i < k ∨ (i = k ∧ D l)) → sn' u ∧ zsame fd (fset rt w (rt (qu k))) (qu i) u ∧ (rad = 1 → by' (qu i) = l ∨ fset by' w p u = l) := by
      intro z
      obtain ⟨g1, gs, g2⟩ := c6 i l u h0 hi h2 h3 h4 z h6
      have huw : u ≠ w := fun q => hu (by rw [← q]; exact g1)
      rw [bO u huw]
      exact ⟨(hsn u).mpr (Or.inl g1), by unfold zsame; rw [rO _ (hwr i h0 hi), rO u huw]; exact gs, g2⟩
    rcases h5 with h5 | ⟨h5, h7⟩
    · exact old (Or.inl h5)
    · rcases (hD l).mp h7 with h7 | h7
      · exact old (Or.inr ⟨h5, h7⟩)
      · exact new h5 h7
  · rcases c7 with c7 | ⟨g0, l, x, y, g1, g2, g3, g4, g5⟩
    · exact Or.inl c7
    · have hx : x ≠ w := fun q => hu (by rw [← q]; exact g3.2.1)
      have hy : y ≠ w := fun q => hu (by rw [← q]; exact g4.2.1)
      refine Or.inr ⟨g0, l, x, y, g1, g2, ⟨g3.1, (hsn x).mpr (Or.inl g3.2.1), ?_⟩, ⟨g4.1, (hsn y).mpr (Or.inl g4.2.1), ?_⟩, ?_⟩
      · rw [bO x hx]; exact g3.2.2
      · rw [bO y hy]; exact g4.2.2
      · unfold zsame; rw [rO x hx, rO y hy]; exact g5
  · intro i l u h0 h1 h2 h3 h4 h5
    rw [qO i (by omega)] at h5
    obtain ⟨j, g1, g2, g3⟩ := c8 i l u h0 h1 h2 h3 h4 h5
    exact ⟨j, g1, g2, by rw [qO j (by omega)]; exact g3⟩
  · have key : ∀ i, b ≤ i → i < qn + 1 → zsame fd (fset rt w (rt (qu k))) (fset qu qn w i) (qu k) := by
      intro i h0 h1
      unfold zsame
      by_cases z : i = qn
      · rw [z, fset_s, rW, rO _ hkw]; exact Or.inl rfl
      · rw [qO i (by omega), rO _ (hwr i (by omega) (by omega)), rO _ hkw]
        exact c9 i k h0 (by omega) (by omega) hk
    intro i j h0 h1 h2 h3
    have x1 := key i h0 h1
    have x2 := key j h2 h3
    unfold zsame at *
    rcases x1 with x1 | x1 <;> rcases x2 with x2 | x2
    · exact Or.inl (x1.trans x2.symm)
    · exact Or.inr ⟨by rw [x1]; exact x2.2, x2.1⟩
    · exact Or.inr ⟨x1.1, by rw [x2]; exact x1.2⟩
    · exact Or.inr ⟨x1.1, x2.1⟩
/-- line p leads nowhere new -/
theorem zWK_skip (h : zWK fd fi se m cl sn rt by' de qu qn b k D rad) (hs : cl p → ∀ u, zbt fi se p (qu k) u → sn u ∧ zsame fd rt (qu k) u ∧ (rad = 1 → by' (qu k) = p ∨ by' u = p)) (hD : ∀ x, D' x ↔ D x ∨ x = p) : zWK fd fi se m cl sn rt by' de qu qn b k D' rad := by
  obtain ⟨a, c2, c3, c4, c5, c6, c7, c8, c9⟩ := h
  refine ⟨a, c2, c3, c4, fun i h0 h1 => ?_, fun i l u h0 h1 h2 h3 h4 h5 h6 => ?_, c7, c8, c9⟩
  · rcases c5 i h0 h1 with g | ⟨g1, j, g2, g3, g4, g5⟩
    · exact Or.inl g
    · refine Or.inr ⟨g1, j, g2, g3, ?_, g5⟩
      rcases g4 with g4 | ⟨g4, g8⟩
      · exact Or.inl g4
      · exact Or.inr ⟨g4, (hD _).mpr (Or.inl g8)⟩
  · rcases h5 with h5 | ⟨h5, h7⟩
    · exact c6 i l u h0 h1 h2 h3 h4 (Or.inl h5) h6
    · rcases (hD l).mp h7 with h7 | h7
      · exact c6 i l u h0 h1 h2 h3 h4 (Or.inr ⟨h5, h7⟩) h6
      · subst h7; subst h5; exact hs h4 u h6
/-- line p closes a ring -/
theorem zWK_rad (h : zWK fd fi se m cl sn rt by' de qu qn b k D rad) (hk : k < qn) (hp : 0 ≤ p ∧ p < m) (hc : cl p) (hw : 0 ≤ w ∧ w < 16) (hb : zbt fi se p (qu k) w) (hu : sn w) (hne : ¬ fi p = se p) (hby : ¬ p = by' (qu k)) (hnd : ¬ D p) (hD : ∀ x, D' x ↔ D x ∨ x = p) : zWK fd fi se m cl sn rt by' de qu qn b k D' 0 := by
  obtain ⟨⟨a0, a1, a2, a3⟩, c2, c3, c4, c5, c6, c7, c8, c9⟩ := h
  have k0 : 0 ≤ k := by omega
  have hkr := c2 k k0 hk
  obtain ⟨i, i0, i1, i2⟩ := c4 w hw.1 hw.2 hu
  have hwk : ¬ qu k = w := fun q => by
    unfold zbt at hb
    rcases hb with ⟨x, y⟩ | ⟨x, y⟩ <;> omega
  have hbw : ¬ by' w = p := by
    intro q
    rcases c5 i i0 i1 with g | ⟨g1, j, g2, g3, g4, g5, g6⟩
    · rw [i2] at g; omega
    · rw [i2, q] at g5
      have hj : qu j = qu k := zbt_u hne (zbt_s g5) (zbt_s hb)
      have hjk := c3 j k g2 (by omega) k0 hk hj
      rcases g4 with g4 | ⟨g4, g8⟩
      · omega
      · rw [i2, q] at g8; exact hnd g8
  have hib : b ≤ i := by
    rcases Int.lt_or_le i b with z | z
    · obtain ⟨j, g1, g2, g3⟩ := c8 i p (qu k) i0 z hp.1 hp.2 hc (by rw [i2]; exact zbt_s hb)
      have := c3 j k g1 (by omega) k0 hk g3
      omega
    · exact z
  have hsm : zsame fd rt (qu k) w := by
    have := c9 k i (by omega) hk hib i1
    rw [i2] at this
    exact this
  refine ⟨⟨a0, a1, a2, a3⟩, c2, c3, c4, fun i h0 h1 => ?_, fun i l u h0 h1 h2 h3 h4 h5 h6 => ?_, Or.inr ⟨rfl, p, qu k, w, ⟨hp.1, hp.2, hc⟩, hb, ⟨hkr.1, hkr.2.1, fun z => hby z.symm⟩, ⟨hw, hu, hbw⟩, hsm⟩, c8, c9⟩
  · rcases c5 i h0 h1 with g | ⟨g1, j, g2, g3, g4, g5⟩
    · exact Or.inl g
    · refine Or.inr ⟨g1, j, g2, g3, ?_, g5⟩
      rcases g4 with g4 | ⟨g4, g8⟩
      · exact Or.inl g4
      · exact Or.inr ⟨g4, (hD _).mpr (Or.inl g8)⟩
  · have old : (i < k ∨ (i = k ∧ D l)) → sn u ∧ zsame fd rt (qu i) u ∧ ((0 : Int) = 1 → by' (qu i) = l ∨ by' u = l) := fun z => by
      have := c6 i l u h0 h1 h2 h3 h4 z h6
      exact ⟨this.1, this.2.1, fun z => by omega⟩
    rcases h5 with h5 | ⟨h5, h7⟩
    · exact old (Or.inl h5)
    · rcases (hD l).mp h7 with h7 | h7
      · exact old (Or.inr ⟨h5, h7⟩)
      · subst h7; subst h5
        rw [zbt_u hne h6 hb]; exact ⟨hu, hsm, fun z => by omega⟩
/-- a place is done -/
theorem zWK_next (h : zWK fd fi se m cl sn rt by' de qu qn b k D rad) (hk : k < qn) (hd : ∀ l u, 0 ≤ l → l < m → zbt fi se l (qu k) u → D l) (hD : ∀ x, ¬ D' x) : zWK fd fi se m cl sn rt by' de qu qn b (k + 1) D' rad := by
  obtain ⟨⟨a0, a1, a2, a3⟩, c2, c3, c4, c5, c6, c7, c8, c9⟩ := h
  refine ⟨⟨a0, by omega, by omega, a3⟩, c2, c3, c4, fun i h0 h1 => ?_, fun i l u h0 h1 h2 h3 h4 h5 h6 => ?_, c7, c8, c9⟩
  · rcases c5 i h0 h1 with g | ⟨g1, j, g2, g3, g4, g5⟩
    · exact Or.inl g
    · refine Or.inr ⟨g1, j, g2, g3, Or.inl ?_, g5⟩
      rcases g4 with g4 | ⟨g4, -⟩ <;> omega
  · rcases h5 with h5 | ⟨h5, h7⟩
    · by_cases z : i = k
      · subst z
        exact c6 i l u h0 h1 h2 h3 h4 (Or.inr ⟨rfl, hd l u h2 h3 h6⟩) h6
      · exact c6 i l u h0 h1 h2 h3 h4 (Or.inl (by omega)) h6
    · exact absurd h7 (hD l)
/-- a new root in the dark -/
theorem zWK_root (h : zWK fd fi se m cl sn rt by' de qu qn b qn D rad) (hw : 0 ≤ w ∧ w < 16) (hu : ¬ sn w) (hr : ∀ l, 0 ≤ l → l < m → (0 ≤ fi l ∧ fi l < 16) ∧ (0 ≤ se l ∧ se l < 16)) (hsn : ∀ x, sn' x ↔ sn x ∨ x = w) (hD : ∀ x, ¬ D x) : qn < 16 ∧ zWK fd fi se m cl sn' (fset rt w w) (fset by' w (-1)) (fset de w 0) (fset qu qn w) (qn + 1) qn qn D rad := by
  obtain ⟨⟨a0, a1, a2, a3⟩, c2, c3, c4, c5, c6, c7, c8, c9⟩ := h
  have hwr : ∀ i, 0 ≤ i → i < qn → qu i ≠ w := fun i h0 h1 q => hu (by rw [← q]; exact (c2 i h0 h1).2.1)
  have qO : ∀ i, i < qn → fset qu qn w i = qu i := fun i h1 => fset_o _ (by omega)
  have hqn : qn + 1 ≤ 16 := by
    refine pigI (f := fset qu qn w) (n := qn + 1) (b := 16) (fun i h0 h1 => ?_) (fun i j h0 h1 h2 h3 q => ?_) (by omega)
    · by_cases z : i = qn
      · subst z; rw [fset_s]; exact hw
      · rw [fset_o _ z]; exact (c2 i h0 (by omega)).1
    · by_cases z : i = qn
      · by_cases z2 : j = qn
        · omega
        · rw [z, fset_s, fset_o _ z2] at q; exact absurd q.symm (hwr j h2 (by omega))
      · by_cases z2 : j = qn
        · rw [z2, fset_s, fset_o _ z] at q; exact absurd q (hwr i h0 (by omega))
        · rw [fset_o _ z, fset_o _ z2] at q; exact c3 i j h0 (by omega) h2 (by omega) q
  refine ⟨by omega, ⟨by omega, by omega, by omega, by omega⟩, ?_, ?_, ?_, ?_, ?_, ?_, ?_, ?_⟩
  · intro i h0 h1
    by_cases z : i = qn
    · rw [z, fset_s, fset_s]
      exact ⟨hw, (hsn w).mpr (Or.inr rfl), by omega, by omega⟩
    · rw [qO i (by omega), fset_o _ (hwr i h0 (by omega))]
      have := c2 i h0 (by omega)
      exact ⟨this.1, (hsn _).mpr (Or.inl this.2.1), this.2.2⟩
  · intro i j h0 h1 h2 h3 q
    by_cases z : i = qn
    · by_cases z2 : j = qn
      · omega
      · rw [z, fset_s, fset_o _ z2] at q; exact absurd q.symm (hwr j h2 (by omega))
    · by_cases z2 : j = qn
      · rw [z2, fset_s, fset_o _ z] at q; exact absurd q (hwr i h0 (by omega))
      · rw [fset_o _ z, fset_o _ z2] at q; exact c3 i j h0 (by omega) h2 (by omega) q
  · intro v h0 h1 q
    rcases (hsn v).mp q with q | q
    · obtain ⟨i, d2, d3, d4⟩ := c4 v h0 h1 q
      exact ⟨i, d2, by omega, by rw [qO i d3]; exact d4⟩
    · exact ⟨qn, by omega, by omega, by rw [fset_s]; exact q.symm⟩
  · intro i h0 h1
    by_cases z : i = qn
    · rw [z, fset_s, fset_s, fset_s, fset_s]; exact Or.inl ⟨rfl, rfl, rfl⟩
    · have hi : i < qn := by omega
      rw [qO i hi, fset_o _ (hwr i h0 hi), fset_o _ (hwr i h0 hi), fset_o _ (hwr i h0 hi)]
      rcases c5 i h0 hi with g | ⟨g1, j, g2, g3, g4, g5, g6, g7⟩
      · exact Or.inl g
      · have hj := hwr j g2 (by omega)
        refine Or.inr ⟨g1, j, g2, g3, Or.inl (by omega), ?_, ?_, ?_⟩
        · rw [qO j (by omega)]; exact g5
        · rw [qO j (by omega), fset_o _ hj]; exact g6
        · rw [qO j (by omega), fset_o _ hj]; exact g7
  · intro i l u h0 h1 h2 h3 h4 h5 h6
    rcases h5 with h5 | ⟨h5, h7⟩
    · rw [qO i h5] at h6 ⊢
      obtain ⟨g1, gs, g2⟩ := c6 i l u h0 h5 h2 h3 h4 (Or.inl h5) h6
      have huw : u ≠ w := fun q => hu (by rw [← q]; exact g1)
      rw [fset_o _ (hwr i h0 h5), fset_o _ huw]
      exact ⟨(hsn u).mpr (Or.inl g1), by unfold zsame; rw [fset_o _ (hwr i h0 h5), fset_o _ huw]; exact gs, g2⟩
    · exact absurd h7 (hD l)
  · rcases c7 with c7 | ⟨g0, l, x, y, g1, g2, g3, g4, g5⟩
    · exact Or.inl c7
    · have hx : x ≠ w := fun q => hu (by rw [← q]; exact g3.2.1)
      have hy : y ≠ w := fun q => hu (by rw [← q]; exact g4.2.1)
      refine Or.inr ⟨g0, l, x, y, g1, g2, ⟨g3.1, (hsn x).mpr (Or.inl g3.2.1), ?_⟩, ⟨g4.1, (hsn y).mpr (Or.inl g4.2.1), ?_⟩, ?_⟩
      · rw [fset_o _ hx]; exact g3.2.2
      · rw [fset_o _ hy]; exact g4.2.2
      · unfold zsame; rw [fset_o _ hx, fset_o _ hy]; exact g5
  · intro i l u h0 h1 h2 h3 h4 h5
    rw [qO i h1] at h5
    have hur : 0 ≤ u ∧ u < 16 := by
      have := hr l h2 h3
      unfold zbt at h5
      rcases h5 with ⟨x, y⟩ | ⟨x, y⟩ <;> omega
    obtain ⟨j, g1, g2, g3⟩ := c4 u hur.1 hur.2 (c6 i l u h0 h1 h2 h3 h4 (Or.inl h1) h5).1
    exact ⟨j, g1, g2, by rw [qO j g2]; exact g3⟩
  · intro i j h0 h1 h2 h3
    have : i = j := by omega
    subst this
    exact Or.inl rfl
end WK
