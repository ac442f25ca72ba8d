/-! the reference: the ring of a tie, a walk over merged places from its second end -/
def zmg (ki : Int → Int) (v : Int) : Int := if ki v = 1 then 16 else v
def zRB (m1 m2 : Int → Int) (cl : Int → Prop) (fr ca qu : Int → Int) (e many k p : Int) : Prop :=
  (0 ≤ k ∧ k ≤ many ∧ 1 ≤ many ∧ many ≤ 17)
  ∧ (∀ i, 0 ≤ i → i < many → (0 ≤ qu i ∧ qu i < 17) ∧ ¬ fr (qu i) = -1)
  ∧ (∀ i j, 0 ≤ i → i < many → 0 ≤ j → j < many → qu i = qu j → i = j)
  ∧ (∀ x, 0 ≤ x → x < 17 → ¬ fr x = -1 → ∃ i, 0 ≤ i ∧ i < many ∧ qu i = x)
  ∧ (qu 0 = e ∧ fr e = e)
  ∧ (∀ i, 0 < i → i < many → cl (ca (qu i)) ∧ zbt m1 m2 (ca (qu i)) (fr (qu i)) (qu i) ∧ ∃ j, 0 ≤ j ∧ j < i ∧ fr (qu i) = qu j)
  ∧ (∀ i l, 0 ≤ i → i < many → cl l → (i < k ∨ (i = k ∧ l < p)) → (m1 l = qu i → ¬ fr (m2 l) = -1) ∧ (m2 l = qu i → ¬ fr (m1 l) = -1))
section RB
variable {m1 m2 fr ca qu : Int → Int} {cl : Int → Prop} {e many k p w : Int}
theorem zRB_add (h : zRB m1 m2 cl fr ca qu e many k p) (hk : k < many) (hc : cl p) (hw : 0 ≤ w ∧ w < 17) (hb : zbt m1 m2 p (qu k) w) (hu : fr w = -1) : many < 17 ∧ zRB m1 m2 cl (fset fr w (qu k)) (fset ca w p) (fset qu many w) e (many + 1) k (p + 1) := by
  obtain ⟨⟨a1, a2, a3, a4⟩, b, c, d, f, g, j⟩ := h
  have hwr : ∀ i, 0 ≤ i → i < many → qu i ≠ w := fun i h0 h1 q => (b i h0 h1).2 (by rw [q]; exact hu)
  have hew : e ≠ w := fun q => hwr 0 (by omega) (by omega) (by rw [f.1]; exact q)
  have hkr := b k a1 hk
  have hon : many + 1 ≤ 17 := by
    refine pigI (f := fset qu many w) (n := many + 1) (b := 17) (fun i h0 h1 => ?_) (fun i i2 h0 h1 h2 h3 q => ?_) (by omega)
    · by_cases z : i = many
      · subst z; rw [fset_s]; exact hw
      · rw [fset_o _ z]; exact (b i h0 (by omega)).1
    · by_cases z : i = many
      · by_cases z2 : i2 = many
        · omega
        · rw [z, fset_s, fset_o _ z2] at q; exact absurd q.symm (hwr i2 h2 (by omega))
      · by_cases z2 : i2 = many
        · rw [z2, fset_s, fset_o _ z] at q; exact absurd q (hwr i h0 (by omega))
        · rw [fset_o _ z, fset_o _ z2] at q; exact c i i2 h0 (by omega) h2 (by omega) q
  have qO : ∀ i, i < many → fset qu many w i = qu i := fun i h1 => fset_o _ (by omega)
  have fN : ∀ x, ¬ fr x = -1 → ¬ fset fr w (qu k) x = -1 := fun x q => by
    by_cases z : x = w
    · rw [z] at q; exact absurd hu q
    · rw [fset_o _ z]; exact q
  have fW : ¬ fset fr w (qu k) w = -1 := by rw [fset_s]; omega
  refine ⟨by omega, ⟨by omega, by omega, by omega, by omega⟩, ?_, ?_, ?_, ?_, ?_, ?_⟩
  · intro i h0 h1
    by_cases z : i = many
    · rw [z, fset_s]; exact ⟨hw, fW⟩
    · rw [qO i (by omega)]; exact ⟨(b i h0 (by omega)).1, fN _ (b i h0 (by omega)).2⟩
  · intro i i2 h0 h1 h2 h3 q
    by_cases z : i = many
    · by_cases z2 : i2 = many
      · omega
      · rw [z, fset_s, fset_o _ z2] at q; exact absurd q.symm (hwr i2 h2 (by omega))
    · by_cases z2 : i2 = many
      · rw [z2, fset_s, fset_o _ z] at q; exact absurd q (hwr i h0 (by omega))
      · rw [fset_o _ z, fset_o _ z2] at q; exact c i i2 h0 (by omega) h2 (by omega) q
  · intro x h0 h1 q
    by_cases z : x = w
    · exact ⟨many, by omega, by omega, by rw [fset_s, z]⟩
    · rw [fset_o _ z] at q
      obtain ⟨i, i0, i1, i2⟩ := d x h0 h1 q
      exact ⟨i, i0, by omega, by rw [qO i i1]; exact i2⟩
  · rw [qO 0 (by omega), fset_o _ hew]; exact f
  · intro i h0 h1
    by_cases z : i = many
    · rw [z, fset_s, fset_s, fset_s]
      exact ⟨hc, hb, k, a1, hk, by rw [qO k hk]⟩
    · have hi : i < many := by omega
      rw [qO i hi, fset_o _ (hwr i (by omega) hi), fset_o _ (hwr i (by omega) hi)]
      obtain ⟨g1, g2, j2, g3, g4, g5⟩ := g i h0 hi
      exact ⟨g1, g2, j2, g3, g4, by rw [qO j2 (by omega)]; exact g5⟩
  · intro i l h0 h1 h2 h3
    have hi : i < many := by omega
    rw [qO i hi]
    by_cases z : i < k ∨ (i = k ∧ l < p)
    · have := j i l h0 hi h2 z
      exact ⟨fun q => fN _ (this.1 q), fun q => fN _ (this.2 q)⟩
    · have hik : i = k := by omega
      have hlp : l = p := by omega
      subst hik; subst hlp
      rcases hb with ⟨x1, x2⟩ | ⟨x1, x2⟩
      · exact ⟨fun _ => by rw [x2]; exact fW, fun q => absurd (by rw [← q]; exact x2) (hwr i h0 hi)⟩
      · exact ⟨fun q => absurd (by rw [← q]; exact x1) (hwr i h0 hi), fun _ => by rw [x1]; exact fW⟩
theorem zRB_skip (h : zRB m1 m2 cl fr ca qu e many k p) (hs : cl p → (m1 p = qu k → ¬ fr (m2 p) = -1) ∧ (m2 p = qu k → ¬ fr (m1 p) = -1)) : zRB m1 m2 cl fr ca qu e many k (p + 1) := by
  obtain ⟨a, b, c, d, f, g, j⟩ := h
  refine ⟨a, b, c, d, f, g, fun i l h0 h1 h2 h3 => ?_⟩
  by_cases z : i < k ∨ (i = k ∧ l < p)
  · exact j i l h0 h1 h2 z
  · have hik : i = k := by omega
    have hlp : l = p := by omega
    subst hik; subst hlp
    exact hs h2
theorem zRB_next {m : Int} (h : zRB m1 m2 cl fr ca qu e many k p) (hk : k < many) (hp : ∀ l, cl l → l < p) : zRB m1 m2 cl fr ca qu e many (k + 1) m := by
  obtain ⟨a, b, c, d, f, g, j⟩ := h
  refine ⟨by omega, b, c, d, f, g, fun i l h0 h1 h2 h3 => ?_⟩
  by_cases z : i = k + 1
  · sorry
  · exact j i l h0 h1 h2 (by have := hp l h2; omega)
end RB
