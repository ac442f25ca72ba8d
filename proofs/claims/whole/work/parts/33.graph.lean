/-! colourings: radial nets, trees, their flows -/
def ksm (fd : Int → Prop) (a x : Int) : Prop := a = x ∨ (fd a ∧ fd x)
/-- one colour on all feeders -/
def kfc (fd : Int → Prop) (c : Int → Bool) : Prop := ∀ x y, fd x → fd y → c x = c y
/-- each line of S is a bridge -/
def kRad (fd : Int → Prop) (fi se : Int → Int) (S : Int → Prop) : Prop :=
  ∀ l, S l → ∃ c : Int → Bool, kfc fd c ∧ ¬ c (fi l) = c (se l) ∧ ∀ l', S l' → l' ≠ l → c (fi l') = c (se l')
theorem kRad_mono {fd : Int → Prop} {fi se : Int → Int} {S S' : Int → Prop} (h : kRad fd fi se S) (hs : ∀ l, S' l → S l) : kRad fd fi se S' := fun l hl => by
  obtain ⟨c, h1, h2, h3⟩ := h l (hs l hl)
  exact ⟨c, h1, h2, fun l' hl' q => h3 l' (hs l' hl') q⟩
theorem bxor_eq {a b c d : Bool} (h : a = b) (g : c = d) : (a ^^ c) = (b ^^ d) := by rw [h, g]
theorem bxor_n1 {a b c d : Bool} (h : ¬ a = b) (g : ¬ c = d) : (a ^^ c) = (b ^^ d) := by
  cases a <;> cases b <;> cases c <;> cases d <;> simp_all
theorem bxor_n2 {a b c d : Bool} (h : ¬ a = b) (g : c = d) : ¬ (a ^^ c) = (b ^^ d) := by
  cases a <;> cases b <;> cases c <;> cases d <;> simp_all
theorem kfc_x {fd : Int → Prop} {c d : Int → Bool} (h : kfc fd c) (g : kfc fd d) : kfc fd (fun x => c x ^^ d x) := fun x y a b => bxor_eq (h x y a b) (g x y a b)
/-- enough: for each line a colour that is one on all lines of a lower rank -/
theorem kRad_rank {fd : Int → Prop} {fi se : Int → Int} {S : Int → Prop} (r : Int → Nat) (B : Nat) (hB : ∀ l, S l → r l < B) (inj : ∀ l l', S l → S l' → r l = r l' → l = l')
    (h : ∀ l, S l → ∃ c : Int → Bool, kfc fd c ∧ ¬ c (fi l) = c (se l) ∧ ∀ l', S l' → r l' < r l → c (fi l') = c (se l')) : kRad fd fi se S := fun l hl => by
  have key : ∀ k : Nat, ∃ c : Int → Bool, kfc fd c ∧ ¬ c (fi l) = c (se l) ∧ ∀ l', S l' → l' ≠ l → r l' < r l + 1 + k → c (fi l') = c (se l') := by
    intro k
    induction k with
    | zero =>
      obtain ⟨c, h1, h2, h3⟩ := h l hl
      refine ⟨c, h1, h2, fun l' hl' q z => h3 l' hl' ?_⟩
      have : r l' ≠ r l := fun e => q (inj l' l hl' hl e)
      omega
    | succ k ih =>
      obtain ⟨c, h1, h2, h3⟩ := ih
      by_cases e : ∃ l', S l' ∧ r l' = r l + 1 + k ∧ ¬ c (fi l') = c (se l')
      · obtain ⟨l', e1, e2, e3⟩ := e
        obtain ⟨d, d1, d2, d3⟩ := h l' e1
        refine ⟨fun x => c x ^^ d x, kfc_x h1 d1, bxor_n2 h2 (d3 l hl (by omega)), fun l2 g1 g2 g3 => ?_⟩
        by_cases z : r l2 = r l'
        · have := inj l2 l' g1 e1 z
          subst this
          exact bxor_n1 e3 d2
        · exact bxor_eq (h3 l2 g1 g2 (by omega)) (d3 l2 g1 (by omega))
      · refine ⟨c, h1, h2, fun l2 g1 g2 g3 => ?_⟩
        by_cases z : r l2 = r l + 1 + k
        · exact Classical.byContradiction fun q => e ⟨l2, g1, z, q⟩
        · exact h3 l2 g1 g2 (by omega)
  obtain ⟨c, h1, h2, h3⟩ := key B
  exact ⟨c, h1, h2, fun l' hl' q => h3 l' hl' q (by have := hB l' hl'; omega)⟩
/-- the tree from the feeders; L: the lit places -/
def kT (fd : Int → Prop) (fi se : Int → Int) (S L : Int → Prop) (rt by' de : Int → Int) : Prop :=
  (∀ v, fd v → L v ∧ rt v = v ∧ by' v = -1 ∧ de v = 0)
  ∧ (∀ v, L v → (0 ≤ v ∧ v < 16) ∧ fd (rt v) ∧ 0 ≤ de v ∧ de v < 16)
  ∧ (∀ v, L v → ¬ fd v → S (by' v) ∧ ∃ u, zbt fi se (by' v) u v ∧ L u ∧ rt v = rt u ∧ de v = de u + 1)
  ∧ (∀ l u v, S l → zbt fi se l u v → L u → L v)
theorem zbt_ends {fi se : Int → Int} {l u v x y : Int} (h : zbt fi se l u v) (g : zbt fi se l x y) : (x = u ∧ y = v) ∨ (x = v ∧ y = u) := by
  unfold zbt at h g
  rcases h with ⟨a, b⟩ | ⟨a, b⟩ <;> rcases g with ⟨c, d⟩ | ⟨c, d⟩ <;> omega
theorem zbt_c {fi se : Int → Int} {l u v : Int} {c : Int → Bool} (h : zbt fi se l u v) (g : c (fi l) = c (se l)) : c u = c v := by
  rcases h with ⟨a, b⟩ | ⟨a, b⟩
  · rw [← a, ← b]; exact g
  · rw [← a, ← b]; exact g.symm
theorem zbt_nc {fi se : Int → Int} {l u v : Int} {c : Int → Bool} (h : zbt fi se l u v) (g : ¬ c (fi l) = c (se l)) : ¬ c u = c v := by
  rcases h with ⟨a, b⟩ | ⟨a, b⟩
  · rw [← a, ← b]; exact g
  · rw [← a, ← b]; exact fun z => g z.symm
section KT
variable {fd : Int → Prop} {fi se : Int → Int} {S S' L L' : Int → Prop} {rt by' de rt2 by2 de2 : Int → Int}
/-- a colour that is one on the lines of the tree is one on what is lit -/
theorem kT_col (h : kT fd fi se S L rt by' de) {c : Int → Bool} (hf : kfc fd c) (hc : ∀ v, L v → ¬ fd v → c (fi (by' v)) = c (se (by' v))) : ∀ v f, L v → fd f → c v = c f := by
  have key : ∀ (n : Nat) (v f : Int), de v ≤ n → L v → fd f → c v = c f := by
    intro n
    induction n with
    | zero =>
      intro v f hn hv hf'
      by_cases q : fd v
      · exact hf v f q hf'
      · obtain ⟨-, u, h1, h2, h3, h4⟩ := h.2.2.1 v hv q
        have := (h.2.1 u h2).2.2
        omega
    | succ n ih =>
      intro v f hn hv hf'
      by_cases q : fd v
      · exact hf v f q hf'
      · obtain ⟨-, u, h1, h2, h3, h4⟩ := h.2.2.1 v hv q
        rw [← zbt_c h1 (hc v hv q)]
        exact ih u f (by omega) h2 hf'
  intro v f hv hf'
  exact key (de v).toNat v f (by have := (h.2.1 v hv).2.2; omega) hv hf'
/-- lit: no colour parts it from the feeders -/
theorem kT_lit (h : kT fd fi se S L rt by' de) (v : Int) : L v ↔ ∃ f, fd f ∧ ∀ c : Int → Bool, kfc fd c → (∀ l, S l → c (fi l) = c (se l)) → c v = c f := by
  constructor
  · intro hv
    exact ⟨rt v, (h.2.1 v hv).2.1, fun c h1 h2 => kT_col h h1 (fun x a b => h2 _ (h.2.2.1 x a b).1) v (rt v) hv (h.2.1 v hv).2.1⟩
  · rintro ⟨f, h1, h2⟩
    refine Classical.byContradiction fun q => ?_
    have := h2 (fun x => @decide (L x) (Classical.propDecidable _)) (fun x y a b => ?_) (fun l hl => ?_)
    · simp only [q, (h.1 f h1).1] at this
      simp at this
    · simp only [(h.1 x a).1, (h.1 y b).1]
    · have h3 : L (fi l) ↔ L (se l) := ⟨h.2.2.2 l _ _ hl (Or.inl ⟨rfl, rfl⟩), h.2.2.2 l _ _ hl (Or.inr ⟨rfl, rfl⟩)⟩
      by_cases z : L (fi l)
      · simp only [z, h3.mp z]
      · have z2 : ¬ L (se l) := fun w => z (h3.mpr w)
        simp only [z, z2]
/-- a radial net has one tree; more lines leave the tree of fewer as it is -/
theorem kT_mono (hr : kRad fd fi se S') (hs : ∀ l, S l → S' l) (h : kT fd fi se S L rt by' de) (g : kT fd fi se S' L' rt2 by2 de2) : ∀ v, L v → L' v ∧ rt2 v = rt v ∧ by2 v = by' v ∧ de2 v = de v := by
  have key : ∀ (n : Nat) (v : Int), de v ≤ n → L v → L' v ∧ rt2 v = rt v ∧ by2 v = by' v ∧ de2 v = de v := by
    intro n
    induction n with
    | zero =>
      intro v hn hv
      by_cases q : fd v
      · have a := h.1 v q
        have b := g.1 v q
        exact ⟨b.1, by rw [b.2.1, a.2.1], by rw [b.2.2.1, a.2.2.1], by rw [b.2.2.2, a.2.2.2]⟩
      · obtain ⟨-, u, h1, h2, h3, h4⟩ := h.2.2.1 v hv q
        have := (h.2.1 u h2).2.2
        omega
    | succ n ih =>
      intro v hn hv
      by_cases q : fd v
      · have a := h.1 v q
        have b := g.1 v q
        exact ⟨b.1, by rw [b.2.1, a.2.1], by rw [b.2.2.1, a.2.2.1], by rw [b.2.2.2, a.2.2.2]⟩
      · obtain ⟨s1, u, h1, h2, h3, h4⟩ := h.2.2.1 v hv q
        obtain ⟨i1, i2, i3, i4⟩ := ih u (by omega) h2
        have hv' : L' v := g.2.2.2 _ u v (hs _ s1) h1 i1
        have hb : by2 v = by' v := by
          refine Classical.byContradiction fun z => ?_
          obtain ⟨c, c1, c2, c3⟩ := hr (by' v) (hs _ s1)
          have hall : ∀ x, L' x → ¬ fd x → c (fi (by2 x)) = c (se (by2 x)) := by
            intro x x1 x2
            obtain ⟨y1, y, y2, y3, y4, y5⟩ := g.2.2.1 x x1 x2
            refine c3 _ y1 (fun e => ?_)
            rw [e] at y2
            rcases zbt_ends h1 y2 with ⟨p1, p2⟩ | ⟨p1, p2⟩
            · rw [p2] at e; exact z e
            · rw [p2, i3] at e
              by_cases w : fd u
              · have := (h.1 u w).2.2.1
                rw [p2] at x2; exact x2 w
              · obtain ⟨-, u', w1, w2, w3, w4⟩ := h.2.2.1 u h2 w
                rw [e] at w1
                rcases zbt_ends h1 w1 with ⟨p3, p4⟩ | ⟨p3, p4⟩
                · rw [p4] at h4; omega
                · rw [p3] at w4; omega
          have e1 := kT_col g c1 hall v (rt2 v) hv' (g.2.1 v hv').2.1
          have e2 := kT_col g c1 hall u (rt2 v) i1 (g.2.1 v hv').2.1
          exact zbt_nc h1 c2 (e2.trans e1.symm)
        obtain ⟨-, u', w1, w2, w3, w4⟩ := g.2.2.1 v hv' q
        rw [hb] at w1
        have hu : u' = u := by
          rcases zbt_ends h1 w1 with ⟨p1, p2⟩ | ⟨p1, p2⟩
          · exact p1
          · omega
        subst hu
        exact ⟨hv', by rw [w3, i2, h3], hb, by rw [w4, i4, h4]⟩
  intro v hv
  exact key (de v).toNat v (by have := (h.2.1 v hv).2.2; omega) hv
end KT
/-- what the lines carry -/
def kF (fd : Int → Prop) (lo fi se : Int → Int) (L : Int → Prop) (by' be fl ne : Int → Int) : Prop :=
  (∀ v, L v → be v = lo v + zsum (fun l => if ne l = v then fl l else 0) 24)
  ∧ (∀ v, L v → ¬ fd v → (0 ≤ by' v ∧ by' v < 24) ∧ fl (by' v) = be v ∧ zbt fi se (by' v) (ne (by' v)) v)
  ∧ (∀ l, 0 ≤ l → l < 24 → (ne l = -1 → fl l = 0) ∧ (¬ ne l = -1 → ∃ v, L v ∧ ¬ fd v ∧ by' v = l))
  ∧ (∀ v, L v → 0 ≤ be v ∧ be v ≤ 1584) ∧ (∀ l, 0 ≤ l → l < 24 → 0 ≤ fl l ∧ fl l ≤ 1584)
theorem zsum_le {f g : Int → Int} : ∀ n : Nat, (∀ i : Nat, i < n → f i ≤ g i) → zsum f n ≤ zsum g n
  | 0, _ => Int.le_refl _
  | n + 1, h => by
    unfold zsum
    have := zsum_le n (fun i hi => h i (by omega))
    have := h n (by omega)
    omega
section KF
variable {fd : Int → Prop} {lo fi se : Int → Int} {S S' L L' : Int → Prop} {rt by' de rt2 by2 de2 be fl ne be2 fl2 ne2 : Int → Int}
theorem kF_par (h : kT fd fi se S L rt by' de) (hf : kF fd lo fi se L by' be fl ne) {v u : Int} (hv : L v) (hn : ¬ fd v) (hb : zbt fi se (by' v) u v) : ne (by' v) = u ∧ L u ∧ de v = de u + 1 := by
  obtain ⟨s1, x, h1, h2, h3, h4⟩ := h.2.2.1 v hv hn
  have h5 := (hf.2.1 v hv hn).2.2
  have hne : x ≠ v := fun e => by rw [e] at h4; omega
  rcases zbt_ends h1 h5 with ⟨a, b⟩ | ⟨a, b⟩
  · rcases zbt_ends h1 hb with ⟨c, d⟩ | ⟨c, d⟩
    · subst c; exact ⟨a, h2, h4⟩
    · exact absurd d.symm hne
  · exact absurd b.symm hne
/-- more lines never take a flow down -/
theorem kF_mono (h : kT fd fi se S L rt by' de) (g : kT fd fi se S' L' rt2 by2 de2) (hm : ∀ v, L v → L' v ∧ rt2 v = rt v ∧ by2 v = by' v ∧ de2 v = de v) (hf : kF fd lo fi se L by' be fl ne) (gf : kF fd lo fi se L' by2 be2 fl2 ne2) :
    (∀ v, L v → be v ≤ be2 v) ∧ (∀ l, 0 ≤ l → l < 24 → fl l ≤ fl2 l ∧ (¬ ne l = -1 → ne2 l = ne l)) := by
  have hne : ∀ l, 0 ≤ l → l < 24 → ¬ ne l = -1 → ne2 l = ne l := by
    intro l h0 h1 q
    obtain ⟨v, v1, v2, v3⟩ := (hf.2.2.1 l h0 h1).2 q
    have hv := hm v v1
    have p1 := (hf.2.1 v v1 v2).2.2
    have p2 := (gf.2.1 v hv.1 v2).2.2
    obtain ⟨-, x, x1, x2, x3, x4⟩ := h.2.2.1 v v1 v2
    have a := (kF_par h hf v1 v2 x1).1
    rw [hv.2.2.1, v3] at p2
    rw [v3] at x1 a
    have b := (kF_par g gf hv.1 v2 (by rw [hv.2.2.1, v3]; exact x1)).1
    rw [hv.2.2.1, v3] at b
    rw [a, b]
  have key : ∀ (n : Nat) (v : Int), 16 - de v ≤ n → L v → be v ≤ be2 v := by
    intro n
    induction n with
    | zero => intro v hn hv; have := (h.2.1 v hv).2.2; omega
    | succ n ih =>
      intro v hn hv
      rw [hf.1 v hv, gf.1 v (hm v hv).1]
      have := zsum_le (f := fun l => if ne l = v then fl l else 0) (g := fun l => if ne2 l = v then fl2 l else 0) 24 (fun i hi => by
        by_cases q : ne i = v
        · have q0 : ¬ ne i = -1 := by have := (h.2.1 v hv).1; omega
          rw [if_pos q, if_pos (by rw [hne i (by omega) (by omega) q0]; exact q)]
          obtain ⟨w, w1, w2, w3⟩ := (hf.2.2.1 i (by omega) (by omega)).2 q0
          have a1 := (hf.2.1 w w1 w2).2.1
          have a2 := (gf.2.1 w (hm w w1).1 w2).2.1
          rw [(hm w w1).2.2.1] at a2
          rw [w3] at a1 a2
          rw [a1, a2]
          refine ih w ?_ w1
          have p := (hf.2.1 w w1 w2).2.2
          rw [w3, q] at p
          have := (kF_par h hf w1 w2 (by rw [w3]; exact p)).2.2
          omega
        · rw [if_neg q]
          have := (gf.2.2.2.2 i (by omega) (by omega)).1
          split <;> omega)
      omega
  have kb : ∀ v, L v → be v ≤ be2 v := fun v hv => key (16 - de v).toNat v (by omega) hv
  refine ⟨kb, fun l h0 h1 => ⟨?_, hne l h0 h1⟩⟩
  by_cases q : ne l = -1
  · rw [(hf.2.2.1 l h0 h1).1 q]; exact (gf.2.2.2.2 l h0 h1).1
  · obtain ⟨w, w1, w2, w3⟩ := (hf.2.2.1 l h0 h1).2 q
    have a1 := (hf.2.1 w w1 w2).2.1
    have a2 := (gf.2.1 w (hm w w1).1 w2).2.1
    rw [(hm w w1).2.2.1] at a2
    rw [w3] at a1 a2
    rw [a1, a2]
    exact kb w w1
/-- of one radial net there is one tree and one flow -/
theorem kF_one (hr : kRad fd fi se S) (h : kT fd fi se S L rt by' de) (g : kT fd fi se S L' rt2 by2 de2) (hf : kF fd lo fi se L by' be fl ne) (gf : kF fd lo fi se L' by2 be2 fl2 ne2) :
    (∀ v, L v ↔ L' v) ∧ (∀ v, L v → rt2 v = rt v ∧ by2 v = by' v ∧ de2 v = de v ∧ be2 v = be v) ∧ (∀ l, 0 ≤ l → l < 24 → fl2 l = fl l ∧ ne2 l = ne l) := by
  have m1 := kT_mono hr (fun _ x => x) h g
  have m2 := kT_mono hr (fun _ x => x) g h
  have f1 := kF_mono h g m1 hf gf
  have f2 := kF_mono g h m2 gf hf
  refine ⟨fun v => ⟨fun x => (m1 v x).1, fun x => (m2 v x).1⟩, fun v hv => ?_, fun l h0 h1 => ?_⟩
  · have a := m1 v hv
    have b := f1.1 v hv
    have c := f2.1 v a.1
    exact ⟨a.2.1, a.2.2.1, a.2.2.2, by omega⟩
  · have a := f1.2 l h0 h1
    have b := f2.2 l h0 h1
    refine ⟨by omega, ?_⟩
    by_cases q : ne l = -1
    · by_cases q2 : ne2 l = -1
      · omega
      · have := b.2 q2; omega
    · exact a.2 q
end KF
