/-! the class: what work leaves -/
/-- all places, the dark ones too -/
def kA (th : Int → Prop) (fi se : Int → Int) (cl : Int → Prop) (rt by' de : Int → Int) : Prop :=
  ∀ v, th v → (0 ≤ de v ∧ de v < 16) ∧ ((by' v = -1 ∧ de v = 0 ∧ rt v = v) ∨ (cl (by' v) ∧ ∃ u, th u ∧ zbt fi se (by' v) u v ∧ rt v = rt u ∧ de v = de u + 1))
theorem kA_col {th cl : Int → Prop} {fi se rt by' de : Int → Int} (h : kA th fi se cl rt by' de) {c : Int → Bool} (hc : ∀ v, th v → cl (by' v) → c (fi (by' v)) = c (se (by' v))) : ∀ v, th v → c v = c (rt v) := by
  have key : ∀ (n : Nat) (v : Int), de v ≤ n → th v → c v = c (rt v) := by
    intro n
    induction n with
    | zero =>
      intro v hn hv
      obtain ⟨h1, h2 | ⟨h2, u, u1, u2, u3, u4⟩⟩ := h v hv
      · rw [h2.2.2]
      · have := (h u u1).1; omega
    | succ n ih =>
      intro v hn hv
      obtain ⟨h1, h2 | ⟨h2, u, u1, u2, u3, u4⟩⟩ := h v hv
      · rw [h2.2.2]
      · rw [← zbt_c u2 (hc v hv h2), u3]
        exact ih u (by omega) u1
  intro v hv
  exact key (de v).toNat v (by have := (h v hv).1; omega) hv
theorem zWK_fin {fd th cl sn lit : Int → Prop} {fi se rt by' de qu : Int → Int} {m qn b lc rad : Int} (h : zWK fd fi se m cl sn rt by' de qu qn b qn (fun _ => False) rad) (hm : m ≤ 24) (hcl : ∀ l, cl l → 0 ≤ l ∧ l < m) (hl : ∀ l, 0 ≤ l → l < m → th (fi l) ∧ th (se l) ∧ ¬ fi l = se l) (hth : ∀ v, th v → 0 ≤ v ∧ v < 16) (hsn : ∀ v, th v ↔ sn v) (hfd : ∀ v, fd v → th v ∧ rt v = v ∧ by' v = -1 ∧ de v = 0)
    (hlt : ∀ i, 0 ≤ i → i < qn → (i < lc ↔ lit (qu i)) ∧ (lit (qu i) ↔ fd (rt (qu i)))) (hls : ∀ v, lit v → sn v) :
    kA th fi se cl rt by' de ∧ (∀ l, cl l → zsame fd rt (fi l) (se l)) ∧ ((rad = 1 ∧ kRad fd fi se cl) ∨ (rad = 0 ∧ ¬ kRad fd fi se cl)) ∧ kT fd fi se cl lit rt by' de ∧ (∀ v, lit v ↔ th v ∧ fd (rt v)) := by
  obtain ⟨⟨a0, a1, a2, a3⟩, c2, c3, c4, c5, c6, c7, c8, c9⟩ := h
  have ix : ∀ v, th v → ∃ i, 0 ≤ i ∧ i < qn ∧ qu i = v := fun v hv => c4 v (hth v hv).1 (hth v hv).2 ((hsn v).mp hv)
  have hA : kA th fi se cl rt by' de := by
    intro v hv
    obtain ⟨i, i0, i1, i2⟩ := ix v hv
    have d := (c2 i i0 i1).2.2
    have e := c5 i i0 i1
    rw [i2] at d e
    refine ⟨by omega, ?_⟩
    rcases e with e | ⟨e1, j, j0, j1, j2, j3, j4, j5⟩
    · exact Or.inl e
    · exact Or.inr ⟨e1.2.2, qu j, (hsn _).mpr (c2 j j0 (by omega)).2.1, j3, j4, j5⟩
  have hall : ∀ l, cl l → sn (se l) ∧ zsame fd rt (fi l) (se l) ∧ (rad = 1 → by' (fi l) = l ∨ by' (se l) = l) := by
    intro l q
    have r := hcl l q
    obtain ⟨t1, t2, t3⟩ := hl l r.1 r.2
    obtain ⟨i, i0, i1, i2⟩ := ix _ t1
    have := c6 i l (se l) i0 i1 r.1 r.2 q (Or.inl i1) (Or.inl ⟨i2.symm, rfl⟩)
    rw [i2] at this
    exact this
  have hlit : ∀ v, lit v ↔ th v ∧ fd (rt v) := by
    intro v
    constructor
    · intro q
      have t := (hsn v).mpr (hls v q)
      obtain ⟨i, i0, i1, i2⟩ := ix v t
      have := (hlt i i0 i1).2
      rw [i2] at this
      exact ⟨t, this.mp q⟩
    · rintro ⟨t, q⟩
      obtain ⟨i, i0, i1, i2⟩ := ix v t
      have := (hlt i i0 i1).2
      rw [i2] at this
      exact this.mpr q
  refine ⟨hA, fun l q => (hall l q).2.1, ?_, ⟨fun v q => ?_, fun v q => ?_, fun v q q2 => ?_, fun l u v q hb q2 => ?_⟩, hlit⟩
  · rcases c7 with c7 | ⟨g0, l, x, y, g1, g2, g3, g4, g5⟩
    · refine Or.inl ⟨c7, ?_⟩
      have ch : ∀ l, cl l → ∃ w u, zbt fi se l u w ∧ by' w = l ∧ th w ∧ (if by' (fi l) = l then fi l else se l) = w ∧ de w = de u + 1 ∧ u ≠ w := by
        intro l q
        have r := hcl l q
        obtain ⟨t1, t2, t3⟩ := hl l r.1 r.2
        have par : ∀ w, th w → by' w = l → ∃ u, zbt fi se l u w ∧ de w = de u + 1 := by
          intro w hw e
          obtain ⟨p1, p2 | ⟨p2, u, p3, p4, p5, p6⟩⟩ := hA w hw
          · omega
          · rw [e] at p4; exact ⟨u, p4, p6⟩
        by_cases e : by' (fi l) = l
        · obtain ⟨u, u1, u2⟩ := par _ t1 e
          exact ⟨fi l, u, u1, e, t1, if_pos e, u2, fun z => by rw [z] at u2; omega⟩
        · have e2 := ((hall l q).2.2 c7).resolve_left e
          obtain ⟨u, u1, u2⟩ := par _ t2 e2
          exact ⟨se l, u, u1, e2, t2, if_neg e, u2, fun z => by rw [z] at u2; omega⟩
      refine kRad_rank (fun l => 32 * (de (if by' (fi l) = l then fi l else se l)).toNat + l.toNat) 1000 (fun l q => ?_) (fun l l' q q' e => ?_) (fun l q => ?_)
      · obtain ⟨w, u, w1, w2, w3, w4, w5, w6⟩ := ch l q
        rw [w4]
        have := (hA w w3).1
        have := hcl l q
        omega
      · have := hcl l q
        have := hcl l' q'
        omega
      · obtain ⟨w, u, w1, w2, w3, w4, w5, w6⟩ := ch l q
        have nf : ∀ x, fd x → ¬ x = w := fun x hx z => by
          have := (hfd x hx).2.2.1
          have := hcl l q
          rw [z] at *
          omega
        refine ⟨fun x => decide (x = w), fun x y hx hy => ?_, ?_, fun l' q' lt => ?_⟩
        · simp only [nf x hx, nf y hy]
        · rcases w1 with ⟨x, y⟩ | ⟨x, y⟩
          · simp [x, y, w6]
          · simp [x, y, w6]
        · obtain ⟨w', u', x1, x2, x3, x4, x5, x6⟩ := ch l' q'
          have hw : ¬ w' = w := fun z => by
            rw [z, w2] at x2
            rw [x2] at lt; omega
          have hu : ¬ u' = w := fun z => by
            simp only [w4, x4] at lt
            rw [z] at x5
            have := (hA w w3).1
            have := hcl l q
            have := hcl l' q'
            omega
          rcases x1 with ⟨x, y⟩ | ⟨x, y⟩
          · simp only [x, y, hw, hu]
          · simp only [x, y, hw, hu]
    · refine Or.inr ⟨g0, fun hr => ?_⟩
      obtain ⟨c, k1, k2, k3⟩ := hr l g1.2.2
      have hc : ∀ v, th v → cl (by' v) → c (fi (by' v)) = c (se (by' v)) := fun v hv q => by
        refine k3 _ q (fun e => ?_)
        obtain ⟨p1, p2 | ⟨p2, u, p3, p4, p5, p6⟩⟩ := hA v hv
        · have := hcl l g1.2.2
          omega
        · rw [e] at p4
          rcases zbt_ends g2 p4 with ⟨s1, s2⟩ | ⟨s1, s2⟩
          · rw [s2] at e; exact g4.2.2 e
          · rw [s2] at e; exact g3.2.2 e
      have e1 := kA_col hA hc x ((hsn x).mpr g3.2.1)
      have e2 := kA_col hA hc y ((hsn y).mpr g4.2.1)
      refine zbt_nc g2 k2 ?_
      rw [e1, e2]
      rcases g5 with g5 | g5
      · rw [g5]
      · exact k1 _ _ g5.1 g5.2
  · have := hfd v q
    exact ⟨(hlit v).mpr ⟨this.1, by rw [this.2.1]; exact q⟩, this.2⟩
  · have := (hlit v).mp q
    exact ⟨hth v this.1, this.2, (hA v this.1).1⟩
  · have t := (hlit v).mp q
    obtain ⟨p1, p2 | ⟨p2, u, p3, p4, p5, p6⟩⟩ := hA v t.1
    · rw [p2.2.2] at t; exact absurd t.2 q2
    · exact ⟨p2, u, p4, (hlit u).mpr ⟨p3, by rw [← p5]; exact t.2⟩, p5, p6⟩
  · have t := (hlit u).mp q2
    have hz := (hall l q).2.1
    have r := hcl l q
    obtain ⟨t1, t2, t3⟩ := hl l r.1 r.2
    have hzs : zsame fd rt u v := by
      rcases hb with ⟨x, y⟩ | ⟨x, y⟩
      · rw [x, y] at hz; exact hz
      · rw [x, y] at hz
        rcases hz with z | z
        · exact Or.inl z.symm
        · exact Or.inr ⟨z.2, z.1⟩
    have tv : th v := by
      rcases hb with ⟨x, y⟩ | ⟨x, y⟩
      · rw [← y]; exact t2
      · rw [← x]; exact t1
    refine (hlit v).mpr ⟨tv, ?_⟩
    rcases hzs with z | z
    · rw [← z]; exact t.2
    · exact z.2
