/-! a run of best exchanges: fewer than 1000000, and only one -/
def pmx (N : zM) (S t l g : Int) : Prop := pA N S t l g ∧ ∀ t' l' g', pA N S t' l' g' → g' < g ∨ (g' = g ∧ (t < t' ∨ (t = t' ∧ l ≤ l')))
def psh (N : zM) (S : Int) : Prop := pok N S ∧ pD N S ∧ r32 S ∧ ∃ fl ne, pX N S fl ne
def pHist (N : zM) (T : Nat → Int) (n : Nat) : Prop := (∀ i, i ≤ n → psh N (T i)) ∧ ∀ i, i < n → ∃ t l g, pmx N (T i) t l g ∧ T (i + 1) = pex (T i) t l
def pRun (N : zM) (S : Int) (n : Nat) (S' : Int) : Prop := ∃ T : Nat → Int, T 0 = S ∧ T n = S' ∧ pHist N T n ∧ ∀ t l g, ¬ pA N S' t l g
theorem pmx_u {N : zM} {S t l g t' l' g' : Int} (h : pmx N S t l g) (h' : pmx N S t' l' g') : t = t' ∧ l = l' := by
  have a := h.2 _ _ _ h'.1
  have b := h'.2 _ _ _ h.1
  omega
theorem pmx_of {N : zM} {S t l g : Int} (h : kB (pA N S) t l g) (ht : t ≠ -1) : pmx N S t l g := by
  rcases h with ⟨a, _⟩ | ⟨a, b, c⟩
  · exact absurd a ht
  · exact ⟨a, c⟩
theorem pmx_no {N : zM} {S t l g : Int} (h : kB (pA N S) t l g) (ht : t = -1) : ∀ t l g, ¬ pA N S t l g := by
  rcases h with ⟨a, _, _, b⟩ | ⟨a, b, c⟩
  · exact b
  · have := a.1.1.1; omega
theorem pRun_u {N : zM} {S : Int} {n m : Nat} {S' S'' : Int} (h : pRun N S n S') (g : pRun N S m S'') : n = m ∧ S' = S'' := by
  obtain ⟨T, t0, t1, t2, t3⟩ := h
  obtain ⟨U, u0, u1, u2, u3⟩ := g
  have same : ∀ i, i ≤ n → i ≤ m → T i = U i := by
    intro i
    induction i with
    | zero => intro _ _; rw [t0, u0]
    | succ i ih =>
      intro h1 h2
      have e := ih (by omega) (by omega)
      obtain ⟨a, b, c, d1, d2⟩ := t2.2 i (by omega)
      obtain ⟨a', b', c', d1', d2'⟩ := u2.2 i (by omega)
      rw [← e] at d1' d2'
      have := pmx_u d1 d1'
      rw [d2, d2', this.1, this.2]
  have hnm : n = m := by
    rcases Nat.lt_trichotomy n m with q | q | q
    · obtain ⟨a, b, c, d1, _⟩ := u2.2 n q
      rw [← same n (Nat.le_refl _) (by omega), t1] at d1
      exact absurd d1.1 (t3 _ _ _)
    · exact q
    · obtain ⟨a, b, c, d1, _⟩ := t2.2 m q
      rw [same m (by omega) (Nat.le_refl _), u1] at d1
      exact absurd d1.1 (u3 _ _ _)
  refine ⟨hnm, ?_⟩
  rw [← t1, ← u1, hnm]
  exact same m (by omega) (Nat.le_refl _)
section HB
variable {N : zM} {T : Nat → Int} {n : Nat}
/-- what an exchange of a run does -/
theorem px_step {S t l g : Int} (hW : pW N) (hS : psh N S) (h : pA N S t l g) : ∃ e0, e0 ∈ prg N S t ∧ e0.1 = l ∧ ptie N S t ∧ pok N (pex S t l) ∧ pD N (pex S t l) ∧ r32 (pex S t l) ∧ (∀ fl ne, pX N (pex S t l) fl ne → g = pls N S - pls N (pex S t l) ∧ 0 < g ∧ ∀ x, 0 ≤ x → x < 32 → pov N (pex S t l) x → pov N S x) := by
  obtain ⟨ht, e, e1, e2, e3, e4⟩ := h
  obtain ⟨x, x1, x2⟩ := List.mem_map.mp e1
  obtain ⟨hk, hd, hr, fl, ne, hX⟩ := hS
  have el : x.1 = l := by rw [← e2, ← x2]
  have es : ksg (N 6) (pG N S) x = e.2 := by rw [← x2]
  refine ⟨x, x1, el, ht, by rw [← el]; exact pok_x hW hk ht.1 x1, fun y hy => ?_, zand_r _ _, fun fl2 ne2 hX2 => ?_⟩
  · rw [← el] at hy
    rcases ((pex_s hW hk ht.1 x1 y).mp hy).1 with q | q
    · exact hd y q
    · rw [q]; exact ht.2.2
  · rw [← el] at hX2 ⊢
    have g1 := px_gain hW hk ht.1 ht.2.1 x1 hX hX2
    have g2 := px_may hW hk ht.1 ht.2.1 x1 hX hX2
    rw [es] at g1 g2
    rw [← e3, g1]
    exact ⟨rfl, e4.1, g2.mpr e4.2⟩
theorem pH_fall (hW : pW N) (h : pHist N T n) : ∀ i j, i < j → j ≤ n → pls N (T j) < pls N (T i) ∧ (∀ x, 0 ≤ x → x < 32 → pov N (T j) x → pov N (T i) x) := by
  intro i j
  induction j with
  | zero => intro q; omega
  | succ j ih =>
    intro q1 q2
    obtain ⟨t, l, g, a, b⟩ := h.2 j (by omega)
    obtain ⟨e0, c1, c2, c3, c4, c5, c6, c7⟩ := px_step hW (h.1 j (by omega)) a.1
    obtain ⟨_, _, _, fl, ne, hX⟩ := h.1 (j + 1) q2
    rw [b] at hX ⊢
    have c8 := c7 fl ne hX
    by_cases e : i = j
    · subst e
      exact ⟨by omega, c8.2.2⟩
    · have := ih (by omega) (by omega)
      exact ⟨by omega, fun x x0 x1 hx => this.2 x x0 x1 (c8.2.2 x x0 x1 hx)⟩
theorem pH_col (hW : pW N) (h : pHist N T n) {c : Int → Bool} (hc : kfc (tbs (N 4 1)) c) : ∀ j, j ≤ n → ((∀ l, tbs (T 0) l → c (N 6 l) = c (N 7 l)) ↔ (∀ l, tbs (T j) l → c (N 6 l) = c (N 7 l))) := by
  intro j
  induction j with
  | zero => intro _; exact Iff.rfl
  | succ j ih =>
    intro q
    obtain ⟨t, l, g, a, b⟩ := h.2 j (by omega)
    have hS := h.1 j (by omega)
    obtain ⟨e0, c1, c2, c3, c4, c5, c6, c7⟩ := px_step hW hS a.1
    have hR := prg_r c1
    rw [ih (by omega), b, ← c2]
    exact kx_col c3.2.1 hR.1 hR.2 c1 (pex_s hW hS.1 c3.1 c1) hc
theorem pcard_x {S t l : Int} (hl : (0 ≤ l ∧ l < 24) ∧ tbs S l) (ht : (0 ≤ t ∧ t < 24) ∧ ¬ tbs S t) : pcard (pex S t l) = pcard S := by
  have hb := pex_b (S := S) (t := t) (l := l) (by omega) (by omega)
  have ne : t ≠ l := fun e => ht.2 (by rw [e]; exact hl.2)
  have iff : ∀ i : Nat, i < 24 → (tb (pex S t l) i = true ↔ ((tb S i = true) ∨ (i : Int) = t) ∧ (i : Int) ≠ l) := fun i hi => by
    have := hb i
    unfold tbs at this
    constructor
    · intro z
      have := this.mp ⟨by omega, z⟩
      exact ⟨this.1.elim (fun y => Or.inl y.2) Or.inr, this.2⟩
    · rintro ⟨z1, z2⟩
      exact (this.mpr ⟨z1.elim (fun y => Or.inl ⟨by omega, y⟩) Or.inr, z2⟩).2
  have d1 := zsum_ch (f := fun i => if tb (pex S t l) i = true then 1 else 0) (g := fun i => if i = t then 1 else if tb S i = true then 1 else 0) 24 l.toNat (by omega) (fun i hi q => by
    have q' : (i : Int) ≠ l := by omega
    by_cases e : (i : Int) = t
    · rw [if_pos e, if_pos ((iff i hi).mpr ⟨Or.inr e, q'⟩)]
    · rw [if_neg e]
      by_cases y : tb S i = true
      · rw [if_pos y, if_pos ((iff i hi).mpr ⟨Or.inl y, q'⟩)]
      · rw [if_neg y, if_neg (fun z => (((iff i hi).mp z).1).elim y e)])
  have d2 := zsum_ch (f := fun i => if i = t then 1 else if tb S i = true then 1 else 0) (g := fun i => if tb S i = true then 1 else 0) 24 t.toNat (by omega) (fun i hi q => by
    rw [if_neg (show ¬ ((i : Nat) : Int) = t by omega)])
  have el : ((l.toNat : Nat) : Int) = l := by omega
  have et : ((t.toNat : Nat) : Int) = t := by omega
  rw [el, if_neg (fun z => by have := (iff l.toNat (by omega)).mp (by rw [el]; exact z); rw [el] at this; exact this.2 rfl), if_neg (fun e => ne e.symm), if_pos hl.2.2] at d1
  rw [et, if_pos rfl, if_neg (fun z => ht.2 ⟨by omega, z⟩)] at d2
  unfold pcard
  omega
theorem pH_card (hW : pW N) (h : pHist N T n) : ∀ j, j ≤ n → pcard (T j) = pcard (T 0) := by
  intro j
  have hm := hW.1
  induction j with
  | zero => intro _; rfl
  | succ j ih =>
    intro q
    obtain ⟨t, l, g, a, b⟩ := h.2 j (by omega)
    have hS := h.1 j (by omega)
    obtain ⟨e0, c1, c2, c3, c4, c5, c6, c7⟩ := px_step hW hS a.1
    have hs := prg_S hS.1 c1
    rw [c2] at hs
    have := hS.1.1 l hs
    have := hs.1
    have := c3.1
    rw [b, pcard_x ⟨by omega, hs⟩ ⟨by omega, c3.2.1⟩, ih (by omega)]
/-- no neighbours but one behind the other -/
theorem pH_far (hW : pW N) (h : pHist N T n) {i j : Nat} (hij : i + 1 < j) (hj : j ≤ n) : ¬ pnb (T i) (T j) := by
  rintro ⟨t, l, ht, hl, h1, h2, h3⟩
  have hm := hW.1
  have hSi := h.1 i (by omega)
  have hSj := h.1 j hj
  have hx : ∀ x, tbs (T j) x ↔ (tbs (T i) x ∨ x = t) ∧ x ≠ l := fun x => by
    constructor
    · intro z
      have a := hSj.1.1 x z
      have b := z.1
      exact (h3 x (by omega) (by omega)).mp z
    · intro z
      have b : 0 ≤ x ∧ x < 24 := by
        rcases z.1 with y | y
        · have := hSi.1.1 x y
          have := y.1
          omega
        · omega
      exact (h3 x b.1 b.2).mpr z
  have htl : t ≠ l := fun e => h1 (by rw [e]; exact h2)
  have htj : tbs (T j) t := (hx t).mpr ⟨Or.inr rfl, htl⟩
  have htm := hSj.1.1 t htj
  have hcon : kcon (tbs (N 4 1)) (N 6) (N 7) (tbs (T i)) (N 6 t) (N 7 t) := fun c c1 c2 => by
    have e1 := (pH_col hW h c1 i (by omega)).mpr c2
    exact (pH_col hW h c1 j hj).mp e1 t htj
  obtain ⟨P, hP⟩ := kP_ex hcon
  have hpr : prg N (T i) t = P := prg_of hSi.1.2 (pok_ne hW hSi.1) hP
  have hlP : l ∈ kls P := Classical.byContradiction fun q => by
    obtain ⟨c, c1, c2, c3⟩ := hSj.1.2 t htj
    refine c2 (kP_c c1 (fun y hy => ?_) hP.1)
    obtain ⟨e, e1, e2⟩ := List.mem_map.mp hy
    have hs := (kP_S hP.1 e e1).1
    rw [e2] at hs
    exact c3 y ((hx y).mpr ⟨Or.inl hs, fun e => q (by rw [← e]; exact hy)⟩) (fun e => h1 (by rw [← e]; exact hs))
  obtain ⟨e0, e1, e2⟩ := List.mem_map.mp hlP
  rw [← hpr] at e1
  have hti : ptie N (T i) t := ⟨by omega, h1, hSj.2.1 t htj⟩
  have hTj : T j = pex (T i) t e0.1 := tbs_ext hSj.2.2.1 (zand_r _ _) (fun x => by rw [hx x, pex_s hW hSi.1 hti.1 e1 x, e2])
  obtain ⟨_, _, _, fl, ne, hX⟩ := hSi
  obtain ⟨_, _, _, fl2, ne2, hX2⟩ := hSj
  have hSi := h.1 i (by omega)
  have hf := pH_fall hW h i j (by omega) hj
  rw [hTj] at hX2 hf
  have g1 := px_gain hW hSi.1 hti.1 h1 e1 hX hX2
  have g2 := px_may hW hSi.1 hti.1 h1 e1 hX hX2
  obtain ⟨t', l', g', a, b⟩ := h.2 i (by omega)
  have hpA : pA N (T i) t e0.1 (pls N (T i) - pls N (pex (T i) t e0.1)) := ⟨hti, (e0.1, ksg (N 6) (pG N (T i)) e0), List.mem_map.mpr ⟨e0, e1, rfl⟩, rfl, g1.symm, by rw [← g1]; omega, g2.mp hf.2⟩
  have big := a.2 _ _ _ hpA
  obtain ⟨_, _, _, _, _, _, _, c7⟩ := px_step hW hSi a.1
  obtain ⟨_, _, _, fl3, ne3, hX3⟩ := h.1 (i + 1) (by omega)
  rw [b] at hX3
  have c8 := c7 fl3 ne3 hX3
  have hf2 := (pH_fall hW h (i + 1) j (by omega) hj).1
  rw [hTj, b] at hf2
  omega
theorem pHist_b (hW : pW N) (h : pHist N T n) : n < 1000000 := by
  refine Classical.byContradiction fun q => ?_
  have hn : 1000000 ≤ n := by omega
  have := pig 8388608 12000024 (fun k => pcode (T (2 * (k / 24))) (k % 24)) (fun k _ => pcode_lt _ _) (fun k k' hk hk' e => ?_)
  · omega
  · have hcd : pcard (T (2 * (k / 24))) = pcard (T (2 * (k' / 24))) := (pH_card hW h _ (by omega)).trans (pH_card hW h _ (by omega)).symm
    rcases pcode_inj (by omega) (by omega) hcd e with ⟨e1, e2⟩ | e1
    · by_cases w : k / 24 = k' / 24
      · omega
      · exfalso
        have hS1 := h.1 (2 * (k / 24)) (by omega)
        have hS2 := h.1 (2 * (k' / 24)) (by omega)
        have hm := hW.1
        have hT : T (2 * (k / 24)) = T (2 * (k' / 24)) := tbs_ext hS1.2.2.1 hS2.2.2.1 (fun x => by
          constructor
          · intro z
            have a := hS1.1.1 x z
            have b := z.1
            have := e2 x.toNat (by omega)
            rw [show ((x.toNat : Nat) : Int) = x by omega] at this
            exact ⟨b, by rw [← this]; exact z.2⟩
          · intro z
            have a := hS2.1.1 x z
            have b := z.1
            have := e2 x.toNat (by omega)
            rw [show ((x.toNat : Nat) : Int) = x by omega] at this
            exact ⟨b, by rw [this]; exact z.2⟩)
        rcases Nat.lt_or_gt_of_ne w with y | y
        · have := (pH_fall hW h (2 * (k / 24)) (2 * (k' / 24)) (by omega) (by omega)).1
          rw [hT] at this; omega
        · have := (pH_fall hW h (2 * (k' / 24)) (2 * (k / 24)) (by omega) (by omega)).1
          rw [hT] at this; omega
    · exfalso
      by_cases w : k / 24 = k' / 24
      · rw [w] at e1
        obtain ⟨t, l, ht, hl, h1, h2, h3⟩ := e1
        exact ((h3 l hl.1 hl.2).mp h2).2 rfl
      · rcases Nat.lt_or_gt_of_ne w with y | y
        · exact pH_far hW h (by omega) (by omega) e1
        · exact pH_far hW h (by omega) (by omega) (pnb_s e1)
end HB
