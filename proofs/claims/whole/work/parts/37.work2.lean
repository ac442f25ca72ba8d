/-! the class: work -/
theorem zWK_feed {fd : Int → Prop} {fi se : Int → Int} {m : Int} {cl sn sn' : Int → Prop} {rt by' de qu : Int → Int} {qn w : Int} (h : zWK fd fi se m cl sn rt by' de qu qn 0 0 (fun _ => False) 1) (hfd : ∀ i, 0 ≤ i → i < qn → fd (qu i)) (hw : 0 ≤ w ∧ w < 16) (fw : fd w) (hu : ¬ sn w) (hsn : ∀ x, sn' x ↔ sn x ∨ x = w) : qn < 16 ∧ zWK fd fi se m cl sn' (fset rt w w) (fset by' w (-1)) (fset de w 0) (fset qu qn w) (qn + 1) 0 0 (fun _ => False) 1 := by
  obtain ⟨⟨a0, a1, a2, a3⟩, c2, c3, c4, c5, c6, c7, c8, c9⟩ := h
  have hwr : ∀ i, 0 ≤ i → i < qn → qu i ≠ w := fun i h0 h1 q => hu (by rw [← q]; exact (c2 i h0 h1).2.1)
  have qO : ∀ i, i < qn → fset qu qn w i = qu i := fun i h1 => fset_o _ (by omega)
  have hqn : qn + 1 ≤ 16 := by
    refine pigI (f := fset qu qn w) (n := qn + 1) (b := 16) (fun i h0 h1 => ?_) (fun i j h0 h1 h2 h3 q => ?_) (by omega)
    · by_cases z : i = qn
      · subst z; rw [fset_s]; exact hw
      · rw [fset_o _ z]; exact (c2 i h0 (by omega)).1
    · by_cases z : i = qn
      · by_cases z2 : j = qn
        · omega
        · rw [z, fset_s, fset_o _ z2] at q; exact absurd q.symm (hwr j h2 (by omega))
      · by_cases z2 : j = qn
        · rw [z2, fset_s, fset_o _ z] at q; exact absurd q (hwr i h0 (by omega))
        · rw [fset_o _ z, fset_o _ z2] at q; exact c3 i j h0 (by omega) h2 (by omega) q
  have root : ∀ i, 0 ≤ i → i < qn → by' (qu i) = -1 ∧ de (qu i) = 0 ∧ rt (qu i) = qu i := fun i h0 h1 => by
    rcases c5 i h0 h1 with g | ⟨g1, j, g2, g3, g4, g5⟩
    · exact g
    · rcases g4 with g4 | g4
      · omega
      · exact g4.2.elim
  have new : ∀ i, 0 ≤ i → i < qn + 1 → fset by' w (-1) (fset qu qn w i) = -1 ∧ fset de w 0 (fset qu qn w i) = 0 ∧ fset rt w w (fset qu qn w i) = fset qu qn w i ∧ fd (fset qu qn w i) := fun i h0 h1 => by
    by_cases z : i = qn
    · rw [z, fset_s, fset_s, fset_s, fset_s]; exact ⟨rfl, rfl, rfl, fw⟩
    · have hi : i < qn := by omega
      rw [qO i hi, fset_o _ (hwr i h0 hi), fset_o _ (hwr i h0 hi), fset_o _ (hwr i h0 hi)]
      have := root i h0 hi
      exact ⟨this.1, this.2.1, this.2.2, hfd i h0 hi⟩
  refine ⟨by omega, ⟨by omega, by omega, by omega, by omega⟩, fun i h0 h1 => ?_, fun i j h0 h1 h2 h3 q => ?_, fun v h0 h1 q => ?_, fun i h0 h1 => ?_, fun i l u h0 h1 h2 h3 h4 h5 h6 => ?_, Or.inl rfl, fun i l u h0 h1 => by omega, fun i j h0 h1 h2 h3 => ?_⟩
  · rw [(new i h0 h1).2.1]
    by_cases z : i = qn
    · rw [z, fset_s]
      exact ⟨hw, (hsn w).mpr (Or.inr rfl), by omega, by omega⟩
    · rw [qO i (by omega)]
      have := c2 i h0 (by omega)
      exact ⟨this.1, (hsn _).mpr (Or.inl this.2.1), by omega, by omega⟩
  · by_cases z : i = qn
    · by_cases z2 : j = qn
      · omega
      · rw [z, fset_s, fset_o _ z2] at q; exact absurd q.symm (hwr j h2 (by omega))
    · by_cases z2 : j = qn
      · rw [z2, fset_s, fset_o _ z] at q; exact absurd q (hwr i h0 (by omega))
      · rw [fset_o _ z, fset_o _ z2] at q; exact c3 i j h0 (by omega) h2 (by omega) q
  · rcases (hsn v).mp q with q | q
    · obtain ⟨i, d2, d3, d4⟩ := c4 v h0 h1 q
      exact ⟨i, d2, by omega, by rw [qO i d3]; exact d4⟩
    · exact ⟨qn, by omega, by omega, by rw [fset_s]; exact q.symm⟩
  · have := new i h0 h1
    exact Or.inl ⟨this.1, this.2.1, this.2.2.1⟩
  · rcases h5 with h5 | h5
    · omega
    · exact h5.2.elim
  · have x := new i h0 h1
    have y := new j h2 h3
    exact Or.inr ⟨by rw [x.2.2.1]; exact x.2.2.2, by rw [y.2.2.1]; exact y.2.2.2⟩
/-- what a reckoning holds -/
def zFO (M : zM) (f : Int) : Prop :=
  (kA (tbs (M 4 0)) (M 6) (M 7) (tbs (M f 0)) (M (f + 1)) (M (f + 2)) (M (f + 3)))
  ∧ (∀ l, tbs (M f 0) l → zsame (tbs (M 4 1)) (M (f + 1)) (M 6 l) (M 7 l))
  ∧ ((M f 1 = 1 ∧ kRad (tbs (M 4 1)) (M 6) (M 7) (tbs (M f 0))) ∨ (M f 1 = 0 ∧ ¬ kRad (tbs (M 4 1)) (M 6) (M 7) (tbs (M f 0))))
  ∧ kT (tbs (M 4 1)) (M 6) (M 7) (tbs (M f 0)) (tbs (M f 2)) (M (f + 1)) (M (f + 2)) (M (f + 3))
  ∧ (∀ v, tbs (M f 2) v ↔ tbs (M 4 0) v ∧ tbs (M 4 1) (M (f + 1) v))
  ∧ kF (tbs (M 4 1)) (M 5) (M 6) (M 7) (tbs (M f 2)) (M (f + 2)) (M (f + 4)) (M (f + 5)) (M (f + 6))
  ∧ M f 4 = zsum (fun v => if tb (M f 2) v = true then M 5 v else 0) 16
  ∧ M f 5 = zsum (fun l => M 8 l * M (f + 5) l * M (f + 5) l) (M 4 2).toNat
  ∧ zmk (M f 3) (fun l => l < M 4 2 ∧ M 9 l < M (f + 5) l)
section WKK
variable {Q : Int → zM → Prop} {M : zM} {f : Int}
theorem c19 {v w : Int} (kw : zKT w = (2, 1)) (hv : 0 ≤ v ∧ v < 32) (h0 : ¬ tbs (M w 1) v → Q 0 M) (h1 : tbs (M w 1) v → Q 1 M) : zF 19 Q [(2, w), (0, v)] M :=
  s19_0 kw ⟨fun q => h0 ((tbs_shr hv).mp q), fun q => h1 (Classical.byContradiction fun z => q ((tbs_shr hv).mpr z))⟩
theorem c2 {v : Int} (kf : zKT f = (2, 0)) (hv : 0 ≤ v ∧ v < 32) (h0 : ¬ tbs (M f 2) v → Q 0 M) (h1 : tbs (M f 2) v → Q 1 M) : zF 2 Q [(2, f), (0, v)] M :=
  s2_0 kf ⟨fun q => h0 ((tbs_shr hv).mp q), fun q => h1 (Classical.byContradiction fun z => q ((tbs_shr hv).mpr z))⟩
/-- the last steps -/
theorem c1_d (kf : zKT f = (2, 0)) (hW : zWC M) {sh : Int} (hsh : ∀ l, tbs sh l → l < M 4 2) {lc : Int} {M' : zM} {b : Int} (hF : zFf f M M') (h0 : M' f 0 = sh) (hB : zWF M' f b (M' f 13) (fun _ => False)) (hlc : 0 ≤ lc ∧ lc ≤ M' f 13) (hsn : ∀ v, tbs (M 4 0) v ↔ tbs (M' f 14) v) (hfd : ∀ v, tbs (M 4 1) v → M' (f + 1) v = v ∧ M' (f + 2) v = -1 ∧ M' (f + 3) v = 0)
    (hlt : ∀ i, 0 ≤ i → i < M' f 13 → (i < lc ↔ tbs (M' f 2) (M' (f + 7) i)) ∧ (tbs (M' f 2) (M' (f + 7) i) ↔ tbs (M 4 1) (M' (f + 1) (M' (f + 7) i)))) (hls : ∀ v, tbs (M' f 2) v → tbs (M' f 14) v)
    (hQ : ∀ M', zFf f M M' → M' f 0 = sh → zFO M' f → Q 0 M') : zF 10 (fun _ M3 => zF 11 (fun _ M6 => Q 0 M6) [(2, f), (2, 4)] M3) [(2, f), (2, 4), (0, lc)] M' := by
  have hf := zin_0 kf
  obtain ⟨e4, e5, e6, e7, e8, e9, e10, e11⟩ := zWC_Ff hf hF
  have hW' : zWC M' := by
    unfold zWC zTL at hW ⊢
    rw [e4, e5, e6, e7, e8, e9, e10, e11]; exact hW
  have hm := hW.1
  have fin := zWK_fin (th := tbs (M' 4 0)) (lit := tbs (M' f 2)) (lc := lc) hB hW'.1.2 (fun l q => ⟨q.1.1, by rw [e4]; rw [h0] at q; exact hsh l q⟩) (fun l a b => by have := (hW'.2.2.2.2.1 l a b).1; exact ⟨this.2.2.2.1, this.2.2.2.2, this.2.2.1⟩) (fun v q => ⟨q.1.1, hW'.2.1 v q⟩) (by rw [e4]; exact hsn) (fun v q => by rw [e4] at q; exact ⟨by rw [e4]; exact hW.2.2.1 v q, hfd v q⟩) (by rw [e4]; exact hlt) hls
  obtain ⟨⟨a0, a1, a2, a3⟩, k2, k3, k4, k5, k6, k7, k8, k9⟩ := id hB
  obtain ⟨f1, f2, f3, f4, f5⟩ := fin
  refine c10 kf hW' ⟨hlc.1, by omega⟩ (fun j p q => (k2 j p (by omega)).1) (fun i j p q r s => k3 i j p (by omega) r (by omega)) (fun j p q z => ?_) (fun M2 hc hB2 => ?_)
  · rcases k5 j p (by omega) with g | ⟨g1, j2, g2, g3, g4, g5, g6⟩
    · exact absurd g.1 z
    · exact ⟨⟨g1.1, g1.2.1⟩, j2, g2, g3, g5⟩
  · obtain ⟨hF2, r1, r2, r3, r7, r0⟩ := hc
    obtain ⟨e4', e5', e6', e7', e8', e9', e10', e11'⟩ := zWC_Ff hf hF2
    have hW2 : zWC M2 := by
      unfold zWC zTL at hW' ⊢
      rw [e4', e5', e6', e7', e8', e9', e10', e11']; exact hW'
    obtain ⟨b1, b2, b3, b5, b6, b7, b8⟩ := hB2
    refine c11 kf hW2 (fun l p q => b6 l p q) (fun M3 g1 g2 g3 g4 => ?_)
    have hrow : ∀ a, a ≠ f → M3 a = M2 a := g1
    have z4 := hrow 4 (by omega)
    have z5 := hrow 5 (by omega)
    have z6 := hrow 6 (by omega)
    have z7 := hrow 7 (by omega)
    have z8 := hrow 8 (by omega)
    have z9 := hrow 9 (by omega)
    have y1 := hrow (f + 1) (by omega)
    have y2 := hrow (f + 2) (by omega)
    have y3 := hrow (f + 3) (by omega)
    have y4 := hrow (f + 4) (by omega)
    have y5 := hrow (f + 5) (by omega)
    have y6 := hrow (f + 6) (by omega)
    have x0 : M3 f 0 = M' f 0 := (g2 0 (by decide) (by decide)).trans (r0 0 (by decide))
    have x1 : M3 f 1 = M' f 1 := (g2 1 (by decide) (by decide)).trans (r0 1 (by decide))
    have x2 : M3 f 2 = M' f 2 := (g2 2 (by decide) (by decide)).trans (r0 2 (by decide))
    have x4 : M3 f 4 = M2 f 4 := g2 4 (by decide) (by decide)
    have hlit : ∀ v, tbs (M' f 2) v → ∃ i, 0 ≤ i ∧ i < lc ∧ M' (f + 7) i = v := fun v q => by
      have t := (f5 v).mp q
      obtain ⟨i, i0, i1, i2⟩ := k4 v t.1.1.1 (hW'.2.1 v t.1) (hls v q)
      have := (hlt i i0 i1).1
      rw [i2] at this
      exact ⟨i, i0, this.mpr q, i2⟩
    refine hQ M3 (fun a i p => by rw [hrow a (by omega), hF2 a i p, hF a i p]) (by rw [x0]; exact h0) ?_
    unfold zFO
    rw [z4, z5, z6, z7, z8, z9, y1, y2, y3, y4, y5, y6, x0, x1, x2, x4, e4', e5', e6', e7', r1, r2, r3]
    refine ⟨f1, f2, f3, f4, f5, ⟨fun v q => ?_, fun v q q2 => ?_, fun l p q => ⟨(b3 l p q).1, fun z => ?_⟩, fun v q => ?_, b6⟩, ?_, ?_, ?_⟩
    · obtain ⟨i, i0, i1, i2⟩ := hlit v q
      have := b1 i i0 i1
      rw [i2] at this
      exact this
    · obtain ⟨i, i0, i1, i2⟩ := hlit v q
      have h2 := b2 i (by omega) i0 i1
      rw [i2] at h2
      have h3 := f4.2.2.1 v q q2
      have h3' := h3.1
      rw [h0] at h3'
      have h4 := hsh _ h3'
      have h5 := h3'.1
      have h6 := h2 (by omega)
      exact ⟨by omega, h6.1, h6.2.1⟩
    · obtain ⟨j, j0, j1, j2, j3⟩ := (b3 l p q).2 z
      refine ⟨M' (f + 7) j, ((hlt j j1 (by omega)).1).mp j2, fun w => ?_, j3⟩
      rw [e4] at w
      have := (hfd _ w).2.1
      omega
    · exact b5 v (f4.2.1 v q).1.1 (f4.2.1 v q).1.2
    · rw [show ((-1 : Int) + 1).toNat = 0 by decide] at b8
      have b8' : M2 f 4 + 0 = zsum (fun j => M' 5 (M' (f + 7) j)) lc.toNat := b8
      rw [show M2 f 4 = zsum (fun j => M' 5 (M' (f + 7) j)) lc.toNat by omega, zsum_enum (qu := M' (f + 7)) (g := M' 5) 16 lc.toNat (fun j p q => (k2 j p (by omega)).1) (fun i j p q r s => k3 i j p (by omega) r (by omega))]
      refine zsum_congr 16 (fun v hv => ?_)
      have : zmem (M' (f + 7)) lc.toNat v = true ↔ tb (M' f 2) v = true := by
        rw [zmem_iff]
        constructor
        · rintro ⟨j, j0, j1, j2⟩
          have := ((hlt j j0 (by omega)).1).mp (by omega)
          rw [j2] at this
          exact this.2
        · intro z
          obtain ⟨i, i0, i1, i2⟩ := hlit v ⟨⟨by omega, by omega⟩, z⟩
          exact ⟨i, i0, by omega, i2⟩
      by_cases z : tb (M' f 2) v = true
      · rw [if_pos z, if_pos (this.mpr z)]
      · rw [if_neg z, if_neg (fun w => z (this.mp w))]
    · rw [g3, e4', e8']
    · rw [e4', e9'] at g4
      rw [e9']
      exact g4
end WKK
