/-! closes, load -/
section OP4
variable {M : zM} {a1 a2 : Int}
theorem mfx_notes {M1 M2 M3 : zM} (h : mfx M1 M2) (g : ∀ a i, a ≠ 133 → ¬ (a = 123 ∧ i = 11) → M3 a i = M2 a i) : ∀ a i, ¬ (142 ≤ a ∧ a ≤ 158) → ¬ (a = 123 ∧ (31 ≤ i ∨ i = 11)) → a ≠ 132 → a ≠ 133 → M3 a i = M1 a i := fun a i p q r s => by rw [g a i s (by omega), h a i p (by omega) r]
theorem c131 {Qm : Int → zM → Prop} {M1 X : zM} {A : List zM} (hn : nst M) (h1 : mN (pnet M) (M 4 3) M1) (hL : zLS M1) (hmP : mP M1 A) (hA : ∀ Y, Y ∈ A → nst Y) (hX : neq M X)
    (hbad : ¬ (0 ≤ a1 ∧ a1 < M 4 2) → zF 99 Qm [(2, 123), (0, -2)] M1)
    (hno : (0 ≤ a1 ∧ a1 < M 4 2) → (¬ ptie (pnet M) (M 4 3) a1 ∨ ¬ prad (pnet M) (zor (M 4 3) (zshl 1 a1))) → ∀ M3, mfx M1 M3 → mN (pnet M) (M 4 3) M3 → zLS M3 → zF 99 Qm [(2, 123), (0, -3)] M3)
    (hfu : ptie (pnet M) (M 4 3) a1 → prad (pnet M) (zor (M 4 3) (zshl 1 a1)) → ¬ (∀ l, 0 ≤ l → l < 32 → pov (pnet M) (zor (M 4 3) (zshl 1 a1)) l → pov (pnet M) (M 4 3) l) → ∀ M3, mfx M1 M3 → mN (pnet M) (M 4 3) M3 → zLS M3 → zF 99 Qm [(2, 123), (0, -4)] M3)
    (hok : ptie (pnet M) (M 4 3) a1 → prad (pnet M) (zor (M 4 3) (zshl 1 a1)) → (∀ l, 0 ≤ l → l < 32 → pov (pnet M) (zor (M 4 3) (zshl 1 a1)) l → pov (pnet M) (M 4 3) l) → ∀ M2, (∀ a i, ¬ (142 ≤ a ∧ a ≤ 158) → ¬ (a = 123 ∧ (31 ≤ i ∨ i = 11)) → a ≠ 132 → a ≠ 133 → M2 a i = M1 a i) → mP M2 (ppush A X) → mN (pnet M) (zor (M 4 3) (zshl 1 a1)) M2 → zLS M2 → Qm (zw (plt (pnet M) (zor (M 4 3) (zshl 1 a1)) - plt (pnet M) (M 4 3))) M2) : zF 131 Qm [(2, 123), (0, a1)] M1 := by
  obtain ⟨hW, hp, hd, hr0, hr1, hr4⟩ := id hn
  have hpW := pW_of hW
  have hm := hW.1
  have h3 : M1 123 3 = M 4 2 := by rw [h1.1, pnet_42]
  refine s131_0 (c123 (by rw [h3]; exact hm) ⟨fun q => ?_, fun q => hbad (fun z => by rw [h3, if_pos z] at q; cases q)⟩)
  have hl : 0 ≤ a1 ∧ a1 < M 4 2 := Classical.byContradiction fun z => q (by rw [h3, if_neg z])
  have hl' : 0 ≤ a1 ∧ a1 < pnet M 4 2 := by rw [pnet_42]; exact hl
  refine c125 (by rw [h3]; exact hm) ⟨fun q2 => ?_, fun q2 => hno hl (Or.inl (fun z => ?_)) M1 mfx_r h1 hL⟩
  · have ho : M1 132 a1 = 0 := by
      have : (0 ≤ a1 ∧ a1 < M1 123 3) ∧ M1 132 a1 = 0 := Classical.byContradiction fun z => q2 (if_neg z)
      exact this.2
    have tie := (mN_tie h1 hl').mp ho
    have bS : ∀ l, tbs (zor (M 4 3) (zshl 1 a1)) l → l < pnet M 4 2 := fun l hl2 => by
      rcases (tbs_or1 (by omega)).mp hl2 with y | y
      · exact hp.1.1 l y
      · rw [y]; exact hl'.2
    refine c121' hpW h1 hp.1 hL (fun x9 hx9 => c122' hpW h1 hp.1.1 hL ⟨by omega, ?_⟩)
    have mN1 : mN (pnet M) (zor (M 4 3) (zshl 1 a1)) (zset M1 132 a1 1) := mN_close h1 hl' (by omega) tie.2.2
    refine c130' hpW mN1 bS (fun M16 r g1 g2 => ?_)
    have mN16 : mN (pnet M) (zor (M 4 3) (zshl 1 a1)) M16 := mN_hi mN1 (fun a p q => g1 a (by omega))
    have fx16 : mfx M1 M16 := fun a i p q r => by rw [g1 a (by omega), zrow_o _ r]
    have back : ∀ M17, mfx M16 M17 → M17 132 = M16 132 → mfx M1 (zset M17 132 a1 0) ∧ mN (pnet M) (M 4 3) (zset M17 132 a1 0) := fun M17 y1 y2 => by
      have f17 : mfx M1 M17 := mfx_t fx16 y1
      refine ⟨mfx_s f17 (by omega), ?_⟩
      have e132 : zset M17 132 a1 0 132 = M1 132 := by
        rw [zrow_s, y2, g1 132 (by decide), zrow_s]
        funext i
        by_cases e : i = a1
        · rw [e, fset_s, ho]
        · rw [fset_o _ e, fset_o _ e]
      exact mN_mv (by rw [pnet_42]; exact hm.2) h1 (by rw [zrow_o _ (by decide)]; exact f17 123 3 (by omega) (by omega) (by omega)) (fun v _ _ => ⟨by rw [zrow_o _ (by decide)]; exact f17 126 v (by omega) (by omega) (by omega), by rw [zrow_o _ (by decide)]; exact f17 127 v (by omega) (by omega) (by omega)⟩) (fun l _ _ => ⟨by rw [zrow_o _ (by decide)]; exact f17 128 l (by omega) (by omega) (by omega), by rw [zrow_o _ (by decide)]; exact f17 129 l (by omega) (by omega) (by omega), by rw [zrow_o _ (by decide)]; exact f17 130 l (by omega) (by omega) (by omega), by rw [zrow_o _ (by decide)]; exact f17 131 l (by omega) (by omega) (by omega), by rw [e132]⟩)
    refine ⟨fun q3 => ?_, fun q3 => ?_⟩
    · have nr : ¬ prad (pnet M) (zor (M 4 3) (zshl 1 a1)) := by
        rcases g2 with ⟨a, _⟩ | ⟨_, b⟩
        · omega
        · exact b
      obtain ⟨k1, k2⟩ := back M16 mfx_r rfl
      exact c118' hpW k2 (fun M20 d1 d2 d3 => hno hl (Or.inr nr) M20 (mfx_t k1 (mfx_f (mfr_7 d1))) d2 d3)
    · have hrad : prad (pnet M) (zor (M 4 3) (zshl 1 a1)) := by
        rcases g2 with ⟨_, b⟩ | ⟨a, _⟩
        · exact b
        · exact absurd a q3
      refine c118' hpW mN16 (fun M26 d1 d2 d3 => c121' hpW d2 ⟨bS, hrad⟩ d3 (fun x28 hx28 => ?_))
      have be := zbear hx28 hx9
      obtain ⟨k1, k2⟩ := back M26 (mfx_f (mfr_7 d1)) (funext fun i => d1 132 i (by omega) (by omega))
      refine ⟨fun q4 => c118' hpW k2 (fun M33 e1 e2 e3 => hfu tie hrad (fun z => q4 (be.mpr z)) M33 (mfx_t k1 (mfx_f (mfr_7 e1))) e2 e3), fun q4 => c118' hpW k2 (fun M39 e1 e2 e3 => ?_)⟩
      have f39 : mfx M1 M39 := mfx_t k1 (mfx_f (mfr_7 e1))
      have mP39 : mP M39 A := mP_cg hmP (f39 123 11 (by omega) (by omega) (by omega)) (mfx_row f39 (by omega) (by omega) (by omega))
      refine c115 mP39 (fun Y hY => (hA Y hY).1) (mN_neq hW e2 hX) (zWC_neq hW hX) (fun M42 b1 b2 => ?_)
      have mN42 : mN (pnet M) (M 4 3) M42 := mN_mv (by rw [pnet_42]; exact hm.2) e2 (b1 123 3 (by decide) (by omega)) (fun v _ _ => ⟨b1 126 v (by decide) (by omega), b1 127 v (by decide) (by omega)⟩) (fun l _ _ => ⟨b1 128 l (by decide) (by omega), b1 129 l (by decide) (by omega), b1 130 l (by decide) (by omega), b1 131 l (by decide) (by omega), b1 132 l (by decide) (by omega)⟩)
      refine c118' hpW (mN_close mN42 hl' (by omega) tie.2.2) (fun M45 c1' c2' c3' => c122' hpW c2' bS c3' (hok tie hrad (be.mp q4) M45 (fun a i p q r s => ?_) ?_ c2' c3'))
      · rw [c1' a i (by omega) (by omega), zrow_o _ r]
        exact mfx_notes f39 b1 a i p q r s
      · exact mP_cg b2 (by rw [c1' 123 11 (by omega) (by omega), zrow_o _ (by decide)]) (by rw [show M45 133 = zset M42 132 a1 1 133 from funext fun i => c1' 133 i (by omega) (by omega), zrow_o _ (by decide)])
  · rw [if_pos ⟨by rw [h3]; exact hl, (mN_tie h1 hl').mpr z⟩] at q2; cases q2
theorem cro_20 {M1 : zM} (h : Inv M) (g : ∀ a, ¬ (20 ≤ a ∧ a ≤ 27) → M1 a = M a) : cro M M1 := ⟨fun a p _ => g a p, iK_cg (Inv_iK h) (fun a p q => g a (by omega)) (fun a p q => g a (by omega)) (g 112 (by omega))⟩
theorem op_closes (h : Inv M) : opk 75 131 [(0, a1)] M := by
  obtain ⟨A, hA, ⟨hcP, hn, ⟨hF, hF2⟩, hk⟩, ⟨hmP, hmN, hLS⟩, hT, hR⟩ := id h
  obtain ⟨hW, hp, hd, hr0, hr1, hr4⟩ := id hn
  have hpW := pW_of hW
  have hm := hW.1
  have mPr : ∀ M2, mst M M2 → mP M2 A := fun M2 b1 => mP_cg hmP (by rw [b1.2.2 123 (by omega)]) (b1.2.2 133 (by omega))
  refine s75_0 (c18 rfl (fun z => ⟨fun y => absurd rfl y, fun _ => refuse2 h (cro_r h) (by omega) (fun M2 Qm b1 b2 => c131 (X := M) hn b1.1 b1.2.1 (mPr M2 b1) hA neq_r (fun _ => b2 M2 mfx_r b1.1 b1.2.1) (fun y => absurd y z) (fun y => absurd y.1 (by rw [pnet_42]; exact z)) (fun y => absurd y.1 (by rw [pnet_42]; exact z)))⟩) (fun hl => ⟨fun _ => c21 hm (by omega) (fun nt => ⟨fun y => absurd rfl y, fun _ => refuse2 h (cro_r h) (by omega) (fun M2 Qm b1 b2 => c131 (X := M) hn b1.1 b1.2.1 (mPr M2 b1) hA neq_r (fun y => absurd hl y) (fun _ _ M3 y1 y2 y3 => b2 M3 y1 y2 y3) (fun y => absurd y nt) (fun y => absurd y nt))⟩) (fun tie => ⟨fun _ => ?_, fun y => absurd y (by decide)⟩), fun y => absurd y (by decide)⟩))
  have bS : ∀ l, tbs (zor (M 4 3) (zshl 1 a1)) l → l < M 4 2 := fun l hl2 => by
    rcases (tbs_or1 (by omega)).mp hl2 with y | y
    · have := hp.1.1 l y; rw [pnet_42] at this; exact this
    · rw [y]; exact hl.2
  refine c1 rfl hW bS (fun M1 g1 g2 g3 => ?_)
  have row : ∀ a, ¬ (20 ≤ a ∧ a ≤ 27) → M1 a = M a := fun a ha => zFf_row g1 (by omega)
  have hr : ∀ a, 4 ≤ a → a ≤ 11 → M1 a = M a := fun a p q => row a (by omega)
  have hp1 : pnet M1 = pnet M := pnet_cg hr
  have hc1 : cro M M1 := cro_20 h row
  have hrad : M1 20 1 = 1 ↔ prad (pnet M) (zor (M 4 3) (zshl 1 a1)) := by
    have := zFO_rad g3
    rw [hp1, g2] at this; exact this
  have h01 : M1 20 1 = 1 ∨ M1 20 1 = 0 := by
    obtain ⟨_, _, o3, _⟩ := g3
    rcases o3 with ⟨a, _⟩ | ⟨a, _⟩
    · exact Or.inl a
    · exact Or.inr a
  refine ⟨fun q => ?_, fun q => refuse2 h hc1 (by omega) (fun M2 Qm b1 b2 => c131 (X := M) hn b1.1 b1.2.1 (mPr M2 b1) hA neq_r (fun y => absurd hl y) (fun _ _ M3 y1 y2 y3 => b2 M3 y1 y2 y3) (fun _ y => absurd (hrad.mpr y) (by omega)) (fun _ y => absurd (hrad.mpr y) (by omega)))⟩
  have hr1' := hrad.mp (by omega)
  have ov1 := zFO_ov (zWC_cg hW hr) g3 (by rw [hp1, g2]; exact hr1')
  rw [hp1, g2] at ov1
  have ov0 := zFO_ov hW hF (by rw [hF2]; exact hp.1.2)
  rw [hF2] at ov0
  have be := zbear ov1 ov0
  refine s3_0 rfl ?_
  rw [row 12 (by omega)]
  refine ⟨fun z => ⟨fun y => absurd rfl y, fun _ => refuse2 h hc1 (by omega) (fun M2 Qm b1 b2 => c131 (X := M) hn b1.1 b1.2.1 (mPr M2 b1) hA neq_r (fun y => absurd hl y) (fun _ y => y.elim (fun x => absurd tie x) (fun x => absurd hr1' x)) (fun _ _ _ M3 y1 y2 y3 => b2 M3 y1 y2 y3) (fun _ _ y => absurd (be.mpr y) z))⟩, fun z => ⟨fun _ => ?_, fun y => absurd y (by decide)⟩⟩
  have cP1 : cP M1 A := cP_cg hcP (fun a p q => row a (by omega))
  have vv : ∀ V : zM, V 4 = fset (M 4) 3 (zor (M 4 3) (zshl 1 a1)) → (∀ a, 5 ≤ a → a ≤ 11 → V a = M a) → nst V ∧ V 4 3 = zor (M 4 3) (zshl 1 a1) ∧ pnet V = pnet M := fun V e4 ro => by
    have e3 : V 4 3 = zor (M 4 3) (zshl 1 a1) := by rw [e4, fset_s]
    have e44 : V 4 4 = M 4 4 := by rw [e4, fset_o _ (by decide)]
    have hj : ∀ j, 0 ≤ j → j ≤ 2 → V 4 j = M 4 j := fun j a b => by rw [e4, fset_o _ (by omega)]
    refine ⟨nst_34 hn hj ro (by rw [e3]; exact bS) (by rw [e3]; exact hr1') ?_ (by rw [e3]; exact zor_r _ _) (by rw [e44]; exact hd) (by rw [e44]; exact hr4), e3, pnet_eq (fun i hi => by rw [e4, fset_o _ hi]) (fun a p q => ro a p (by omega))⟩
    rw [e3, e44]
    intro l hl'
    rcases (tbs_or1 (by omega)).mp hl' with y | y
    · have := hp.2.1 l y; rw [pnet_44] at this; exact this
    · rw [y]; have := tie.2.2; rw [pnet_44] at this; exact this
  refine keep_settle cP1 (fun M7 => zset M7 4 3 (zor (M7 4 3) (zshl 1 a1))) (fun M7 a p q => by rw [zrow_o _ p]) (fun M7 g => (vv _ (by rw [zrow_s, g 4 (by omega), row 4 (by omega)]) (fun a p q => by rw [zrow_o _ (by omega), g a (by omega), row a (by omega)])).1) (fun M7 M10 X k1 k2 k3 k4 k5 k6 k7 k8 k9 => ?_)
  have ro : ∀ a, ¬ (12 ≤ a ∧ a ≤ 27) → ¬ (28 ≤ a ∧ a ≤ 77) → a ≠ 4 → a ≠ 97 → a ≠ 112 → M10 a = M a := fun a p q r s t => by rw [k5 a (by omega) s t, zrow_o _ r, k1 a q, row a (by omega)]
  have ro5 : ∀ a, 5 ≤ a → a ≤ 11 → M10 a = M a := fun a p q => ro a (by omega) (by omega) (by omega) (by omega) (by omega)
  obtain ⟨_, v3, vp⟩ := vv M10 (by rw [k5 4 (by omega) (by decide) (by decide), zrow_s, k1 4 (by omega), row 4 (by omega)]) ro5
  have b1 : mst M M10 := mst_of h (fun a ha => ro a (by omega) (by omega) (by omega) (by omega) (by omega))
  have l1 := zFO_lt hF
  rw [hF2] at l1
  have l2 := zFO_lt k7
  rw [k8, vp, v3] at l2
  rw [l1, l2]
  have k2' : neq M X := neq_t (neq_cg neq_r hr) k2
  refine c131 (X := X) hn b1.1 b1.2.1 (mPr M10 b1) hA k2' (fun y => absurd hl y) (fun _ y => y.elim (fun x => absurd tie x) (fun x => absurd hr1' x)) (fun _ _ y => absurd (be.mp z) y) (fun _ _ _ M2 y1 y2 y3 y4 => ⟨rfl, ?_⟩)
  exact Inv_mk2 h hA hn k2' k3 k4 k7 k8 k9 (fun a ha => ro a (by omega) (by omega) (by omega) (by omega) (by omega)) (fun a i ha => y1 a i (by omega) (by omega) (by omega) (by omega)) y2 (by rw [vp, v3]; exact y3) y4
/-- the net with another load -/
theorem nst_5 {V : zM} {v x : Int} (hn : nst M) (hv : (0 ≤ v ∧ v < 16) ∧ tbs (M 4 0) v) (hf : ¬ tbs (M 4 1) v) (hx : 0 ≤ x ∧ x ≤ 99) (h4 : V 4 = M 4) (h5 : V 5 = fset (M 5) v x) (hr : ∀ a, 6 ≤ a → a ≤ 11 → V a = M a) : nst V := by
  obtain ⟨hW, hp, hd, hr0, hr1, hr4⟩ := hn
  obtain ⟨w1, w2, w3, w4, w5, w6⟩ := hW
  have hW' : zWC V := by
    refine ⟨by rw [h4]; exact w1, by rw [h4]; exact w2, by rw [h4]; exact w3, fun u u0 u1 => ?_, ?_, ?_⟩
    · rw [h4, h5]
      by_cases e : u = v
      · rw [e, fset_s]; exact ⟨hx, fun z => absurd z hf, fun z => absurd hv.2 z⟩
      · rw [fset_o _ e]; exact w4 u u0 u1
    · rw [h4, hr 6 (by omega) (by omega), hr 7 (by omega) (by omega), hr 8 (by omega) (by omega), hr 9 (by omega) (by omega)]; exact w5
    · unfold zTL; rw [h4, hr 6 (by omega) (by omega), hr 7 (by omega) (by omega), hr 10 (by omega) (by omega), hr 11 (by omega) (by omega)]; exact w6
  refine ⟨hW', ⟨⟨?_, ?_⟩, ?_, by rw [h4]; exact hp.2.2⟩, by rw [h4]; exact hd, by rw [h4]; exact hr0, by rw [h4]; exact hr1, by rw [h4]; exact hr4⟩
  · have := hp.1.1; rw [pnet_42] at this ⊢; rw [h4]; exact this
  · have := hp.1.2
    unfold prad at this ⊢
    rw [pnet_41, pnet_6, pnet_7] at this ⊢
    rw [h4, hr 6 (by omega) (by omega), hr 7 (by omega) (by omega)]; exact this
  · have := hp.2.1
    unfold pD at this ⊢
    rw [pnet_44] at this ⊢
    rw [h4]; exact this
theorem mN_5 {V M3 : zM} {v x : Int} (hv : 0 ≤ v ∧ v < 16) (h4 : V 4 = M 4) (h5 : V 5 = fset (M 5) v x) (hr : ∀ a, 6 ≤ a → a ≤ 11 → V a = M a) (y : mN (pnet M) (M 4 3) M3) : mN (pnet V) (V 4 3) (zset M3 127 v x) := by
  obtain ⟨y1, y2, y3⟩ := y
  rw [pnet_42] at y1
  refine ⟨by rw [zrow_o _ (by decide), pnet_42, h4]; exact y1, fun u a b => ?_, fun l a b => ?_⟩
  · have := y2 u a b
    rw [pnet_40, pnet_41, pnet_5] at this ⊢
    rw [zrow_o _ (by decide), zrow_s, h4, h5]
    by_cases e : u = v
    · rw [e, fset_s, fset_s]; rw [e] at this; exact ⟨this.1, this.2.1, rfl, this.2.2.2⟩
    · rw [fset_o _ e, fset_o _ e]; exact this
  · rw [pnet_42, h4] at b
    have := y3 l a (by rw [pnet_42]; exact b)
    rw [pnet_6, pnet_7, pnet_8, pnet_9, pnet_44] at this ⊢
    rw [zrow_o _ (by decide), zrow_o _ (by decide), zrow_o _ (by decide), zrow_o _ (by decide), zrow_o _ (by decide), h4, hr 6 (by omega) (by omega), hr 7 (by omega) (by omega), hr 8 (by omega) (by omega), hr 9 (by omega) (by omega)]
    exact this
end OP4
