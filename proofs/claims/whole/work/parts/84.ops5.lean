/-! load, cures, back -/
section OP5
variable {M : zM} {a1 a2 : Int}
theorem c129 {Qm : Int → zM → Prop} {M1 X V : zM} {A : List zM} (hn : nst M) (h1 : mN (pnet M) (M 4 3) M1) (hL : zLS M1) (hmP : mP M1 A) (hA : ∀ Y, Y ∈ A → nst Y) (hX : neq M X)
    (hbad : ¬ (((0 ≤ a1 ∧ a1 < 16) ∧ tbs (M 4 0) a1) ∧ 0 ≤ a2 ∧ a2 ≤ 99) → zF 99 Qm [(2, 123), (0, -2)] M1)
    (hno : (((0 ≤ a1 ∧ a1 < 16) ∧ tbs (M 4 0) a1) ∧ 0 ≤ a2 ∧ a2 ≤ 99) → (tbs (M 4 1) a1 ∨ M 5 a1 = a2) → zF 99 Qm [(2, 123), (0, -3)] M1)
    (hV4 : V 4 = M 4) (hV5 : V 5 = fset (M 5) a1 a2) (hVr : ∀ a, 6 ≤ a → a ≤ 11 → V a = M a)
    (hfu : (((0 ≤ a1 ∧ a1 < 16) ∧ tbs (M 4 0) a1) ∧ 0 ≤ a2 ∧ a2 ≤ 99) → ¬ tbs (M 4 1) a1 → ¬ M 5 a1 = a2 → ¬ (∀ l, 0 ≤ l → l < 32 → pov (pnet V) (M 4 3) l → pov (pnet M) (M 4 3) l) → ∀ M3, mfx M1 M3 → mN (pnet M) (M 4 3) M3 → zLS M3 → zF 99 Qm [(2, 123), (0, -4)] M3)
    (hok : (((0 ≤ a1 ∧ a1 < 16) ∧ tbs (M 4 0) a1) ∧ 0 ≤ a2 ∧ a2 ≤ 99) → ¬ tbs (M 4 1) a1 → ¬ M 5 a1 = a2 → (∀ l, 0 ≤ l → l < 32 → pov (pnet V) (M 4 3) l → pov (pnet M) (M 4 3) l) → ∀ M2, (∀ a i, ¬ (142 ≤ a ∧ a ≤ 158) → ¬ (a = 123 ∧ (31 ≤ i ∨ i = 11)) → a ≠ 127 → a ≠ 132 → a ≠ 133 → M2 a i = M1 a i) → mP M2 (ppush A X) → mN (pnet V) (M 4 3) M2 → zLS M2 → Qm (M 5 a1) M2) : zF 129 Qm [(2, 123), (0, a1), (0, a2)] M1 := by
  obtain ⟨hW, hp, hd, hr0, hr1, hr4⟩ := id hn
  have hpW := pW_of hW
  have hm := hW.1
  have hk : ∀ v, 0 ≤ v → v < 16 → (tbs (M 4 1) v ↔ M1 126 v = 1) ∧ (tbs (M 4 0) v ↔ ¬ M1 126 v = 0) ∧ M1 127 v = M 5 v := fun v v0 v1 => by
    have := h1.2.1 v v0 v1
    rw [pnet_40, pnet_41, pnet_5] at this
    exact ⟨this.1, this.2.1, this.2.2.1⟩
  refine s129_0 (c124 ⟨fun q => hbad (fun z => ?_), fun q => c98 ⟨fun q2 => ?_, fun q2 => hbad (fun z => ?_)⟩⟩)
  · rw [if_pos ⟨z.1.1, (hk a1 z.1.1.1 z.1.1.2).2.1.mp z.1.2⟩] at q; cases q
  · have hv : (0 ≤ a1 ∧ a1 < 16) ∧ ¬ M1 126 a1 = 0 := Classical.byContradiction fun z => q (if_neg z)
    have ha : 0 ≤ a2 ∧ a2 ≤ 99 := Classical.byContradiction fun z => q2 (if_neg z)
    have hkk := hk a1 hv.1.1 hv.1.2
    have good : ((0 ≤ a1 ∧ a1 < 16) ∧ tbs (M 4 0) a1) ∧ 0 ≤ a2 ∧ a2 ≤ 99 := ⟨⟨hv.1, hkk.2.1.mpr hv.2⟩, ha⟩
    rw [hkk.2.2]
    refine ⟨hv.1, fun z => hno good (Or.inl (hkk.1.mpr z)), fun z => ⟨fun z2 => ?_, fun z2 => hno good (Or.inr z2)⟩⟩
    have nf : ¬ tbs (M 4 1) a1 := fun y => z (hkk.1.mp y)
    have nV : nst V := nst_5 hn good.1 nf ha hV4 hV5 hVr
    have hpV := pW_of nV.1
    have eV3 : V 4 3 = M 4 3 := by rw [hV4]
    have pV := nV.2.1
    rw [eV3] at pV
    refine c121' hpW h1 hp.1 hL (fun x17 hx17 => ?_)
    have mN1 : mN (pnet V) (M 4 3) (zset M1 127 a1 a2) := by have := mN_5 (V := V) (M3 := M1) hv.1 hV4 hV5 hVr h1; rw [eV3] at this; exact this
    refine c118' hpV mN1 (fun M21 d1 d2 d3 => c121' hpV d2 pV.1 d3 (fun x23 hx23 => ?_))
    have be := zbear hx23 hx17
    have row127 : zset M21 127 a1 (M 5 a1) 127 = M1 127 := by
      rw [zrow_s]
      funext i
      by_cases e : i = a1
      · rw [e, fset_s, hkk.2.2]
      · rw [fset_o _ e, d1 127 i (by omega) (by omega), zrow_s, fset_o _ e]
    have fr : ∀ a i, a ≠ 127 → ¬ (142 ≤ a ∧ a ≤ 148) → ¬ (a = 123 ∧ i = 31) → zset M21 127 a1 (M 5 a1) a i = M1 a i := fun a i p q r => by rw [zrow_o _ p, d1 a i q r, zrow_o _ p]
    have fx : mfx M1 (zset M21 127 a1 (M 5 a1)) := fun a i p q r => by
      by_cases e : a = 127
      · subst e; rw [row127]
      · exact fr a i e (by omega) (by omega)
    have mN2 : mN (pnet M) (M 4 3) (zset M21 127 a1 (M 5 a1)) := mN_mv (by rw [pnet_42]; exact hm.2) h1 (fr 123 3 (by decide) (by omega) (by omega)) (fun v _ _ => ⟨fr 126 v (by decide) (by omega) (by omega), by rw [row127]⟩) (fun l _ _ => ⟨fr 128 l (by decide) (by omega) (by omega), fr 129 l (by decide) (by omega) (by omega), fr 130 l (by decide) (by omega) (by omega), fr 131 l (by decide) (by omega) (by omega), fr 132 l (by decide) (by omega) (by omega)⟩)
    refine ⟨fun y => c118' hpW mN2 (fun M28 e1 e2 e3 => hfu good nf z2 (fun w => y (be.mpr w)) M28 (mfx_t fx (mfx_f (mfr_7 e1))) e2 e3), fun y => c118' hpW mN2 (fun M34 e1 e2 e3 => ?_)⟩
    have f34 : mfx M1 M34 := mfx_t fx (mfx_f (mfr_7 e1))
    have mP34 : mP M34 A := mP_cg hmP (f34 123 11 (by omega) (by omega) (by omega)) (mfx_row f34 (by omega) (by omega) (by omega))
    refine c115 mP34 (fun Y hY => (hA Y hY).1) (mN_neq hW e2 hX) (zWC_neq hW hX) (fun M37 b1 b2 => ?_)
    have mN37 : mN (pnet M) (M 4 3) M37 := mN_mv (by rw [pnet_42]; exact hm.2) e2 (b1 123 3 (by decide) (by omega)) (fun v _ _ => ⟨b1 126 v (by decide) (by omega), b1 127 v (by decide) (by omega)⟩) (fun l _ _ => ⟨b1 128 l (by decide) (by omega), b1 129 l (by decide) (by omega), b1 130 l (by decide) (by omega), b1 131 l (by decide) (by omega), b1 132 l (by decide) (by omega)⟩)
    have mN38 : mN (pnet V) (M 4 3) (zset M37 127 a1 a2) := by have := mN_5 (V := V) (M3 := M37) hv.1 hV4 hV5 hVr mN37; rw [eV3] at this; exact this
    refine c118' hpV mN38 (fun M40 c1' c2' c3' => hok good nf z2 (be.mp y) M40 (fun a i p q r s t => ?_) ?_ c2' c3')
    · rw [c1' a i (by omega) (by omega), zrow_o _ r]
      exact mfx_notes f34 b1 a i p q s t
    · exact mP_cg b2 (by rw [c1' 123 11 (by omega) (by omega), zrow_o _ (by decide)]) (by rw [show M40 133 = zset M37 127 a1 a2 133 from funext fun i => c1' 133 i (by omega) (by omega), zrow_o _ (by decide)])
  · rw [if_pos z.2] at q2; cases q2
theorem op_load (h : Inv M) : opk 74 129 [(0, a1), (0, a2)] M := by
  obtain ⟨A, hA, ⟨hcP, hn, ⟨hF, hF2⟩, hk⟩, ⟨hmP, hmN, hLS⟩, hT, hR⟩ := id h
  obtain ⟨hW, hp, hd, hr0, hr1, hr4⟩ := id hn
  have hpW := pW_of hW
  have hm := hW.1
  have mPr : ∀ M2, mst M M2 → mP M2 A := fun M2 b1 => mP_cg hmP (by rw [b1.2.2 123 (by omega)]) (b1.2.2 133 (by omega))
  have v4 : zset M 5 a1 a2 4 = M 4 := zrow_o _ (by decide)
  have v5 : zset M 5 a1 a2 5 = fset (M 5) a1 a2 := zrow_s _ _ _ _
  have vr : ∀ a, 6 ≤ a → a ≤ 11 → zset M 5 a1 a2 a = M a := fun a p q => zrow_o _ (by omega)
  have bad : ¬ (((0 ≤ a1 ∧ a1 < 16) ∧ tbs (M 4 0) a1) ∧ 0 ≤ a2 ∧ a2 ≤ 99) → zF 91 (fun r Mx => zF 129 (fun r' M2 => r = r' ∧ Inv M2) [(2, 123), (0, a1), (0, a2)] Mx) [(2, 1), (0, -2)] M := fun z => refuse2 h (cro_r h) (by omega) (fun M2 Qm b1 b2 => c129 (X := M) (V := zset M 5 a1 a2) hn b1.1 b1.2.1 (mPr M2 b1) hA neq_r (fun _ => b2 M2 mfx_r b1.1 b1.2.1) (fun y => absurd y z) v4 v5 vr (fun y => absurd y z) (fun y => absurd y z))
  refine s74_0 (c17 rfl (fun z => ⟨fun _ => bad (fun y => z y.1), fun y => absurd rfl y⟩) (fun hv => ⟨fun y => absurd y (by decide), fun _ => ⟨fun q => bad (by omega), fun q => ⟨fun q2 => ⟨hv.1, ?_⟩, fun q2 => bad (by omega)⟩⟩⟩))
  have good : ((0 ≤ a1 ∧ a1 < 16) ∧ tbs (M 4 0) a1) ∧ 0 ≤ a2 ∧ a2 ≤ 99 := ⟨hv, by omega⟩
  have nno : (tbs (M 4 1) a1 ∨ M 5 a1 = a2) → zF 91 (fun r Mx => zF 129 (fun r' M2 => r = r' ∧ Inv M2) [(2, 123), (0, a1), (0, a2)] Mx) [(2, 1), (0, -3)] M := fun z => refuse2 h (cro_r h) (by omega) (fun M2 Qm b1 b2 => c129 (X := M) (V := zset M 5 a1 a2) hn b1.1 b1.2.1 (mPr M2 b1) hA neq_r (fun y => absurd good y) (fun _ _ => b2 M2 mfx_r b1.1 b1.2.1) v4 v5 vr (fun _ y1 y2 => z.elim (fun x => absurd x y1) (fun x => absurd x y2)) (fun _ y1 y2 => z.elim (fun x => absurd x y1) (fun x => absurd x y2)))
  refine c19 rfl (by omega) (fun nf => ⟨fun y => absurd rfl y, fun _ => ⟨fun z => ?_, fun z => nno (Or.inr z)⟩⟩) (fun yf => ⟨fun _ => nno (Or.inl yf), fun y => absurd y (by decide)⟩)
  have nV : nst (zset M 5 a1 a2) := nst_5 hn hv nf good.2 v4 v5 vr
  have hsh : ∀ l, tbs (M 4 3) l → l < zset M 5 a1 a2 4 2 := by rw [v4]; have := hp.1.1; rw [pnet_42] at this; exact this
  refine c1 rfl nV.1 hsh (fun M22 g1 g2 g3 => ?_)
  have row : ∀ a, ¬ (20 ≤ a ∧ a ≤ 27) → M22 a = zset M 5 a1 a2 a := fun a ha => zFf_row g1 (by omega)
  have hp22 : pnet M22 = pnet (zset M 5 a1 a2) := pnet_cg (fun a p q => row a (by omega))
  have pV := nV.2.1
  rw [show zset M 5 a1 a2 4 3 = M 4 3 by rw [v4]] at pV
  have ov1 := zFO_ov (zWC_cg nV.1 (fun a p q => row a (by omega))) g3 (by rw [hp22, g2]; exact pV.1.2)
  rw [hp22, g2] at ov1
  have ov0 := zFO_ov hW hF (by rw [hF2]; exact hp.1.2)
  rw [hF2] at ov0
  have be := zbear ov1 ov0
  generalize hM23 : zset M22 5 a1 (M 5 a1) = M23
  have r23 : ∀ a, ¬ (20 ≤ a ∧ a ≤ 27) → M23 a = M a := fun a ha => by
    by_cases e : a = 5
    · subst e
      rw [← hM23, zrow_s, row 5 (by omega), v5]
      funext i
      by_cases e : i = a1
      · rw [e, fset_s]
      · rw [fset_o _ e, fset_o _ e]
    · rw [← hM23, zrow_o _ e, row a ha, zrow_o _ e]
  have e20 : M23 20 = M22 20 := by rw [← hM23, zrow_o _ (by decide)]
  have hc1 : cro M M23 := cro_20 h r23
  refine s3_0 rfl ?_
  rw [e20, r23 12 (by omega)]
  refine ⟨fun y => ⟨fun x => absurd rfl x, fun _ => refuse2 h hc1 (by omega) (fun M2 Qm b1 b2 => c129 (X := M) (V := zset M 5 a1 a2) hn b1.1 b1.2.1 (mPr M2 b1) hA neq_r (fun x => absurd good x) (fun _ x => x.elim (fun w => absurd w nf) (fun w => absurd w z)) v4 v5 vr (fun _ _ _ _ M3 x1 x2 x3 => b2 M3 x1 x2 x3) (fun _ _ _ x => absurd (be.mpr x) y))⟩, fun y => ⟨fun _ => ?_, fun x => absurd x (by decide)⟩⟩
  have cP1 : cP M23 A := cP_cg hcP (fun a p q => r23 a (by omega))
  refine keep_settle cP1 (fun M7 => zset M7 5 a1 a2) (fun M7 a p q => zrow_o _ q) (fun M7 g => ?_) (fun M7 M10 X k1 k2 k3 k4 k5 k6 k7 k8 k9 => ?_)
  · exact nst_5 hn hv nf good.2 (by rw [zrow_o _ (by decide), g 4 (by omega), r23 4 (by omega)]) (by rw [zrow_s, g 5 (by omega), r23 5 (by omega)]) (fun a p q => by rw [zrow_o _ (by omega), g a (by omega), r23 a (by omega)])
  · have ro : ∀ a, ¬ (12 ≤ a ∧ a ≤ 27) → ¬ (28 ≤ a ∧ a ≤ 77) → a ≠ 5 → a ≠ 97 → a ≠ 112 → M10 a = M a := fun a p q r s t => by rw [k5 a (by omega) s t, zrow_o _ r, k1 a q, r23 a (by omega)]
    have w4 : M10 4 = M 4 := ro 4 (by omega) (by omega) (by decide) (by decide) (by decide)
    have w5 : M10 5 = fset (M 5) a1 a2 := by rw [k5 5 (by omega) (by decide) (by decide), zrow_s, k1 5 (by omega), r23 5 (by omega)]
    have wr : ∀ a, 6 ≤ a → a ≤ 11 → M10 a = M a := fun a p q => ro a (by omega) (by omega) (by omega) (by omega) (by omega)
    have epn : pnet M10 = pnet (zset M 5 a1 a2) := pnet_eq (fun i _ => by rw [w4, v4]) (fun a p q => by
      by_cases e : a = 5
      · subst e; rw [w5, v5]
      · rw [wr a (by omega) (by omega), vr a (by omega) (by omega)])
    have b1 : mst M M10 := mst_of h (fun a ha => ro a (by omega) (by omega) (by omega) (by omega) (by omega))
    have k2' : neq M X := neq_t (neq_cg neq_r (fun a p q => r23 a (by omega))) k2
    refine c129 (X := X) (V := zset M 5 a1 a2) hn b1.1 b1.2.1 (mPr M10 b1) hA k2' (fun x => absurd good x) (fun _ x => x.elim (fun w => absurd w nf) (fun w => absurd w z)) v4 v5 vr (fun _ _ _ x => absurd (be.mp y) x) (fun _ _ _ _ M2 y1 y2 y3 y4 => ⟨rfl, ?_⟩)
    exact Inv_mk2 h hA hn k2' k3 k4 k7 k8 k9 (fun a ha => ro a (by omega) (by omega) (by omega) (by omega) (by omega)) (fun a i ha => y1 a i (by omega) (by omega) (by omega) (by omega) (by omega)) y2 (by rw [epn, w4]; exact y3) y4
theorem op_back (h : Inv M) : opk 88 116 [] M := by
  obtain ⟨A, hA, ⟨hcP, hn, ⟨hF, hF2⟩, hk⟩, ⟨hmP, hmN, hLS⟩, hT, hR⟩ := id h
  have hc := hcP.1.1
  have hmc := hmP.1
  rcases List.eq_nil_or_concat A with e | ⟨A', X, e⟩
  · subst e
    refine s88_0 ⟨fun z => absurd hc z, fun _ => refuse2 h (cro_r h) (by omega) (fun M2 Qm b1 b2 => s116_0 ⟨fun z => absurd ?_ z, fun _ => b2 M2 mfx_r b1.1 b1.2.1⟩)⟩
    rw [b1.2.2 123 (by omega)]; exact hmc
  · rw [List.concat_eq_append] at e
    subst e
    have hlen : (A' ++ [X]).length = A'.length + 1 := by simp
    have nX := hA X (by simp)
    have hA' : ∀ Y, Y ∈ A' → nst Y := fun Y hY => hA Y (List.mem_append_left _ hY)
    refine s88_0 ⟨fun _ => c27 hcP (fun M3 g1 g2 g3 g4 => ?_), fun z => by rw [hlen] at hc; omega⟩
    have n3 : nst M3 := nst_neq nX g3
    have hb := n3.2.1.1.1
    rw [pnet_42] at hb
    refine c92 n3.1 hb (fun M6 k1 k2 k3 k4 k5 => ?_)
    have ro : ∀ a, ¬ (4 ≤ a ∧ a ≤ 19) → a ≠ 28 → a ≠ 97 → a ≠ 112 → M6 a = M a := fun a p q r s => by rw [k1 a (by omega) r s, g1 a (by omega) q]
    have e28 : M6 28 1 = (A'.length : Int) := by rw [k1 28 (by omega) (by decide) (by decide)]; exact g2
    have b1 : mst M M6 := mst_of h (fun a ha => ro a (by omega) (by omega) (by omega) (by omega))
    rw [e28]
    have n6 : nst M6 := nst_cg n3 (fun a p q => k1 a (by omega) (by omega) (by omega))
    have mP6 : mP M6 (A' ++ [X]) := mP_cg hmP (by rw [b1.2.2 123 (by omega)]) (b1.2.2 133 (by omega))
    refine c116 mP6 (fun Y hY => (hA' Y hY).1) nX.1 (fun M2 y1 y2 y3 y4 => ⟨rfl, ?_⟩)
    have nq : neq X M6 := neq_cg g3 (fun a p q => k1 a (by omega) (by omega) (by omega))
    refine Inv_mk h hA' (cP_cg g4 (fun a p q => k1 a (by omega) (by omega) (by omega))) n6 k3 k4 k5 (ro 1 (by omega) (by decide) (by decide) (by decide)) (ro 3 (by omega) (by decide) (by decide) (by decide)) (ro 2 (by omega) (by decide) (by decide) (by decide)) (fun a ha => funext fun i => y1 a i (by omega) (by omega) (by omega)) y4 (mN_neq nX.1 y2 nq) y3 ?_ ?_ ?_
    · rw [y1 123 2 (by omega) (by omega) (by omega), b1.2.2 123 (by omega)]
    · funext i; rw [y1 124 i (by omega) (by omega) (by omega), b1.2.2 124 (by omega)]
    · funext i; rw [y1 125 i (by omega) (by omega) (by omega), b1.2.2 125 (by omega)]
end OP5
