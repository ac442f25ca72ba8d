/-! exchanges, lessens -/
theorem zLS_w {M M' : zM} (h : zLS M) (g : ∀ a i, 126 ≤ a → a ≤ 132 ∨ 142 ≤ a ∧ a ≤ 148 → M' a i = M a i) (h3 : M' 123 3 = M 123 3) : zLS M' := by
  have r : ∀ a, 126 ≤ a → a ≤ 132 ∨ 142 ≤ a ∧ a ≤ 148 → M' a = M a := fun a p q => funext fun i => g a i p q
  unfold zLS
  rw [h3, r 126 (by omega) (by omega), r 127 (by omega) (by omega), r 128 (by omega) (by omega), r 129 (by omega) (by omega), r 132 (by omega) (by omega), r 142 (by omega) (by omega), r 143 (by omega) (by omega), r 144 (by omega) (by omega), r 145 (by omega) (by omega), r 147 (by omega) (by omega), r 148 (by omega) (by omega)]
  exact h
section OP8
variable {M : zM} {a1 a2 : Int}
theorem nst_S {V : zM} {S' : Int} (hn : nst M) (hp : psx (pnet M) S') (e4 : V 4 = fset (M 4) 3 S') (ro : ∀ a, 5 ≤ a → a ≤ 11 → V a = M a) : nst V ∧ V 4 3 = S' ∧ pnet V = pnet M := by
  obtain ⟨hW, _, hd, hr0, hr1, hr4⟩ := id hn
  have e3 : V 4 3 = S' := by rw [e4, fset_s]
  have e44 : V 4 4 = M 4 4 := by rw [e4, fset_o _ (by decide)]
  have hj : ∀ j, 0 ≤ j → j ≤ 2 → V 4 j = M 4 j := fun j a b => by rw [e4, fset_o _ (by omega)]
  refine ⟨nst_34 hn hj ro (by rw [e3]; have := hp.1.1; rw [pnet_42] at this; exact this) (by rw [e3]; exact hp.1.2) ?_ (by rw [e3]; exact hp.2.2) (by rw [e44]; exact hd) (by rw [e44]; exact hr4), e3, pnet_eq (fun i hi => by rw [e4, fset_o _ hi]) (fun a p q => ro a p (by omega))⟩
  rw [e3, e44]
  have := hp.2.1
  unfold pD at this
  rw [pnet_44] at this
  exact this
/-- the class's swap, then its look -/
theorem swap_look {R : zM → Prop} {t l : Int} (hn : nst M) (hp : psx (pnet M) (pex (M 4 3) t l))
    (hQ : ∀ M', (∀ a, ¬ (12 ≤ a ∧ a ≤ 19) → ¬ (92 ≤ a ∧ a ≤ 96) → a ≠ 4 → a ≠ 97 → a ≠ 112 → M' a = M a) → nst M' → M' 4 3 = pex (M 4 3) t l → pnet M' = pnet M → zFO M' 12 → M' 12 0 = M' 4 3 → iK M' → M' 92 0 = psv (pnet M) (pex (M 4 3) t l) (M 4 2).toNat → kB (pA (pnet M) (pex (M 4 3) t l)) (M' 92 1) (M' 92 2) (M' 92 3) → R M') : zF 95 (fun _ M24 => zF 64 (fun _ M27 => R M27) [(2, 92), (2, 4), (2, 12)] M24) [(2, 1), (0, t), (0, l)] M := by
  refine s95_0 (s96_0 ?_)
  have vv := nst_S (V := zset M 4 3 (pex (M 4 3) t l)) hn hp (by rw [zrow_s]) (fun a p q => zrow_o _ (by omega))
  obtain ⟨nV, v3, vp⟩ := vv
  have hb := nV.2.1.1.1
  rw [pnet_42] at hb
  refine c92 (M := zset M 4 3 (pex (M 4 3) t l)) nV.1 hb (fun M1 k1 k2 k3 k4 k5 => ?_)
  have r4 : ∀ a, 4 ≤ a → a ≤ 11 → M1 a = zset M 4 3 (pex (M 4 3) t l) a := fun a p q => k1 a (by omega) (by omega) (by omega)
  have n1 : nst M1 := nst_cg nV r4
  have hp1 : pnet M1 = pnet M := (pnet_cg r4).trans vp
  have e43 : M1 4 3 = pex (M 4 3) t l := by rw [r4 4 (by omega) (by omega)]; exact v3
  have e42 : M1 4 2 = M 4 2 := by rw [r4 4 (by omega) (by omega), zrow_s, fset_o _ (by decide)]
  refine c64 n1.1 k3 (by rw [k4, hp1, e43]; exact hp.1) (fun M2 g1 g2 g3 => ?_)
  rw [k4, hp1, e43] at g3
  rw [k4, hp1, e43, e42] at g2
  have row : ∀ a, ¬ (92 ≤ a ∧ a ≤ 96) → M2 a = M1 a := fun a ha => zfm_row g1 ha
  have r42 : ∀ a, 4 ≤ a → a ≤ 11 → M2 a = M1 a := fun a p q => row a (by omega)
  refine hQ M2 (fun a p q r s u => by rw [row a q, k1 a p s u, zrow_o _ r]) (nst_cg n1 r42) (by rw [row 4 (by omega)]; exact e43) ((pnet_cg r42).trans hp1) (zFO_cg k3 r42 (fun a p q => row a (by omega))) (by rw [row 12 (by omega), row 4 (by omega)]; exact k4) (iK_cg k5 (fun a p q => r42 a p (by omega)) (fun a p q => row a (by omega)) (row 112 (by omega))) g2 g3
theorem op_exchanges (h : Inv M) : opk 81 144 [(0, a1), (0, a2)] M := by
  obtain ⟨A, hA, ⟨hcP, hn, ⟨hF, hF2⟩, hk⟩, ⟨hmP, hmN, hLS⟩, hT, hR⟩ := id h
  obtain ⟨hW, hp, hd, hr0, hr1, hr4⟩ := id hn
  have hpW := pW_of hW
  have hm := hW.1
  have hX := zFO_X hF
  rw [hF2] at hX
  have h3 : ∀ M1, mst M M1 → M1 123 3 = M 4 2 := fun M1 h1 => by rw [h1.1.1, pnet_42]
  have bad : ¬ ((0 ≤ a1 ∧ a1 < M 4 2) ∧ 0 ≤ a2 ∧ a2 < M 4 2) → zF 91 (fun r Mx => zF 144 (fun r' M2 => r = r' ∧ Inv M2) [(2, 123), (0, a1), (0, a2)] Mx) [(2, 1), (0, -2)] M := fun z => refuse2 h (cro_r h) (by omega) (fun M2 Qm b1 b2 => s144_0 (c123 (by rw [h3 M2 b1]; exact hm) ⟨fun _ => b2 M2 mfx_r b1.1 b1.2.1, fun y => c123 (by rw [h3 M2 b1]; exact hm) ⟨fun y2 => absurd ⟨Classical.byContradiction fun w => y (by rw [h3 M2 b1, if_neg w]), Classical.byContradiction fun w => y2 (by rw [h3 M2 b1, if_neg w])⟩ z, fun _ => b2 M2 mfx_r b1.1 b1.2.1⟩⟩))
  refine s81_0 (c18 rfl (fun z => ⟨fun _ => bad (fun y => z y.1), fun y => absurd rfl y⟩) (fun hl => ⟨fun y => absurd y (by decide), fun _ => c18 rfl (fun z => ⟨fun y => absurd rfl y, fun _ => bad (fun y => z y.2)⟩) (fun hl2 => ⟨fun _ => ?_, fun y => absurd y (by decide)⟩)⟩))
  have enter : ∀ (M1 : zM) (Qm : Int → zM → Prop), mst M M1 → zF 125 (fun x12 M13 => ((x12 = 0 → zF 99 (fun x16 M17 => Qm x16 M17) [(2, 123), (0, (-3))] M13) ∧ (¬ x12 = 0 → zF 138 (fun _ M20 => zF 139 (fun x22 M23 => ((¬ x22 = 0 → zF 121 (fun x26 M27 => zF 141 (fun _ M30 => zF 118 (fun _ M33 => (((zand (M33 123 55) (zxor x26 (-1))) = 0 → zF 115 (fun _ M37 => (0 ≤ a1 ∧ a1 < 24) ∧ (0 ≤ a2 ∧ a2 < 24) ∧ zF 118 (fun _ M40 => zF 143 (fun _ M43 => Qm (M43 123 48) M43) [(2, 123)] M40) [(2, 123)] (zset (zset M37 132 a1 1) 132 a2 0)) [(2, 123)] M33) ∧ (¬ (zand (M33 123 55) (zxor x26 (-1))) = 0 → zF 99 (fun x45 M46 => Qm x45 M46) [(2, 123), (0, (-4))] M33))) [(2, 123)] M30) [(2, 123), (0, a1), (0, a2)] M27) [(2, 123)] M23) ∧ (x22 = 0 → zF 99 (fun x48 M49 => Qm x48 M49) [(2, 123), (0, (-3))] M23))) [(2, 123), (0, a2)] M20) [(2, 123), (0, a1)] M13))) [(2, 123), (0, a1)] M1 → zF 144 Qm [(2, 123), (0, a1), (0, a2)] M1 := fun M1 Qm b1 z => s144_0 (c123 (by rw [h3 M1 b1]; exact hm) ⟨fun y => by (rw [h3 M1 b1, if_pos hl] at y; exact absurd y (by decide)), fun _ => c123 (by rw [h3 M1 b1]; exact hm) ⟨fun _ => z, fun y => by (rw [h3 M1 b1, if_pos hl2] at y; exact absurd y (by decide))⟩⟩)
  refine c94 hn hF hF2 hl (fun z M1 g1 => ⟨fun y => absurd rfl y, fun _ => ?_⟩) (fun tie i hi e M1 g1 g2 g3 => ⟨fun _ => ?_, fun y => by omega⟩)
  · have hc1 : cro M M1 := cro_88 h (fun a ha => zfm_row g1 (by omega))
    exact refuse2 h hc1 (by omega) (fun M2 Qm b1 b2 => enter M2 Qm b1 (ring2 (R := fun M23 => zF 121 (fun x26 M27 => zF 141 (fun _ M30 => zF 118 (fun _ M33 => (((zand (M33 123 55) (zxor x26 (-1))) = 0 → zF 115 (fun _ M37 => (0 ≤ a1 ∧ a1 < 24) ∧ (0 ≤ a2 ∧ a2 < 24) ∧ zF 118 (fun _ M40 => zF 143 (fun _ M43 => Qm (M43 123 48) M43) [(2, 123)] M40) [(2, 123)] (zset (zset M37 132 a1 1) 132 a2 0)) [(2, 123)] M33) ∧ (¬ (zand (M33 123 55) (zxor x26 (-1))) = 0 → zF 99 (fun x45 M46 => Qm x45 M46) [(2, 123), (0, (-4))] M33))) [(2, 123)] M30) [(2, 123), (0, a1), (0, a2)] M27) [(2, 123)] M23) hn b1.1 b1.2.1 hl (fun _ M3 e1 e2 e3 => b2 M3 e1 e2 e3) (fun x1 x2 => absurd ⟨x1, x2⟩ z)))
  · have row : ∀ a, ¬ (88 ≤ a ∧ a ≤ 91) → M1 a = M a := fun a ha => zfm_row g1 (by omega)
    have r4 : ∀ a, 4 ≤ a → a ≤ 11 → M1 a = M a := fun a p q => row a (by omega)
    have hp1 : pnet M1 = pnet M := pnet_cg r4
    have e4 : M1 4 = M 4 := r4 4 (by omega) (by omega)
    have hc1 : cro M M1 := cro_88 h (fun a ha => row a (by omega))
    have hmem := List.getElem_mem hi
    obtain ⟨e0, x1, x2, x3⟩ := prs_e hmem
    have hmk : a2 ∈ kls (prg (pnet M) (M 4 3) a1) := List.mem_map.mpr ⟨e0, x1, by rw [x2]; exact e⟩
    have ea : a2 = e0.1 := by rw [x2]; exact e.symm
    have hpx : psx (pnet M) (pex (M 4 3) a1 a2) := by rw [← e]; exact psx_x hpW hp tie hmem
    have body : ∀ (M2 : zM) (Qm : Int → zM → Prop), mst M M2 → (¬ pmy (pnet M) (prs (pnet M) (M 4 3) a1) a1 (prs (pnet M) (M 4 3) a1)[i].2 → ∀ M3, mfx M2 M3 → mN (pnet M) (M 4 3) M3 → zLS M3 → zF 99 Qm [(2, 123), (0, -4)] M3) → (pmy (pnet M) (prs (pnet M) (M 4 3) a1) a1 (prs (pnet M) (M 4 3) a1)[i].2 → ∀ M3, mfx M2 M3 → mN (pnet M) (M 4 3) M3 → zLS M3 → zF 115 (fun _ M37 => (0 ≤ a1 ∧ a1 < 24) ∧ (0 ≤ a2 ∧ a2 < 24) ∧ zF 118 (fun _ M40 => zF 143 (fun _ M43 => Qm (M43 123 48) M43) [(2, 123)] M40) [(2, 123)] (zset (zset M37 132 a1 1) 132 a2 0)) [(2, 123)] M3) → zF 144 Qm [(2, 123), (0, a1), (0, a2)] M2 := fun M2 Qm b1 hf ho => by
      refine enter M2 Qm b1 (ring2 (R := fun M23 => zF 121 (fun x26 M27 => zF 141 (fun _ M30 => zF 118 (fun _ M33 => (((zand (M33 123 55) (zxor x26 (-1))) = 0 → zF 115 (fun _ M37 => (0 ≤ a1 ∧ a1 < 24) ∧ (0 ≤ a2 ∧ a2 < 24) ∧ zF 118 (fun _ M40 => zF 143 (fun _ M43 => Qm (M43 123 48) M43) [(2, 123)] M40) [(2, 123)] (zset (zset M37 132 a1 1) 132 a2 0)) [(2, 123)] M33) ∧ (¬ (zand (M33 123 55) (zxor x26 (-1))) = 0 → zF 99 (fun x45 M46 => Qm x45 M46) [(2, 123), (0, (-4))] M33))) [(2, 123)] M30) [(2, 123), (0, a1), (0, a2)] M27) [(2, 123)] M23) hn b1.1 b1.2.1 hl (fun y => absurd ⟨tie, hmk⟩ y) (fun _ _ M3 d1 d2 d3 => c121' hpW d2 hp.1 d3 (fun x26 hx26 => ?_)))
      have hd0 : M3 132 a1 = 0 := (mN_tie d2 tie.1).mpr tie
      have key := c141 (Q := fun _ M30 => zF 118 (fun _ M33 => (((zand (M33 123 55) (zxor x26 (-1))) = 0 → zF 115 (fun _ M37 => (0 ≤ a1 ∧ a1 < 24) ∧ (0 ≤ a2 ∧ a2 < 24) ∧ zF 118 (fun _ M40 => zF 143 (fun _ M43 => Qm (M43 123 48) M43) [(2, 123)] M40) [(2, 123)] (zset (zset M37 132 a1 1) 132 a2 0)) [(2, 123)] M33) ∧ (¬ (zand (M33 123 55) (zxor x26 (-1))) = 0 → zF 99 (fun x45 M46 => Qm x45 M46) [(2, 123), (0, (-4))] M33))) [(2, 123)] M30) hpW d2 hp.1 tie.1 hd0 x1 (fun M4 k1 k2 k3 k4 => ?_)
      · rw [← ea] at key; exact key
      · obtain ⟨fl2, ne2, hX2⟩ := k4
        have my := px_may hpW hp.1 tie.1 tie.2.1 x1 hX hX2
        rw [x3] at my
        have mN4 : mN (pnet M) (M 4 3) M4 := mN_fr d2 (mtr_fr k1)
        refine c118' hpW mN4 (fun M5 w1 w2 w3 => ?_)
        rw [w1 123 55 (by omega) (by omega)]
        have hz := (zbear k3 hx26).trans my
        have fx5 : mfx M2 M5 := mfx_t d1 (mfx_t (mfx_f (mtr_fr k1)) (mfx_f (mfr_7 w1)))
        exact ⟨fun y => ho (hz.mp y) M5 fx5 w2 w3, fun y => hf (fun x => y (hz.mpr x)) M5 fx5 w2 w3⟩
    refine c53 rfl (zWC_cg hW r4) (by rw [e4]; exact hl) g2 g3 (fun e he => ?_) hi (fun z => ⟨fun y => absurd rfl y, fun _ => ?_⟩) (fun z => ⟨fun _ => ?_, fun y => absurd y (by decide)⟩)
    · have := prs_b hpW hp.1 hX he
      rw [pnet_42] at this
      rw [e4]; exact this
    · rw [hp1] at z
      exact refuse2 h hc1 (by omega) (fun M2 Qm b1 b2 => body M2 Qm b1 (fun _ M3 e1 e2 e3 => b2 M3 e1 e2 e3) (fun y => absurd y z))
    · rw [hp1] at z
      have cP1 : cP M1 A := cP_cg hcP (fun a p q => row a (by omega))
      refine c26 cP1 (fun M21 k1 k2 => ?_)
      obtain ⟨X, k2, k3⟩ := k2
      have r21 : ∀ a, 4 ≤ a → a ≤ 11 → M21 a = M a := fun a p q => by rw [k1 a (by omega), row a (by omega)]
      have hp21 : pnet M21 = pnet M := pnet_cg r21
      have e421 : M21 4 = M 4 := r21 4 (by omega) (by omega)
      refine swap_look (nst_cg hn r21) (by rw [hp21, e421]; exact hpx) (fun M27 y1 y2 y3 y4 y5 y6 y7 y8 y9 => ?_)
      rw [hp21] at y4 y8
      rw [e421] at y3 y8
      have k2' : neq M X := neq_t (neq_cg neq_r r4) k2
      have ro : ∀ a, ¬ (12 ≤ a ∧ a ≤ 19) → ¬ (28 ≤ a ∧ a ≤ 77) → ¬ (88 ≤ a ∧ a ≤ 96) → a ≠ 4 → a ≠ 97 → a ≠ 112 → M27 a = M a := fun a p q r s t u => by rw [y1 a p (by omega) s t u, k1 a q, row a (by omega)]
      have cP27 : cP M27 (ppush A X) := cP_cg k3 (fun a p q => y1 a (by omega) (by omega) (by omega) (by omega) (by omega))
      have b1 : mst M M27 := mst_of h (fun a ha => ro a (by omega) (by omega) (by omega) (by omega) (by omega) (by omega))
      rw [y8]
      refine body M27 _ b1 (fun y => absurd z y) (fun _ M3 e1 e2 e3 => ?_)
      have mP3 : mP M3 A := mP_cg hmP (by rw [e1 123 11 (by omega) (by omega) (by omega), b1.2.2 123 (by omega)]) (by rw [mfx_row e1 (by omega) (by omega) (by omega), b1.2.2 133 (by omega)])
      refine c115 mP3 (fun Y hY => (hA Y hY).1) (mN_neq hW e2 k2') (zWC_neq hW k2') (fun M37 w1 w2 => ⟨by omega, by omega, ?_⟩)
      have mN37 : mN (pnet M) (M 4 3) M37 := mN_mv (by rw [pnet_42]; exact hm.2) e2 (w1 123 3 (by decide) (by omega)) (fun v _ _ => ⟨w1 126 v (by decide) (by omega), w1 127 v (by decide) (by omega)⟩) (fun l _ _ => ⟨w1 128 l (by decide) (by omega), w1 129 l (by decide) (by omega), w1 130 l (by decide) (by omega), w1 131 l (by decide) (by omega), w1 132 l (by decide) (by omega)⟩)
      have mNx : mN (pnet M) (pex (M 4 3) a1 a2) (zset (zset M37 132 a1 1) 132 a2 0) := by rw [ea]; exact mN_x hpW mN37 hp.1 tie.1 ((mN_tie mN37 tie.1).mpr tie) x1
      refine c118' hpW mNx (fun M40 d1 d2 d3 => c143 hpW d2 hpx.1 d3 (fun M43 f1 f2 f3 f4 f5 => ⟨by rw [f4, pnet_42], ?_⟩))
      have fr := mfx_notes e1 w1
      have f40 : ∀ a i, ¬ (142 ≤ a ∧ a ≤ 158) → ¬ (a = 123 ∧ 31 ≤ i) → a ≠ 132 → M43 a i = M37 a i := fun a i p q r => by rw [f1 a i p q, d1 a i (by omega) (by omega), zrow_o _ r, zrow_o _ r]
      refine Inv_mk2 h hA hn k2' cP27 y2 y5 y6 y7 (fun a ha => ro a (by omega) (by omega) (by omega) (by omega) (by omega) (by omega)) (fun a i ha => ?_) (mP_cg w2 (f40 123 11 (by omega) (by omega) (by omega)) (funext fun i => f40 133 i (by omega) (by omega) (by omega))) (by rw [y4, y3]; exact f2) f3
      rw [f40 a i (by omega) (by omega) (by omega)]
      exact fr a i (by omega) (by omega) (by omega) (by omega)
/-- one best exchange more -/
theorem pHist_ext {N : zM} {T : Nat → Int} {n : Nat} {t l g : Int} (h : pHist N T n) (hm : pmx N (T n) t l g) (hs : psh N (pex (T n) t l)) : ∃ T' : Nat → Int, (∀ i, i ≤ n → T' i = T i) ∧ T' (n + 1) = pex (T n) t l ∧ pHist N T' (n + 1) := by
  obtain ⟨T', h1, h2⟩ : ∃ T' : Nat → Int, (∀ i, i ≤ n → T' i = T i) ∧ (∀ i, ¬ i ≤ n → T' i = pex (T n) t l) := ⟨fun i => if i ≤ n then T i else pex (T n) t l, fun i hi => if_pos hi, fun i hi => if_neg hi⟩
  refine ⟨T', h1, h2 (n + 1) (by omega), fun i hi => ?_, fun i hi => ?_⟩
  · by_cases e : i ≤ n
    · rw [h1 i e]; exact h.1 i e
    · rw [h2 i e]; exact hs
  · rw [h1 i (by omega)]
    by_cases e : i < n
    · obtain ⟨a, b, c, d1, d2⟩ := h.2 i e
      exact ⟨a, b, c, d1, by rw [h1 (i + 1) (by omega)]; exact d2⟩
    · have : i = n := by omega
      subst this
      exact ⟨t, l, g, hm, h2 _ (by omega)⟩
theorem op_lessens (h : Inv M) : opk 83 146 [] M := by
  refine zF_lay (fun hLay => ?_)
  obtain ⟨A, hA, ⟨hcP, hn, ⟨hF, hF2⟩, hk⟩, ⟨hmP, hmN, hLS⟩, hT, hR⟩ := id h
  obtain ⟨hW, hp, hd, hr0, hr1, hr4⟩ := id hn
  have hpW := pW_of hW
  have hm := hW.1
  have hXX := pXX_of hLay hW
  have sh : ∀ S', psx (pnet M) S' → psh (pnet M) S' := fun S' z => ⟨z.1, z.2.1, z.2.2, hXX S' z.1.1⟩
  have nx : ∀ S' t l g, psx (pnet M) S' → pA (pnet M) S' t l g → psx (pnet M) (pex S' t l) ∧ (0 ≤ t ∧ t < 24) ∧ (0 ≤ l ∧ l < 24) ∧ ∃ e0, e0 ∈ prg (pnet M) S' t ∧ e0.1 = l := fun S' t l g z y => by
    obtain ⟨y1, e, y2, y3, _⟩ := y
    have k := psx_x hpW z y1 y2
    rw [y3] at k
    obtain ⟨e0, x1, x2, x3⟩ := prs_e y2
    have hs := prg_S z.1 x1
    have := z.1.1 _ hs
    have := hs.1
    have hm' := hpW.1
    have := y1.1
    exact ⟨k, by omega, by omega, e0, x1, by rw [x2, y3]⟩
  refine s83_0 (c64 hW hF (by rw [hF2]; exact hp.1) (fun M2 g1 g2 g3 => ?_))
  rw [hF2] at g3
  have row : ∀ a, ¬ (92 ≤ a ∧ a ≤ 96) → M2 a = M a := fun a ha => zfm_row g1 ha
  have r42 : ∀ a, 4 ≤ a → a ≤ 11 → M2 a = M a := fun a p q => row a (by omega)
  have hc1 : cro M M2 := cro_88 h (fun a ha => row a (by omega))
  refine ⟨fun z => ?_, fun z => refuse2 h hc1 (by omega) (fun M3 Qm b1 b2 => s146_0 (c143 hpW b1.1 hp.1 b1.2.1 (fun M4 d1 d2 d3 d4 d5 => ⟨fun y => absurd ?_ y, fun _ => b2 M4 (mfx_f d1) d2 d3⟩)))⟩
  · refine c26 (cP_cg hcP (fun a p q => row a (by omega))) (fun M6 k1 k2 => ?_)
    obtain ⟨X, k2, k3⟩ := k2
    have k2' : neq M X := neq_t (neq_cg neq_r r42) k2
    -- the class's loop
    have loop : ∀ (m n : Nat) (M' : zM) (T : Nat → Int), n + m = 1000000 → T 0 = M 4 3 → T n = M' 4 3 → pHist (pnet M) T n → (∀ a, ¬ (4 ≤ a ∧ a ≤ 19) → ¬ (28 ≤ a ∧ a ≤ 77) → ¬ (92 ≤ a ∧ a ≤ 96) → a ≠ 97 → a ≠ 112 → M' a = M a) → cP M' (ppush A X) → nst M' → pnet M' = pnet M → zFO M' 12 → M' 12 0 = M' 4 3 → iK M' → kB (pA (pnet M) (M' 4 3)) (M' 92 1) (M' 92 2) (M' 92 3) → zS 83 (fun r M1 => zF 146 (fun r' M2 => r = r' ∧ Inv M2) [(2, 123)] M1) 46 [(2, 1), (0, (n : Int))] [] M' := by
      intro m
      induction m with
      | zero =>
        intro n M' T hnm t0 t1 hH hro hcP' hn' hpn hF' hF2' hk' hB
        have := pHist_b hpW hH
        omega
      | succ m ih =>
        intro n M' T hnm t0 t1 hH hro hcP' hn' hpn hF' hF2' hk' hB
        have hp' := hn'.2.1
        rw [hpn] at hp'
        refine s83_46 ⟨fun y => by omega, fun _ => ⟨fun y => ?_, fun y => ?_⟩⟩
        · have hrun : pRun (pnet M) (M 4 3) n (M' 4 3) := ⟨T, t0, t1, hH, pmx_no hB y⟩
          have b1 : mst M M' := mst_of h (fun a ha => hro a (by omega) (by omega) (by omega) (by omega) (by omega))
          refine s146_0 (c143 hpW b1.1 hp.1 b1.2.1 (fun M4 d1 d2 d3 d4 d5 => ?_))
          obtain ⟨u1, u2, u3⟩ := kB_u g3 d5 (fun t l g z => pA_in z)
          refine ⟨fun _ => ?_, fun x => absurd (u1.trans x) z⟩
          have mP4 : mP M4 A := mP_cg hmP (by rw [d1 123 11 (by omega) (by omega), b1.2.2 123 (by omega)]) (by rw [mfr_row d1 (by omega) (by omega), b1.2.2 133 (by omega)])
          refine c115 mP4 (fun Y hY => (hA Y hY).1) (mN_neq hW d2 k2') (zWC_neq hW k2') (fun M5 w1 w2 => ?_)
          have f5 : ∀ a i, ¬ (142 ≤ a ∧ a ≤ 158) → ¬ (a = 123 ∧ (31 ≤ i ∨ i = 11)) → a ≠ 132 → a ≠ 133 → M5 a i = M' a i := mfx_notes (mfx_f d1) w1
          -- the reference's loop
          have mloop : ∀ (m2 n2 : Nat) (M7 : zM) (U : Nat → Int), n2 + m2 = 1000000 → U 0 = M 4 3 → pHist (pnet M) U n2 → (∀ a i, ¬ (142 ≤ a ∧ a ≤ 158) → ¬ (a = 123 ∧ (31 ≤ i ∨ i = 11)) → a ≠ 132 → a ≠ 133 → M7 a i = M' a i) → mP M7 (ppush A X) → mN (pnet M) (U n2) M7 → zLS M7 → psx (pnet M) (U n2) → kB (pA (pnet M) (U n2)) (M7 123 45) (M7 123 46) (M7 123 47) → zS 146 (fun r' M2 => (n : Int) = r' ∧ Inv M2) 25 [(2, 123), (0, (n2 : Int))] [] M7 := by
            intro m2
            induction m2 with
            | zero =>
              intro n2 M7 U hnm2 u0 hU hf hmP7 hmN7 hL7 hp7 hB7
              have := pHist_b hpW hU
              omega
            | succ m2 ih2 =>
              intro n2 M7 U hnm2 u0 hU hf hmP7 hmN7 hL7 hp7 hB7
              refine s146_25 ⟨fun y2 => ?_, fun y2 => ?_⟩
              · have hrun2 : pRun (pnet M) (M 4 3) n2 (U n2) := ⟨U, u0, rfl, hU, pmx_no hB7 y2⟩
                obtain ⟨e1, e2⟩ := pRun_u hrun hrun2
                refine ⟨by rw [e1], Inv_mk2 h hA hn k2' hcP' hn' hF' hF2' hk' (fun a ha => hro a (by omega) (by omega) (by omega) (by omega) (by omega)) (fun a i ha => hf a i (by omega) (by omega) (by omega) (by omega)) hmP7 ?_ hL7⟩
                rw [hpn, e2]; exact hmN7
              · have mx := pmx_of hB7 y2
                obtain ⟨q1, q2, q3, e0, q4, q5⟩ := nx _ _ _ _ hp7 mx.1
                refine ⟨q2, q3, ?_⟩
                obtain ⟨U', v1, v2, v3⟩ := pHist_ext hU mx (sh _ q1)
                have tie := mx.1.1
                have mNx : mN (pnet M) (pex (U n2) (M7 123 45) (M7 123 46)) (zset (zset M7 132 (M7 123 45) 1) 132 (M7 123 46) 0) := by
                  rw [← q5]; exact mN_x hpW hmN7 hp7.1 tie.1 ((mN_tie hmN7 tie.1).mpr tie) q4
                refine c118' hpW mNx (fun M8 d1' d2' d3' => c143 hpW d2' q1.1 d3' (fun M9 f1 f2 f3 f4 f5' => ?_))
                have hb2 := pHist_b hpW v3
                rw [zw_id (by omega)]
                have f9 : ∀ a i, ¬ (142 ≤ a ∧ a ≤ 158) → ¬ (a = 123 ∧ 31 ≤ i) → a ≠ 132 → M9 a i = M7 a i := fun a i p q r => by rw [f1 a i p q, d1' a i (by omega) (by omega), zrow_o _ r, zrow_o _ r]
                refine ih2 (n2 + 1) M9 U' (by omega) (by rw [v1 0 (by omega)]; exact u0) v3 (fun a i p q r s => by rw [f9 a i p (by omega) r]; exact hf a i p q r s) (mP_cg hmP7 (f9 123 11 (by omega) (by omega) (by omega)) (funext fun i => f9 133 i (by omega) (by omega) (by omega))) ?_ f3 ?_ ?_
                · rw [v2]; exact f2
                · rw [v2]; exact q1
                · rw [v2]; exact f5'
          refine mloop 1000000 0 M5 (fun _ => M 4 3) (by omega) rfl ⟨fun i _ => sh _ hp, fun i hi => by omega⟩ f5 w2 ?_ ?_ hp ?_
          · exact mN_mv (by rw [pnet_42]; exact hm.2) d2 (w1 123 3 (by decide) (by omega)) (fun v _ _ => ⟨w1 126 v (by decide) (by omega), w1 127 v (by decide) (by omega)⟩) (fun l _ _ => ⟨w1 128 l (by decide) (by omega), w1 129 l (by decide) (by omega), w1 130 l (by decide) (by omega), w1 131 l (by decide) (by omega), w1 132 l (by decide) (by omega)⟩)
          · exact zLS_w d3 (fun a i p q => w1 a i (by omega) (by omega)) (w1 123 3 (by decide) (by omega))
          · rw [w1 123 45 (by decide) (by omega), w1 123 46 (by decide) (by omega), w1 123 47 (by decide) (by omega)]; exact d5
        · have mx := pmx_of hB y
          obtain ⟨q1, q2, q3, e0, q4, q5⟩ := nx _ _ _ _ hp' mx.1
          have mx' : pmx (pnet M) (T n) (M' 92 1) (M' 92 2) (M' 92 3) := by rw [t1]; exact mx
          obtain ⟨T', v1, v2, v3⟩ := pHist_ext hH mx' (by rw [t1]; exact sh _ q1)
          refine swap_look hn' (by rw [hpn]; exact q1) (fun M8 y1 y2 y3 y4 y5 y6 y7 y8 y9 => ?_)
          rw [hpn] at y4 y9
          have hb2 := pHist_b hpW v3
          rw [zw_id (by omega)]
          refine ih (n + 1) M8 T' (by omega) (by rw [v1 0 (by omega)]; exact t0) (by rw [v2, t1, y3]) v3 (fun a p q r s t => by rw [y1 a (by omega) r (by omega) s t]; exact hro a p q r s t) (cP_cg hcP' (fun a p q => y1 a (by omega) (by omega) (by omega) (by omega) (by omega))) y2 y4 y5 y6 y7 (by rw [y3]; exact y9)
    have r6 : ∀ a, ¬ (28 ≤ a ∧ a ≤ 77) → ¬ (92 ≤ a ∧ a ≤ 96) → M6 a = M a := fun a p q => by rw [k1 a p, row a q]
    have r46 : ∀ a, 4 ≤ a → a ≤ 11 → M6 a = M a := fun a p q => r6 a (by omega) (by omega)
    refine loop 1000000 0 M6 (fun _ => M 4 3) (by omega) rfl (by rw [r46 4 (by omega) (by omega)]) ⟨fun i _ => sh _ hp, fun i hi => by omega⟩ (fun a p q r s t => r6 a q r) k3 (nst_cg hn r46) (pnet_cg r46) (zFO_cg hF r46 (fun a p q => r6 a (by omega) (by omega))) (by rw [r6 12 (by omega) (by omega), r46 4 (by omega) (by omega)]; exact hF2) (iK_cg hk (fun a p q => r46 a p (by omega)) (fun a p q => r6 a (by omega) (by omega)) (r6 112 (by omega) (by omega))) ?_
    rw [r46 4 (by omega) (by omega), k1 92 (by omega)]
    exact g3
  · obtain ⟨u1, u2, u3⟩ := kB_u g3 d5 (fun t l g z => pA_in z)
    rw [← u1]; exact z
end OP8
