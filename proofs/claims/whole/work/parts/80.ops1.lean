/-! calls: texts, lines, places -/
def opk (kc km : Nat) (As : List zV) (M : zM) : Prop := zF kc (fun r M1 => zF km (fun r' M2 => r = r' ∧ Inv M2) ((2, 123) :: As) M1) ((2, 1) :: As) M
theorem Inv_text {M M' : zM} (h : Inv M) (hc : ∀ a, a ≠ 1 → a ≠ 3 → a ≠ 123 → a ≠ 125 → M' a = M a) (h123 : ∀ i, i ≠ 2 → M' 123 i = M 123 i) (ht : tI M') : Inv M' := by
  obtain ⟨A, a1, ⟨b1, b2, b3, b4⟩, ⟨c1, c2, c3⟩, _, e⟩ := h
  have r4 : ∀ a, 4 ≤ a → a ≤ 11 → M' a = M a := fun a p q => hc a (by omega) (by omega) (by omega) (by omega)
  have hp : pnet M' = pnet M := pnet_cg r4
  have e4 : M' 4 = M 4 := r4 4 (by omega) (by omega)
  refine ⟨A, a1, ⟨cP_cg b1 (fun a p q => hc a (by omega) (by omega) (by omega) (by omega)), nst_cg b2 r4, ⟨zFO_cg b3.1 r4 (fun a p q => hc a (by omega) (by omega) (by omega) (by omega)), by rw [hc 12 (by decide) (by decide) (by decide) (by decide), e4]; exact b3.2⟩, iK_cg b4 (fun a p q => r4 a p (by omega)) (fun a p q => hc a (by omega) (by omega) (by omega) (by omega)) (hc 112 (by decide) (by decide) (by decide) (by decide))⟩, ⟨mP_cg c1 (h123 11 (by decide)) (hc 133 (by decide) (by decide) (by decide) (by decide)), ?_, ?_⟩, ht, fun j j0 j1 => by rw [hc 2 (by decide) (by decide) (by decide) (by decide), hc 124 (by decide) (by decide) (by decide) (by decide)]; exact e j j0 j1⟩
  · rw [hp, e4]
    refine mN_mv (by rw [pnet_42]; exact b2.1.1.2) c2 (h123 3 (by decide)) (fun v _ _ => ?_) (fun l _ _ => ?_)
    · rw [hc 126 (by decide) (by decide) (by decide) (by decide), hc 127 (by decide) (by decide) (by decide) (by decide)]; exact ⟨rfl, rfl⟩
    · rw [hc 128 (by decide) (by decide) (by decide) (by decide), hc 129 (by decide) (by decide) (by decide) (by decide), hc 130 (by decide) (by decide) (by decide) (by decide), hc 131 (by decide) (by decide) (by decide) (by decide), hc 132 (by decide) (by decide) (by decide) (by decide)]; exact ⟨rfl, rfl, rfl, rfl, rfl⟩
  · exact zLS_cg c3 (fun a p q => hc a (by omega) (by omega) (by omega) (by omega)) (h123 3 (by decide))
section OP1
variable {M : zM} {a1 a2 : Int}
theorem op_type (h : Inv M) : opk 68 100 [(0, a1)] M := by
  obtain ⟨A, _, _, _, ⟨t1, t2, t3⟩, _⟩ := id h
  have bad : ¬ (0 ≤ a1 ∧ a1 ≤ 127) → zF 91 (fun r Mx => zF 100 (fun r' M2 => r = r' ∧ Inv M2) [(2, 123), (0, a1)] Mx) [(2, 1), (0, -2)] M := fun z => refuse2 h (cro_r h) (by omega) (fun M2 Qm b1 b2 => s100_0 (c98 ⟨fun q => absurd (if_neg z) q, fun _ => b2 M2 mfx_r b1.1 b1.2.1⟩))
  refine s68_0 ⟨fun q => bad (by omega), fun q => ⟨fun q2 => ⟨fun q3 => ⟨by omega, ?_⟩, fun q3 => refuse2 h (cro_r h) (by omega) (fun M2 Qm b1 b2 => s100_0 (c98 ⟨fun _ => ⟨fun y => ?_, fun _ => b2 M2 mfx_r b1.1 b1.2.1⟩, fun y => ?_⟩))⟩, fun q2 => bad (by omega)⟩⟩
  · rw [zw_id (by omega)]
    generalize hM1 : zset (zset M 3 (M 1 2) a1) 1 2 (M 1 2 + 1) = M1
    have o1 : ∀ a, a ≠ 1 → a ≠ 3 → M1 a = M a := fun a p q => by rw [← hM1, zrow_o _ p, zrow_o _ q]
    refine s100_0 (c98 ⟨fun _ => ?_, fun y => ?_⟩)
    · rw [o1 123 (by decide) (by decide), t2]
      refine ⟨fun _ => ⟨by omega, ?_⟩, fun y => by omega⟩
      rw [zw_id (by omega)]
      refine ⟨rfl, Inv_text h (fun a p q r s => ?_) (fun i hi => ?_) ⟨?_, ?_, fun i i0 i1 => ?_⟩⟩
      · rw [zrow_o _ r, zrow_o _ s]; exact o1 a p q
      · rw [zrow_s, fset_o _ hi, zrow_o _ (by decide), o1 123 (by decide) (by decide)]
      · rw [zrow_o _ (by decide), zrow_o _ (by decide), ← hM1, zrow_s, fset_s]; omega
      · rw [zrow_s, fset_s, zrow_o _ (by decide), zrow_o _ (by decide), ← hM1, zrow_s, fset_s]
      · have e1 : (zset (zset M1 125 (M 1 2) a1) 123 2 (M 1 2 + 1)) 1 2 = M 1 2 + 1 := by rw [zrow_o _ (by decide), zrow_o _ (by decide), ← hM1, zrow_s, fset_s]
        rw [e1] at i1
        have e3 : (zset (zset M1 125 (M 1 2) a1) 123 2 (M 1 2 + 1)) 3 = fset (M 3) (M 1 2) a1 := by rw [zrow_o _ (by decide), zrow_o _ (by decide), ← hM1, zrow_o _ (by decide), zrow_s]
        have e125 : (zset (zset M1 125 (M 1 2) a1) 123 2 (M 1 2 + 1)) 125 = fset (M 125) (M 1 2) a1 := by rw [zrow_o _ (by decide), zrow_s, o1 125 (by decide) (by decide)]
        rw [e3, e125]
        by_cases z : i = M 1 2
        · rw [z, fset_s, fset_s]; omega
        · rw [fset_o _ z, fset_o _ z]; exact t3 i i0 (by omega)
    · rw [if_pos ⟨by omega, by omega⟩] at y; cases y
  · rw [b1.2.2 123 (by omega), t2] at y; omega
  · rw [if_pos ⟨by omega, by omega⟩] at y; cases y
theorem op_clear (h : Inv M) : opk 69 101 [] M := by
  obtain ⟨A, _, _, _, ⟨t1, t2, t3⟩, _⟩ := id h
  refine s69_0 (c101 ?_)
  refine ⟨by rw [zrow_o _ (by decide), t2], Inv_text h (fun a p q r s => by rw [zrow_o _ r, zrow_o _ p]) (fun i hi => by rw [zrow_s, fset_o _ hi, zrow_o _ (by decide)]) ⟨?_, ?_, fun i i0 i1 => ?_⟩⟩
  · rw [zrow_o _ (by decide), zrow_s, fset_s]; omega
  · rw [zrow_s, fset_s, zrow_o _ (by decide), zrow_s, fset_s]
  · rw [zrow_o _ (by decide), zrow_s, fset_s] at i1; omega
/-- what both know of lines and places -/
theorem vw_l {M1 : zM} (h : Inv M) (h1 : mst M M1) {l : Int} (l0 : 0 ≤ l) (l1 : l < 24) : M 17 l = M1 147 l ∧ M 18 l = M1 148 l := by
  obtain ⟨A, a1, ⟨b1, ⟨b2, b2p, _⟩, b3, b4⟩, _, _, _⟩ := h
  have hpW := pW_of b2
  have e := zFO_fl b3.1 (by rw [b3.2]; exact b2p.1.2) l0 l1
  rw [b3.2] at e
  have g := pfl_of b2p.1.2 (mN_X hpW h1.1 b2p.1.1 h1.2.1) l0 l1
  exact ⟨e.1.trans g.1.symm, e.2.trans g.2.symm⟩
theorem vw_v {M1 : zM} (h : Inv M) (h1 : mst M M1) {v : Int} (v0 : 0 ≤ v) (v1 : v < 16) : (tbs (M 12 2) v ↔ ¬ M1 142 v = -1) ∧ (tbs (M 12 2) v → M 13 v = M1 142 v ∧ M 14 v = M1 143 v ∧ M 15 v = M1 144 v ∧ M 16 v = M1 145 v) ∧ (¬ tbs (M 12 2) v → M1 142 v = -1 ∧ M1 143 v = -1 ∧ M1 144 v = -1 ∧ M1 145 v = 0) := by
  obtain ⟨A, a1, ⟨b1, ⟨b2, b2p, _⟩, b3, b4⟩, _, _, _⟩ := h
  have hpW := pW_of b2
  obtain ⟨hT, hF⟩ := mN_T hpW h1.1 b2p.1.1 h1.2.1
  obtain ⟨o1, o2, o3, o4, o5, o6, o7, o8, o9⟩ := b3.1
  rw [b3.2] at o4
  have hrad : kRad (tbs (M 4 1)) (M 6) (M 7) (tbs (M 4 3)) := by have := b2p.1.2; unfold prad at this; rw [pnet_41, pnet_6, pnet_7] at this; exact this
  rw [pnet_41, pnet_6, pnet_7] at hT hF
  rw [pnet_5] at hF
  obtain ⟨k1, k2, k3⟩ := kF_one hrad o4 hT o6 hF
  refine ⟨⟨fun z => ((k1 v).mp z).2, fun z => (k1 v).mpr ⟨⟨v0, v1⟩, z⟩⟩, fun z => ?_, fun z => ?_⟩
  · have := k2 v z
    exact ⟨this.1.symm, this.2.1.symm, this.2.2.1.symm, this.2.2.2.symm⟩
  · have e : M1 142 v = -1 := Classical.byContradiction fun y => z ((k1 v).mpr ⟨⟨v0, v1⟩, y⟩)
    obtain ⟨⟨t1, t2, t3, t4, t5⟩, f1, f2, f3, f4, f5, f6⟩ := h1.2.1
    have hki : ¬ M1 126 v = 1 := fun y => by have := (t1 v v0 v1 y).1; omega
    exact ⟨e, (t2 v v0 v1 hki e).1, (t2 v v0 v1 hki e).2, f4 v v0 v1 e⟩
theorem c126 {M1 : zM} {Qm : Int → zM → Prop} (h : Inv M) (h1 : mst M M1) (hb : ¬ ((0 ≤ a1 ∧ a1 < M 4 2) ∧ 0 ≤ a2 ∧ a2 ≤ 7) → zF 99 Qm [(2, 123), (0, -2)] M1)
    (hg : (0 ≤ a1 ∧ a1 < M 4 2) → (0 ≤ a2 ∧ a2 ≤ 7) → Qm (if a2 = 0 then M 6 a1 else if a2 = 1 then M 7 a1 else if a2 = 2 then M 8 a1 else if a2 = 3 then M 9 a1 else if a2 = 4 then M1 132 a1 else if a2 = 5 then M 17 a1 else if a2 = 6 then M 18 a1 else if M 9 a1 < M 17 a1 then 1 else 0) M1) : zF 126 Qm [(2, 123), (0, a1), (0, a2)] M1 := by
  have h3 : M1 123 3 = M 4 2 := by rw [h1.1.1, pnet_42]
  obtain ⟨A, _, ⟨_, ⟨b2, _⟩, _⟩, _⟩ := id h
  have hm := b2.1
  refine s126_0 (c123 (by rw [h3]; exact hm) ⟨fun q => hb (fun z => ?_), fun q => c98 ⟨fun q2 => ?_, fun q2 => hb (fun z => ?_)⟩⟩)
  · rw [h3, if_pos z.1] at q; cases q
  · have hl : 0 ≤ a1 ∧ a1 < M 4 2 := Classical.byContradiction fun z => q (by rw [h3, if_neg z])
    have ha : 0 ≤ a2 ∧ a2 ≤ 7 := Classical.byContradiction fun z => q2 (if_neg z)
    have g := hg hl ha
    have e := h1.1.2.2 a1 hl.1 (by rw [pnet_42]; exact hl.2)
    rw [pnet_6, pnet_7, pnet_8, pnet_9] at e
    have v := vw_l h h1 (l := a1) hl.1 (by omega)
    have hl24 : 0 ≤ a1 ∧ a1 < 24 := by omega
    rw [e.1, e.2.1, e.2.2.1, e.2.2.2.1, ← v.1, ← v.2]
    refine ⟨fun y => ⟨hl24, by rwa [if_pos y] at g⟩, fun y0 => ⟨fun y => ⟨hl24, by rwa [if_neg y0, if_pos y] at g⟩, fun y1 => ⟨fun y => ⟨hl24, by rwa [if_neg y0, if_neg y1, if_pos y] at g⟩, fun y2 => ⟨fun y => ⟨hl24, by rwa [if_neg y0, if_neg y1, if_neg y2, if_pos y] at g⟩, fun y3 => ⟨fun y => ⟨hl24, by rwa [if_neg y0, if_neg y1, if_neg y2, if_neg y3, if_pos y] at g⟩, fun y4 => ⟨fun y => ⟨hl24, by rwa [if_neg y0, if_neg y1, if_neg y2, if_neg y3, if_neg y4, if_pos y] at g⟩, fun y5 => ⟨fun y => ⟨hl24, by rwa [if_neg y0, if_neg y1, if_neg y2, if_neg y3, if_neg y4, if_neg y5, if_pos y] at g⟩, fun y6 => ⟨hl24, fun y => ?_, fun y => ?_⟩⟩⟩⟩⟩⟩⟩⟩
    · rwa [if_neg y0, if_neg y1, if_neg y2, if_neg y3, if_neg y4, if_neg y5, if_neg y6, if_neg y] at g
    · rwa [if_neg y0, if_neg y1, if_neg y2, if_neg y3, if_neg y4, if_neg y5, if_neg y6, if_pos y] at g
  · rw [if_pos z.2] at q2; cases q2
theorem c93 {Q : Int → zM → Prop} {M1 : zM} (h : Inv M) (h1 : mst M M1) (hl : 0 ≤ a1 ∧ a1 < M 4 2) (hQ : Q (M1 132 a1) M) : zF 93 Q [(2, 1), (0, a1)] M := by
  obtain ⟨A, _, ⟨_, ⟨b2, b2p, _⟩, _⟩, _⟩ := id h
  have hm := b2.1
  have e := (h1.1.2.2 a1 hl.1 (by rw [pnet_42]; exact hl.2)).2.2.2.2
  rw [pnet_44] at e
  refine s93_0 ⟨fun q => ?_, fun q => ?_⟩
  · rw [tbs_shr (by omega)] at q
    rw [tb_shr (by omega) (by omega)]
    by_cases z : tb (M 4 3) a1 = true
    · rw [if_pos z]
      rw [e.1.mp ⟨by omega, z⟩] at hQ; exact hQ
    · rw [if_neg z]
      have n1 : ¬ M1 132 a1 = 1 := fun y => z (e.1.mpr y).2
      have n2 : ¬ M1 132 a1 = 2 := fun y => q (e.2.1.mpr y)
      rw [show M1 132 a1 = 0 by omega] at hQ; exact hQ
  · rw [tbs_shr (by omega), Classical.not_not] at q
    rw [e.2.1.mp q] at hQ; exact hQ
theorem c71 {Q : Int → zM → Prop} {M1 : zM} (h : Inv M) (h1 : mst M M1) (hb : ¬ ((0 ≤ a1 ∧ a1 < M 4 2) ∧ 0 ≤ a2 ∧ a2 ≤ 7) → zF 91 Q [(2, 1), (0, -2)] M)
    (hg : (0 ≤ a1 ∧ a1 < M 4 2) → (0 ≤ a2 ∧ a2 ≤ 7) → Q (if a2 = 0 then M 6 a1 else if a2 = 1 then M 7 a1 else if a2 = 2 then M 8 a1 else if a2 = 3 then M 9 a1 else if a2 = 4 then M1 132 a1 else if a2 = 5 then M 17 a1 else if a2 = 6 then M 18 a1 else if M 9 a1 < M 17 a1 then 1 else 0) M) : zF 71 Q [(2, 1), (0, a1), (0, a2)] M := by
  obtain ⟨A, _, ⟨_, ⟨b2, b2p, _⟩, b3, _⟩, _⟩ := id h
  have hm := b2.1
  refine s71_0 (c18 rfl (fun z => ⟨fun y => absurd rfl y, fun _ => hb (fun y => z y.1)⟩) (fun hl => ⟨fun _ => ?_, fun y => absurd y (by decide)⟩))
  have hl24 : 0 ≤ a1 ∧ a1 < 24 := by omega
  have ov := zFO_ov b2 b3.1 (by rw [b3.2]; exact b2p.1.2)
  rw [b3.2] at ov
  have fl := zFO_fl b3.1 (by rw [b3.2]; exact b2p.1.2) (l := a1) hl.1 (by omega)
  rw [b3.2] at fl
  refine ⟨fun y => ⟨hl24, ?_⟩, fun y0 => ⟨fun y => ⟨hl24, ?_⟩, fun y1 => ⟨fun y => ⟨hl24, ?_⟩, fun y2 => ⟨fun y => ⟨hl24, ?_⟩, fun y3 => ⟨fun y => c93 h h1 hl ?_, fun y4 => ⟨fun y => ⟨hl24, ?_⟩, fun y5 => ⟨fun y => ⟨hl24, ?_⟩, fun y6 => ⟨fun y => ?_, fun y7 => hb (fun y => by omega)⟩⟩⟩⟩⟩⟩⟩⟩
  · have g := hg hl (by omega); rwa [if_pos y] at g
  · have g := hg hl (by omega); rwa [if_neg y0, if_pos y] at g
  · have g := hg hl (by omega); rwa [if_neg y0, if_neg y1, if_pos y] at g
  · have g := hg hl (by omega); rwa [if_neg y0, if_neg y1, if_neg y2, if_pos y] at g
  · have g := hg hl (by omega); rwa [if_neg y0, if_neg y1, if_neg y2, if_neg y3, if_pos y] at g
  · have g := hg hl (by omega); rwa [if_neg y0, if_neg y1, if_neg y2, if_neg y3, if_neg y4, if_pos y] at g
  · have g := hg hl (by omega); rwa [if_neg y0, if_neg y1, if_neg y2, if_neg y3, if_neg y4, if_neg y5, if_pos y] at g
  · have g := hg hl (by omega)
    rw [if_neg y0, if_neg y1, if_neg y2, if_neg y3, if_neg y4, if_neg y5, if_neg y6] at g
    rw [tb_shr (by omega) (by omega)]
    have e17 : M 17 a1 = pfl (pnet M) (M 4 3) a1 := fl.1
    have iff : tb (M 12 3) a1 = true ↔ M 9 a1 < M 17 a1 := by
      rw [ov.2 a1 (by omega) (by omega)]
      unfold pov
      rw [pnet_42, pnet_9, e17]
      exact ⟨fun z => z.2, fun z => ⟨hl.2, z⟩⟩
    by_cases z : tb (M 12 3) a1 = true
    · rw [if_pos z]; rwa [if_pos (iff.mp z)] at g
    · rw [if_neg z]; rwa [if_neg (fun x => z (iff.mpr x))] at g
theorem op_line (h : Inv M) : opk 71 126 [(0, a1), (0, a2)] M := by
  refine c71 h (mst_of h (fun _ _ => rfl)) (fun z => refuse2 h (cro_r h) (by omega) (fun M2 Qm b1 b2 => c126 h b1 (fun _ => b2 M2 mfx_r b1.1 b1.2.1) (fun x y => absurd ⟨x, y⟩ z))) (fun x y => c126 h (mst_of h (fun _ _ => rfl)) (fun z => absurd ⟨x, y⟩ z) (fun _ _ => ⟨rfl, h⟩))
theorem c127 {M1 : zM} {Qm : Int → zM → Prop} (h : Inv M) (h1 : mst M M1) (hb : ¬ (((0 ≤ a1 ∧ a1 < 16) ∧ tbs (M 4 0) a1) ∧ 0 ≤ a2 ∧ a2 ≤ 4) → zF 99 Qm [(2, 123), (0, -2)] M1)
    (hg : ((0 ≤ a1 ∧ a1 < 16) ∧ tbs (M 4 0) a1) → (0 ≤ a2 ∧ a2 ≤ 4) → Qm (if a2 = 0 then (if M1 126 a1 = 1 then -1 else M 5 a1) else if a2 = 1 then M1 142 a1 else if a2 = 2 then M1 143 a1 else if a2 = 3 then M1 144 a1 else M1 145 a1) M1) : zF 127 Qm [(2, 123), (0, a1), (0, a2)] M1 := by
  have hk : ∀ v, 0 ≤ v → v < 16 → (tbs (M 4 0) v ↔ ¬ M1 126 v = 0) ∧ M1 127 v = M 5 v := fun v v0 v1 => by
    have := h1.1.2.1 v v0 v1
    rw [pnet_40, pnet_5] at this
    exact ⟨this.2.1, this.2.2.1⟩
  refine s127_0 (c124 ⟨fun q => hb (fun z => ?_), fun q => c98 ⟨fun q2 => ?_, fun q2 => hb (fun z => ?_)⟩⟩)
  · rw [if_pos ⟨z.1.1, (hk a1 z.1.1.1 z.1.1.2).1.mp z.1.2⟩] at q; cases q
  · have hv : (0 ≤ a1 ∧ a1 < 16) ∧ ¬ M1 126 a1 = 0 := Classical.byContradiction fun z => q (if_neg z)
    have ha : 0 ≤ a2 ∧ a2 ≤ 4 := Classical.byContradiction fun z => q2 (if_neg z)
    have g := hg ⟨hv.1, (hk a1 hv.1.1 hv.1.2).1.mpr hv.2⟩ ha
    refine ⟨fun y => ⟨hv.1, fun z => ?_, fun z => ?_⟩, fun y0 => ⟨fun y => ⟨hv.1, by rwa [if_neg y0, if_pos y] at g⟩, fun y1 => ⟨fun y => ⟨hv.1, by rwa [if_neg y0, if_neg y1, if_pos y] at g⟩, fun y2 => ⟨fun y => ⟨hv.1, by rwa [if_neg y0, if_neg y1, if_neg y2, if_pos y] at g⟩, fun y3 => ⟨hv.1, by rwa [if_neg y0, if_neg y1, if_neg y2, if_neg y3] at g⟩⟩⟩⟩⟩
    · rw [(hk a1 hv.1.1 hv.1.2).2]; rwa [if_pos y, if_neg z] at g
    · rwa [if_pos y, if_pos z] at g
  · rw [if_pos z.2] at q2; cases q2
theorem c72 {Q : Int → zM → Prop} {M1 : zM} (h : Inv M) (h1 : mst M M1) (hb : ¬ (((0 ≤ a1 ∧ a1 < 16) ∧ tbs (M 4 0) a1) ∧ 0 ≤ a2 ∧ a2 ≤ 4) → zF 91 Q [(2, 1), (0, -2)] M)
    (hg : ((0 ≤ a1 ∧ a1 < 16) ∧ tbs (M 4 0) a1) → (0 ≤ a2 ∧ a2 ≤ 4) → Q (if a2 = 0 then (if M1 126 a1 = 1 then -1 else M 5 a1) else if a2 = 1 then M1 142 a1 else if a2 = 2 then M1 143 a1 else if a2 = 3 then M1 144 a1 else M1 145 a1) M) : zF 72 Q [(2, 1), (0, a1), (0, a2)] M := by
  refine s72_0 (c17 rfl (fun z => ⟨fun y => absurd rfl y, fun _ => hb (fun y => z y.1)⟩) (fun hv => ⟨fun _ => ?_, fun y => absurd y (by decide)⟩))
  obtain ⟨w1, w2, w3⟩ := vw_v h h1 (v := a1) hv.1.1 hv.1.2
  have hk := h1.1.2.1 a1 hv.1.1 hv.1.2
  rw [pnet_41] at hk
  have fin : ∀ x5 : Int, (x5 = 0 → ¬ tbs (M 12 2) a1) → (¬ x5 = 0 → tbs (M 12 2) a1) → ((a2 = 0 → zF 19 (fun x9 M10 => ((x9 = 0 → (0 ≤ a1 ∧ a1 < 16) ∧ Q (M10 5 a1) M10) ∧ (¬ x9 = 0 → Q (-1) M10))) [(2, 4), (0, a1)] M) ∧ (¬ a2 = 0 → ((a2 = 1 → ((x5 = 0 → Q (-1) M) ∧ (¬ x5 = 0 → (0 ≤ a1 ∧ a1 < 16) ∧ Q (M 13 a1) M))) ∧ (¬ a2 = 1 → ((a2 = 2 → ((x5 = 0 → Q (-1) M) ∧ (¬ x5 = 0 → (0 ≤ a1 ∧ a1 < 16) ∧ Q (M 14 a1) M))) ∧ (¬ a2 = 2 → ((a2 = 3 → ((x5 = 0 → Q (-1) M) ∧ (¬ x5 = 0 → (0 ≤ a1 ∧ a1 < 16) ∧ Q (M 15 a1) M))) ∧ (¬ a2 = 3 → ((a2 = 4 → ((x5 = 0 → Q 0 M) ∧ (¬ x5 = 0 → (0 ≤ a1 ∧ a1 < 16) ∧ Q (M 16 a1) M))) ∧ (¬ a2 = 4 → zF 91 (fun x21 M22 => Q x21 M22) [(2, 1), (0, (-2))] M)))))))))) := fun x5 d1 d2 => by
    refine ⟨fun y => ?_, fun y0 => ⟨fun y => ?_, fun y1 => ⟨fun y => ?_, fun y2 => ⟨fun y => ?_, fun y3 => ⟨fun y => ?_, fun y4 => hb (fun z => by omega)⟩⟩⟩⟩⟩
    · have g := hg hv (by omega)
      rw [if_pos y] at g
      refine c19 rfl (by omega) (fun z => ⟨fun _ => ⟨hv.1, ?_⟩, fun x => absurd rfl x⟩) (fun z => ⟨fun x => absurd x (by decide), fun _ => ?_⟩)
      · rwa [if_neg (fun x => z (hk.1.mpr x))] at g
      · rwa [if_pos (hk.1.mp z)] at g
    · have g := hg hv (by omega)
      rw [if_neg y0, if_pos y] at g
      exact ⟨fun z => by rw [(w3 (d1 z)).1] at g; exact g, fun z => ⟨hv.1, by rw [(w2 (d2 z)).1]; exact g⟩⟩
    · have g := hg hv (by omega)
      rw [if_neg y0, if_neg y1, if_pos y] at g
      exact ⟨fun z => by rw [(w3 (d1 z)).2.1] at g; exact g, fun z => ⟨hv.1, by rw [(w2 (d2 z)).2.1]; exact g⟩⟩
    · have g := hg hv (by omega)
      rw [if_neg y0, if_neg y1, if_neg y2, if_pos y] at g
      exact ⟨fun z => by rw [(w3 (d1 z)).2.2.1] at g; exact g, fun z => ⟨hv.1, by rw [(w2 (d2 z)).2.2.1]; exact g⟩⟩
    · have g := hg hv (by omega)
      rw [if_neg y0, if_neg y1, if_neg y2, if_neg y3] at g
      exact ⟨fun z => by rw [(w3 (d1 z)).2.2.2] at g; exact g, fun z => ⟨hv.1, by rw [(w2 (d2 z)).2.2.2]; exact g⟩⟩
  exact c2 rfl (by omega) (fun z => fin 0 (fun _ => z) (fun y => absurd rfl y)) (fun z => fin 1 (fun y => absurd y (by decide)) (fun _ => z))
theorem op_place (h : Inv M) : opk 72 127 [(0, a1), (0, a2)] M := by
  refine c72 h (mst_of h (fun _ _ => rfl)) (fun z => refuse2 h (cro_r h) (by omega) (fun M2 Qm b1 b2 => c127 h b1 (fun _ => b2 M2 mfx_r b1.1 b1.2.1) (fun x y => absurd ⟨x, y⟩ z))) (fun x y => c127 h (mst_of h (fun _ _ => rfl)) (fun z => absurd ⟨x, y⟩ z) (fun _ _ => ⟨rfl, h⟩))
theorem op_between (h : Inv M) : opk 73 128 [(0, a1), (0, a2)] M := by
  obtain ⟨A, _, ⟨_, ⟨b2, b2p, _⟩, b3, _⟩, _⟩ := id h
  have hm := b2.1
  have hk : ∀ M1, mst M M1 → ∀ v, 0 ≤ v → v < 16 → (tbs (M 4 0) v ↔ ¬ M1 126 v = 0) := fun M1 h1 v v0 v1 => by
    have := h1.1.2.1 v v0 v1
    rw [pnet_40] at this
    exact this.2.1
  have bad : ¬ (((0 ≤ a1 ∧ a1 < 16) ∧ tbs (M 4 0) a1) ∧ ((0 ≤ a2 ∧ a2 < 16) ∧ tbs (M 4 0) a2)) → zF 91 (fun r Mx => zF 128 (fun r' M2 => r = r' ∧ Inv M2) [(2, 123), (0, a1), (0, a2)] Mx) [(2, 1), (0, -2)] M := fun z => refuse2 h (cro_r h) (by omega) (fun M2 Qm b1 b2 => by
    refine s128_0 (c124 ⟨fun _ => b2 M2 mfx_r b1.1 b1.2.1, fun q => c124 ⟨fun q2 => ?_, fun _ => b2 M2 mfx_r b1.1 b1.2.1⟩⟩)
    have w1 : (0 ≤ a1 ∧ a1 < 16) ∧ ¬ M2 126 a1 = 0 := Classical.byContradiction fun y => q (if_neg y)
    have w2 : (0 ≤ a2 ∧ a2 < 16) ∧ ¬ M2 126 a2 = 0 := Classical.byContradiction fun y => q2 (if_neg y)
    exact absurd ⟨⟨w1.1, (hk M2 b1 a1 w1.1.1 w1.1.2).mpr w1.2⟩, ⟨w2.1, (hk M2 b1 a2 w2.1.1 w2.1.2).mpr w2.2⟩⟩ z)
  refine s73_0 (c17 rfl (fun z => ⟨fun _ => bad (fun y => z y.1), fun y => absurd rfl y⟩) (fun z1 => ⟨fun y => absurd y (by decide), fun _ => c17 rfl (fun z => ⟨fun y => absurd rfl y, fun _ => bad (fun y => z y.2)⟩) (fun z2 => ⟨fun _ => ?_, fun y => absurd y (by decide)⟩)⟩))
  have h1 : mst M M := mst_of h (fun _ _ => rfl)
  have e1 := (hk M h1 a1 z1.1.1 z1.1.2).mp z1.2
  have e2 := (hk M h1 a2 z2.1.1 z2.1.2).mp z2.2
  have h3 : M 123 3 = M 4 2 := by rw [h1.1.1, pnet_42]
  have ln : ∀ l, 0 ≤ l → l < M 4 2 → M 128 l = M 6 l ∧ M 129 l = M 7 l ∧ ¬ M 6 l = M 7 l := fun l l0 l1 => by
    have := h1.1.2.2 l l0 (by rw [pnet_42]; exact l1)
    rw [pnet_6, pnet_7] at this
    exact ⟨this.1, this.2.1, (b2.2.2.2.2.1 l l0 l1).1.2.2.1⟩
  have iff : ∀ l, 0 ≤ l → l < M 4 2 → ¬ a1 = a2 → (zoth M l a1 = a2 ↔ ((M (4 + 2) l = a1 ∧ M (4 + 3) l = a2) ∨ (M (4 + 2) l = a2 ∧ M (4 + 3) l = a1))) := fun l l0 l1 hne => by
    show zoth M l a1 = a2 ↔ ((M 6 l = a1 ∧ M 7 l = a2) ∨ (M 6 l = a2 ∧ M 7 l = a1))
    obtain ⟨p1, p2, p3⟩ := ln l l0 l1
    unfold zoth
    rw [p1, p2]
    by_cases q1 : M 6 l = a1
    · rw [if_pos q1]
      exact ⟨fun y => Or.inl ⟨q1, y⟩, fun y => y.elim (fun x => x.2) (fun x => absurd (x.1.symm.trans q1).symm hne)⟩
    · rw [if_neg q1]
      by_cases q2 : M 7 l = a1
      · rw [if_pos q2]
        exact ⟨fun y => Or.inr ⟨y, q2⟩, fun y => y.elim (fun x => absurd x.1 q1) (fun x => x.1)⟩
      · rw [if_neg q2]
        exact ⟨fun y => by omega, fun y => y.elim (fun x => absurd x.1 q1) (fun x => absurd x.2 q2)⟩
  have model : ∀ r : Int, ((r = -1 ∧ ∀ l, 0 ≤ l → l < M 4 2 → ¬ ((M (4 + 2) l = a1 ∧ M (4 + 3) l = a2) ∨ (M (4 + 2) l = a2 ∧ M (4 + 3) l = a1))) ∨ ((0 ≤ r ∧ r < M 4 2) ∧ ((M (4 + 2) r = a1 ∧ M (4 + 3) r = a2) ∨ (M (4 + 2) r = a2 ∧ M (4 + 3) r = a1)) ∧ ∀ i, 0 ≤ i → i < r → ¬ ((M (4 + 2) i = a1 ∧ M (4 + 3) i = a2) ∨ (M (4 + 2) i = a2 ∧ M (4 + 3) i = a1)))) → zF 128 (fun r' M2 => r = r' ∧ Inv M2) [(2, 123), (0, a1), (0, a2)] M := fun r hr => by
    refine s128_0 (c124 ⟨fun q => by (rw [if_pos ⟨z1.1, e1⟩] at q; exact absurd q (by decide)), fun _ => c124 ⟨fun _ => ?_, fun q => by rw [if_pos ⟨z2.1, e2⟩] at q; cases q⟩⟩)
    have loop : ∀ (n k : Nat), ((k : Nat) : Int) + n = M 4 2 → (∀ i, 0 ≤ i → i < (k : Int) → ¬ ((M (4 + 2) i = a1 ∧ M (4 + 3) i = a2) ∨ (M (4 + 2) i = a2 ∧ M (4 + 3) i = a1))) → zS 128 (fun r' M2 => r = r' ∧ Inv M2) 25 [(2, 123), (0, a1), (0, a2), (0, (k : Int))] [] M := by
      intro n
      induction n with
      | zero =>
        intro k hk' hi
        refine s128_25 ⟨fun _ => ⟨?_, h⟩, fun q => by rw [h3] at q; omega⟩
        rcases hr with ⟨a, _⟩ | ⟨a, b, _⟩
        · exact a
        · exact absurd b (hi r a.1 (by omega))
      | succ n ih =>
        intro k hk' hi
        have go : ¬ ((M (4 + 2) k = a1 ∧ M (4 + 3) k = a2) ∨ (M (4 + 2) k = a2 ∧ M (4 + 3) k = a1)) → zS 128 (fun r' M2 => r = r' ∧ Inv M2) 25 [(2, 123), (0, a1), (0, a2), (0, zw ((k : Int) + 1))] [] M := fun z => by
          rw [zw_id (by omega)]
          refine ih (k + 1) (by omega) (fun i i0 i1 => ?_)
          by_cases e : i = (k : Int)
          · rw [e]; exact z
          · exact hi i i0 (by omega)
        refine s128_25 ⟨fun q => by rw [h3] at q; omega, fun _ => ⟨fun q => go (fun y => ?_), fun q => c117 (by omega) ⟨fun q2 => go (fun y => q2 ((iff k (by omega) (by omega) q).mpr y)), fun q2 => ⟨?_, h⟩⟩⟩⟩
        · have := (ln k (by omega) (by omega)).2.2
          have y : (M 6 k = a1 ∧ M 7 k = a2) ∨ (M 6 k = a2 ∧ M 7 k = a1) := y
          rcases y with y | y
          · exact this (by rw [y.1, y.2, q])
          · exact this (by rw [y.1, y.2, q])
        · have yes := (iff k (by omega) (by omega) q).mp q2
          rcases hr with ⟨_, b⟩ | ⟨a, b, c⟩
          · exact absurd yes (b k (by omega) (by omega))
          · rcases Int.lt_trichotomy r k with w | w | w
            · exact absurd b (hi r a.1 w)
            · exact w
            · exact absurd yes (c k (by omega) w)
    exact loop (M 4 2).toNat 0 (by omega) (fun i a b => by omega)
  refine c23 rfl hm (fun z => model (-1) (Or.inl ⟨rfl, z⟩)) (fun l l0 l1 z zi => model l (Or.inr ⟨⟨l0, l1⟩, z, zi⟩))
end OP1
