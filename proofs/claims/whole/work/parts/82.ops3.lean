/-! falls, mends, closes -/
theorem Inv_mk2 {M M10 M2 X : zM} {A : List zM} (h : Inv M) (hA : ∀ Y, Y ∈ A → nst Y) (hn : nst M) (g2 : neq M X) (g3 : cP M10 (ppush A X)) (g4 : nst M10) (g7 : zFO M10 12) (g8 : M10 12 0 = M10 4 3) (g9 : iK M10) (ro : ∀ a, (1 ≤ a ∧ a ≤ 3) ∨ 123 ≤ a → M10 a = M a) (y1 : ∀ a i, a < 123 ∨ a = 124 ∨ a = 125 ∨ (a = 123 ∧ i = 2) → M2 a i = M10 a i) (y2 : mP M2 (ppush A X)) (y3 : mN (pnet M10) (M10 4 3) M2) (y4 : zLS M2) : Inv M2 := by
  refine Inv_mk h (A := ppush A X) (fun Y hY => ?_) g3 g4 g7 g8 g9 (ro 1 (by omega)) (ro 3 (by omega)) (ro 2 (by omega)) (fun a ha => funext fun i => y1 a i (by omega)) y2 y3 y4 ?_ ?_ ?_
  · rcases ppush_in hY with w | w
    · exact hA Y w
    · rw [w]; exact nst_neq hn g2
  · rw [y1 123 2 (by omega), ro 123 (by omega)]
  · funext i; rw [y1 124 i (by omega), ro 124 (by omega)]
  · funext i; rw [y1 125 i (by omega), ro 125 (by omega)]
/-- the net with other closed and dead lines -/
theorem nst_34 {M V : zM} (hn : nst M) (h4 : ∀ j, 0 ≤ j → j ≤ 2 → V 4 j = M 4 j) (hr : ∀ a, 5 ≤ a → a ≤ 11 → V a = M a) (hs : ∀ l, tbs (V 4 3) l → l < M 4 2) (hrad : prad (pnet M) (V 4 3)) (hsd : ∀ l, tbs (V 4 3) l → ¬ tbs (V 4 4) l) (h32 : r32 (V 4 3)) (hd : ∀ l, tbs (V 4 4) l → l < M 4 2) (h42 : r32 (V 4 4)) : nst V := by
  obtain ⟨hW, hp, _, hr0, hr1, hr4⟩ := hn
  refine ⟨zWC_43 hW h4 hr, ⟨⟨by rw [pnet_42, h4 2 (by omega) (by omega)]; exact hs, ?_⟩, by unfold pD; rw [pnet_44]; exact hsd, h32⟩, by rw [h4 2 (by omega) (by omega)]; exact hd, by rw [h4 0 (by omega) (by omega)]; exact hr0, by rw [h4 1 (by omega) (by omega)]; exact hr1, h42⟩
  unfold prad at hrad ⊢
  rw [pnet_41, pnet_6, pnet_7] at hrad ⊢
  rw [h4 1 (by omega) (by omega), hr 6 (by omega) (by omega), hr 7 (by omega) (by omega)]
  exact hrad
theorem mN_34 {M V M3 M4 : zM} (hm : M 4 2 ≤ 24) (h4 : ∀ j, 0 ≤ j → j ≤ 2 → V 4 j = M 4 j) (hr : ∀ a, 5 ≤ a → a ≤ 11 → V a = M a) (y : mN (pnet M) (M 4 3) M3) (o : ∀ a, a ≠ 132 → M4 a = M3 a) (hl : ∀ l, 0 ≤ l → l < M 4 2 → (tbs (V 4 3) l ↔ M4 132 l = 1) ∧ (tbs (V 4 4) l ↔ M4 132 l = 2) ∧ 0 ≤ M4 132 l ∧ M4 132 l ≤ 2) : mN (pnet V) (V 4 3) M4 := by
  obtain ⟨y1, y2, y3⟩ := y
  rw [pnet_42] at y1
  refine ⟨by rw [o 123 (by decide), pnet_42, h4 2 (by omega) (by omega)]; exact y1, fun v a b => ?_, fun l a b => ?_⟩
  · have := y2 v a b
    rw [pnet_40, pnet_41, pnet_5] at this ⊢
    rw [o 126 (by decide), o 127 (by decide), h4 0 (by omega) (by omega), h4 1 (by omega) (by omega), hr 5 (by omega) (by omega)]
    exact this
  · rw [pnet_42, h4 2 (by omega) (by omega)] at b
    obtain ⟨w1, w2, w3, w4, _⟩ := y3 l a (by rw [pnet_42]; exact b)
    rw [pnet_6, pnet_7, pnet_8, pnet_9] at *
    rw [pnet_44, o 128 (by decide), o 129 (by decide), o 130 (by decide), o 131 (by decide), hr 6 (by omega) (by omega), hr 7 (by omega) (by omega), hr 8 (by omega) (by omega), hr 9 (by omega) (by omega)]
    exact ⟨w1, w2, w3, w4, hl l a b⟩
section OP3
variable {M : zM} {a1 a2 : Int}
theorem op_falls (h : Inv M) : opk 77 134 [(0, a1)] M := by
  obtain ⟨A, hA, ⟨hcP, hn, ⟨hF, hF2⟩, hk⟩, ⟨hmP, hmN, hLS⟩, hT, hR⟩ := id h
  obtain ⟨hW, hp, hd, hr0, hr1, hr4⟩ := id hn
  have hpW := pW_of hW
  have hm := hW.1
  have h3 : ∀ M1, mst M M1 → M1 123 3 = M 4 2 := fun M1 h1 => by rw [h1.1.1, pnet_42]
  have lv : ∀ M1, mst M M1 → ∀ l, 0 ≤ l → l < M 4 2 → (tbs (M 4 3) l ↔ M1 132 l = 1) ∧ (tbs (M 4 4) l ↔ M1 132 l = 2) ∧ 0 ≤ M1 132 l ∧ M1 132 l ≤ 2 := fun M1 h1 l l0 l1 => by
    have := (h1.1.2.2 l l0 (by rw [pnet_42]; exact l1)).2.2.2.2
    rw [pnet_44] at this; exact this
  refine s77_0 (c18 rfl (fun z => ⟨fun y => absurd rfl y, fun _ => refuse2 h (cro_r h) (by omega) (fun M2 Qm b1 b2 => s134_0 (c123 (by rw [h3 M2 b1]; exact hm) ⟨fun y => absurd (by rw [h3 M2 b1, if_neg z]) y, fun _ => b2 M2 mfx_r b1.1 b1.2.1⟩))⟩) (fun hl => ⟨fun _ => ⟨fun q => ?_, fun q => ?_⟩, fun y => absurd y (by decide)⟩))
  · rw [tbs_shr (by omega)] at q
    have sub : ∀ l, tbs (zand (M 4 3) (zxor (zshl 1 a1) (-1))) l ↔ tbs (M 4 3) l ∧ l ≠ a1 := fun l => tbs_del (by omega)
    have sup : ∀ l, tbs (zor (M 4 4) (zshl 1 a1)) l ↔ tbs (M 4 4) l ∨ l = a1 := fun l => tbs_or1 (by omega)
    have vv : ∀ V : zM, V 4 = fset (fset (M 4) 3 (zand (M 4 3) (zxor (zshl 1 a1) (-1)))) 4 (zor (M 4 4) (zshl 1 a1)) → (∀ a, 5 ≤ a → a ≤ 11 → V a = M a) → nst V ∧ (∀ j, 0 ≤ j → j ≤ 2 → V 4 j = M 4 j) ∧ V 4 3 = zand (M 4 3) (zxor (zshl 1 a1) (-1)) ∧ V 4 4 = zor (M 4 4) (zshl 1 a1) := fun V e4 ro => by
      have e3 : V 4 3 = zand (M 4 3) (zxor (zshl 1 a1) (-1)) := by rw [e4, fset_o _ (by decide), fset_s]
      have e44 : V 4 4 = zor (M 4 4) (zshl 1 a1) := by rw [e4, fset_s]
      have hj : ∀ j, 0 ≤ j → j ≤ 2 → V 4 j = M 4 j := fun j a b => by rw [e4, fset_o _ (by omega), fset_o _ (by omega)]
      refine ⟨nst_34 hn hj ro ?_ ?_ ?_ ?_ ?_ ?_, hj, e3, e44⟩
      · rw [e3]; intro l hl'; have := hp.1.1 l ((sub l).mp hl').1; rw [pnet_42] at this; exact this
      · rw [e3]; exact kRad_mono hp.1.2 (fun l hl' => ((sub l).mp hl').1)
      · rw [e3, e44]
        intro l hl' z
        rcases (sup l).mp z with y | y
        · have := hp.2.1 l ((sub l).mp hl').1; rw [pnet_44] at this; exact this y
        · exact ((sub l).mp hl').2 y
      · rw [e3]; exact zand_r _ _
      · rw [e44]; intro l hl'
        rcases (sup l).mp hl' with y | y
        · exact hd l y
        · rw [y]; exact hl.2
      · rw [e44]; exact zor_r _ _
    refine keep_settle hcP (fun M7 => zset (zset M7 4 3 (zand (M7 4 3) (zxor (zshl 1 a1) (-1)))) 4 4 (zor (M7 4 4) (zshl 1 a1))) (fun M7 a p q => by rw [zrow_o _ p, zrow_o _ p]) (fun M7 g => (vv _ (by rw [zrow_s, zrow_s, g 4 (by omega)]) (fun a p q => by rw [zrow_o _ (by omega), zrow_o _ (by omega), g a (by omega)])).1) (fun M7 M10 X g1 g2 g3 g4 g5 g6 g7 g8 g9 => ?_)
    have ro : ∀ a, ¬ (12 ≤ a ∧ a ≤ 19) → ¬ (28 ≤ a ∧ a ≤ 77) → a ≠ 4 → a ≠ 97 → a ≠ 112 → M10 a = M a := fun a p q r s t => by rw [g5 a p s t, zrow_o _ r, zrow_o _ r, g1 a q]
    have ro5 : ∀ a, 5 ≤ a → a ≤ 11 → M10 a = M a := fun a p q => ro a (by omega) (by omega) (by omega) (by omega) (by omega)
    obtain ⟨_, v2, v3, v4⟩ := vv M10 (by rw [g5 4 (by omega) (by decide) (by decide), zrow_s, zrow_s, g1 4 (by omega)]) ro5
    have l1 := zFO_lt hF
    rw [hF2] at l1
    have l2 := zFO_lt g7
    rw [g8] at l2
    have b1 : mst M M10 := mst_of h (fun a ha => ro a (by omega) (by omega) (by omega) (by omega) (by omega))
    have hlv := lv M10 b1
    rw [l1, l2]
    refine s134_0 (c123 (by rw [h3 M10 b1]; exact hm) ⟨fun _ => ⟨by omega, fun _ => ?_, fun y => absurd ((hlv a1 hl.1 hl.2).2.1.mpr y) q⟩, fun y => ?_⟩)
    · refine c132 (V := M10) (S' := M10 4 3) (X := X) (A := A) b1 hW hp (mP_cg hmP (by rw [b1.2.2 123 (by omega)]) (b1.2.2 133 (by omega))) (fun Y hY => (hA Y hY).1) g2 hl (pW_of g4.1) g4.2.1.1.1 (fun M3 y => ?_) (fun M2 y1 y2 y3 y4 => ⟨rfl, ?_⟩)
      · refine mN_34 (M3 := M3) hm.2 v2 ro5 y (fun a ha => zrow_o _ ha) (fun l a b => ?_)
        have := (y.2.2 l a (by rw [pnet_42]; exact b)).2.2.2.2
        rw [pnet_44] at this
        rw [v3, v4, sub l, sup l, zrow_s]
        by_cases e : l = a1
        · rw [e, fset_s]; exact ⟨⟨fun x => absurd rfl x.2, fun x => by omega⟩, ⟨fun _ => rfl, fun _ => Or.inr rfl⟩, by omega, by omega⟩
        · rw [fset_o _ e]
          exact ⟨⟨fun x => this.1.mp x.1, fun x => ⟨this.1.mpr x, e⟩⟩, ⟨fun x => this.2.1.mp (x.elim id (fun w => absurd w e)), fun x => Or.inl (this.2.1.mpr x)⟩, this.2.2.1, this.2.2.2⟩
      · exact Inv_mk2 h hA hn g2 g3 g4 g7 g8 g9 (fun a ha => ro a (by omega) (by omega) (by omega) (by omega) (by omega)) (fun a i ha => y1 a i (by omega) (by omega) (by omega) (by omega)) y2 y3 y4
    · rw [h3 M10 b1, if_pos hl] at y; exact absurd y (by decide)
  · rw [tbs_shr (by omega), Classical.not_not] at q
    refine refuse2 h (cro_r h) (by omega) (fun M2 Qm b1 b2 => s134_0 (c123 (by rw [h3 M2 b1]; exact hm) ⟨fun _ => ⟨by omega, fun y => absurd ((lv M2 b1 a1 hl.1 hl.2).2.1.mp q) y, fun _ => b2 M2 mfx_r b1.1 b1.2.1⟩, fun y => ?_⟩))
    rw [h3 M2 b1, if_pos hl] at y; exact absurd y (by decide)
theorem op_mends (h : Inv M) : opk 78 136 [(0, a1)] M := by
  obtain ⟨A, hA, ⟨hcP, hn, ⟨hF, hF2⟩, hk⟩, ⟨hmP, hmN, hLS⟩, hT, hR⟩ := id h
  obtain ⟨hW, hp, hd, hr0, hr1, hr4⟩ := id hn
  have hpW := pW_of hW
  have hm := hW.1
  have h3 : ∀ M1, mst M M1 → M1 123 3 = M 4 2 := fun M1 h1 => by rw [h1.1.1, pnet_42]
  have lv : ∀ M1, mst M M1 → ∀ l, 0 ≤ l → l < M 4 2 → (tbs (M 4 3) l ↔ M1 132 l = 1) ∧ (tbs (M 4 4) l ↔ M1 132 l = 2) ∧ 0 ≤ M1 132 l ∧ M1 132 l ≤ 2 := fun M1 h1 l l0 l1 => by
    have := (h1.1.2.2 l l0 (by rw [pnet_42]; exact l1)).2.2.2.2
    rw [pnet_44] at this; exact this
  refine s78_0 (c18 rfl (fun z => ⟨fun y => absurd rfl y, fun _ => refuse2 h (cro_r h) (by omega) (fun M2 Qm b1 b2 => s136_0 (c123 (by rw [h3 M2 b1]; exact hm) ⟨fun y => absurd (by rw [h3 M2 b1, if_neg z]) y, fun _ => b2 M2 mfx_r b1.1 b1.2.1⟩))⟩) (fun hl => ⟨fun _ => ⟨fun q => ?_, fun q => ?_⟩, fun y => absurd y (by decide)⟩))
  · rw [tbs_shr (by omega), Classical.not_not] at q
    have sub : ∀ l, tbs (zand (M 4 4) (zxor (zshl 1 a1) (-1))) l ↔ tbs (M 4 4) l ∧ l ≠ a1 := fun l => tbs_del (by omega)
    have ncl : ¬ tbs (M 4 3) a1 := fun z => by have := hp.2.1 a1 z; rw [pnet_44] at this; exact this q
    have vv : ∀ V : zM, V 4 = fset (M 4) 4 (zand (M 4 4) (zxor (zshl 1 a1) (-1))) → (∀ a, 5 ≤ a → a ≤ 11 → V a = M a) → nst V ∧ (∀ j, 0 ≤ j → j ≤ 2 → V 4 j = M 4 j) ∧ V 4 3 = M 4 3 ∧ V 4 4 = zand (M 4 4) (zxor (zshl 1 a1) (-1)) := fun V e4 ro => by
      have e3 : V 4 3 = M 4 3 := by rw [e4, fset_o _ (by decide)]
      have e44 : V 4 4 = zand (M 4 4) (zxor (zshl 1 a1) (-1)) := by rw [e4, fset_s]
      have hj : ∀ j, 0 ≤ j → j ≤ 2 → V 4 j = M 4 j := fun j a b => by rw [e4, fset_o _ (by omega)]
      refine ⟨nst_34 hn hj ro ?_ ?_ ?_ ?_ ?_ ?_, hj, e3, e44⟩
      · rw [e3]; intro l hl'; have := hp.1.1 l hl'; rw [pnet_42] at this; exact this
      · rw [e3]; exact hp.1.2
      · rw [e3, e44]
        intro l hl' z
        have := hp.2.1 l hl'; rw [pnet_44] at this; exact this ((sub l).mp z).1
      · rw [e3]; exact hp.2.2
      · rw [e44]; intro l hl'; exact hd l ((sub l).mp hl').1
      · rw [e44]; exact zand_r _ _
    refine keep_settle hcP (fun M7 => zset M7 4 4 (zand (M7 4 4) (zxor (zshl 1 a1) (-1)))) (fun M7 a p q => by rw [zrow_o _ p]) (fun M7 g => (vv _ (by rw [zrow_s, g 4 (by omega)]) (fun a p q => by rw [zrow_o _ (by omega), g a (by omega)])).1) (fun M7 M10 X g1 g2 g3 g4 g5 g6 g7 g8 g9 => ?_)
    have ro : ∀ a, ¬ (12 ≤ a ∧ a ≤ 19) → ¬ (28 ≤ a ∧ a ≤ 77) → a ≠ 4 → a ≠ 97 → a ≠ 112 → M10 a = M a := fun a p q r s t => by rw [g5 a p s t, zrow_o _ r, g1 a q]
    have ro5 : ∀ a, 5 ≤ a → a ≤ 11 → M10 a = M a := fun a p q => ro a (by omega) (by omega) (by omega) (by omega) (by omega)
    obtain ⟨_, v2, v3, v4⟩ := vv M10 (by rw [g5 4 (by omega) (by decide) (by decide), zrow_s, g1 4 (by omega)]) ro5
    have b1 : mst M M10 := mst_of h (fun a ha => ro a (by omega) (by omega) (by omega) (by omega) (by omega))
    have hlv := lv M10 b1
    have e42 : M10 4 2 = M 4 2 := v2 2 (by omega) (by omega)
    refine c164' g4.2.2.2.2.2 (fun i hi => by have := g4.2.2.1 i hi; omega) ?_
    refine s136_0 (c123 (by rw [h3 M10 b1]; exact hm) ⟨fun _ => ⟨by omega, fun _ => ?_, fun y => absurd ((hlv a1 hl.1 hl.2).2.1.mp q) y⟩, fun y => ?_⟩)
    · refine c132 (V := M10) (S' := M10 4 3) (X := X) (A := A) b1 hW hp (mP_cg hmP (by rw [b1.2.2 123 (by omega)]) (b1.2.2 133 (by omega))) (fun Y hY => (hA Y hY).1) g2 hl (pW_of g4.1) g4.2.1.1.1 (fun M3 y => ?_) (fun M2 y1 y2 y3 y4 => ?_)
      · refine mN_34 (M3 := M3) hm.2 v2 ro5 y (fun a ha => zrow_o _ ha) (fun l a b => ?_)
        have := (y.2.2 l a (by rw [pnet_42]; exact b)).2.2.2.2
        rw [pnet_44] at this
        rw [v3, v4, sub l, zrow_s]
        by_cases e : l = a1
        · rw [e, fset_s]; exact ⟨⟨fun x => absurd x ncl, fun x => by omega⟩, ⟨fun x => absurd rfl x.2, fun x => by omega⟩, by omega, by omega⟩
        · rw [fset_o _ e]
          exact ⟨this.1, ⟨fun x => this.2.1.mp x.1, fun x => ⟨this.2.1.mpr x, e⟩⟩, this.2.2.1, this.2.2.2⟩
      · have e3 : M2 123 3 = M 4 2 := by rw [y3.1, pnet_42, e42]
        refine c135 (by rw [e3]; exact hm) ⟨?_, Inv_mk2 h hA hn g2 g3 g4 g7 g8 g9 (fun a ha => ro a (by omega) (by omega) (by omega) (by omega) (by omega)) (fun a i ha => y1 a i (by omega) (by omega) (by omega) (by omega)) y2 y3 y4⟩
        rw [e3]
        refine cnt_mask hm (fun l hl' => by have := g4.2.2.1 l hl'; omega) (fun l a b => ?_)
        have := (y3.2.2 l a (by rw [pnet_42, e42]; exact b)).2.2.2.2.2.1
        rw [pnet_44] at this; exact this
    · rw [h3 M10 b1, if_pos hl] at y; exact absurd y (by decide)
  · rw [tbs_shr (by omega)] at q
    refine refuse2 h (cro_r h) (by omega) (fun M2 Qm b1 b2 => s136_0 (c123 (by rw [h3 M2 b1]; exact hm) ⟨fun _ => ⟨by omega, fun y => absurd ((lv M2 b1 a1 hl.1 hl.2).2.1.mpr y) q, fun _ => b2 M2 mfx_r b1.1 b1.2.1⟩, fun y => ?_⟩))
    rw [h3 M2 b1, if_pos hl] at y; exact absurd y (by decide)
end OP3
