/-! calls that change the net: opens, falls, mends -/
theorem zWC_43 {M M' : zM} (h : zWC M) (h4 : ∀ j, 0 ≤ j → j ≤ 2 → M' 4 j = M 4 j) (hr : ∀ a, 5 ≤ a → a ≤ 11 → M' a = M a) : zWC M' := by
  unfold zWC zTL
  rw [h4 0 (by omega) (by omega), h4 1 (by omega) (by omega), h4 2 (by omega) (by omega), hr 5 (by omega) (by omega), hr 6 (by omega) (by omega), hr 7 (by omega) (by omega), hr 8 (by omega) (by omega), hr 9 (by omega) (by omega), hr 10 (by omega) (by omega), hr 11 (by omega) (by omega)]
  exact h
section KS
variable {Q : Int → zM → Prop} {M : zM}
theorem c92 (hW : zWC M) (hs : ∀ l, tbs (M 4 3) l → l < M 4 2) (hQ : ∀ M', (∀ a, ¬ (12 ≤ a ∧ a ≤ 19) → a ≠ 97 → a ≠ 112 → M' a = M a) → (∀ j, j ≠ 7 → M' 112 j = M 112 j) → zFO M' 12 → M' 12 0 = M' 4 3 → iK M' → Q 0 M') : zF 92 Q [(2, 1)] M := by
  refine s92_0 (c1 rfl hW hs (fun M1 g1 g2 g3 => s57_0 (s40_0 ?_)))
  generalize hM2 : zset (zset M1 97 8 (-1)) 112 7 0 = M2
  have r97 : M2 97 = fset (M1 97) 8 (-1) := by rw [← hM2, zrow_o _ (by decide), zrow_s]
  have r112 : M2 112 = fset (M1 112) 7 0 := by rw [← hM2, zrow_s, zrow_o _ (by decide)]
  have o2 : ∀ a, a ≠ 97 → a ≠ 112 → M2 a = M1 a := fun a p q => by rw [← hM2, zrow_o _ q, zrow_o _ p]
  have row : ∀ a, ¬ (12 ≤ a ∧ a ≤ 19) → M1 a = M a := fun a ha => zFf_row g1 (by omega)
  refine hQ M2 (fun a p q r => by rw [o2 a q r, row a p]) (fun j hj => by rw [r112, fset_o _ hj, row 112 (by omega)]) (zFO_cg g3 (fun a p q => o2 a (by omega) (by omega)) (fun a p q => o2 a (by omega) (by omega))) ?_ ⟨Or.inl (by rw [r97, fset_s]), Or.inl (by rw [r112, fset_s])⟩
  rw [o2 12 (by decide) (by decide), o2 4 (by decide) (by decide), row 4 (by omega), g2]
theorem keep_settle {R : zM → Prop} {A : List zM} (hcP : cP M A) (upd : zM → zM) (hu : ∀ M7 a, a ≠ 4 → a ≠ 5 → upd M7 a = M7 a) (hn : ∀ M7, (∀ a, ¬ (28 ≤ a ∧ a ≤ 77) → M7 a = M a) → nst (upd M7))
    (hQ : ∀ M7 M10 X, (∀ a, ¬ (28 ≤ a ∧ a ≤ 77) → M7 a = M a) → neq M X → cP M10 (ppush A X) → nst M10 → (∀ a, ¬ (12 ≤ a ∧ a ≤ 19) → a ≠ 97 → a ≠ 112 → M10 a = upd M7 a) → (∀ j, j ≠ 7 → M10 112 j = M7 112 j) → zFO M10 12 → M10 12 0 = M10 4 3 → iK M10 → R M10) : zF 26 (fun _ M7 => zF 92 (fun _ M10 => R M10) [(2, 1)] (upd M7)) [(2, 28), (2, 4)] M := by
  refine c26 hcP (fun M7 g1 g2 => ?_)
  obtain ⟨X, x1, x2⟩ := g2
  have n7 := hn M7 g1
  have hb := n7.2.1.1.1
  rw [pnet_42] at hb
  refine c92 n7.1 hb (fun M10 k1 k2 k3 k4 k5 => hQ M7 M10 X g1 x1 (cP_cg x2 (fun a p q => ?_)) (nst_cg n7 (fun a p q => k1 a (by omega) (by omega) (by omega))) k1 (fun j hj => ?_) k3 k4 k5)
  · rw [k1 a (by omega) (by omega) (by omega), hu M7 a (by omega) (by omega)]
  · rw [k2 j hj, hu M7 112 (by decide) (by decide)]
end KS
theorem Inv_mk {M M10 M2 : zM} {A : List zM} (h : Inv M) (hA : ∀ X, X ∈ A → nst X) (hcP : cP M10 A) (hn : nst M10) (hF : zFO M10 12) (hF2 : M10 12 0 = M10 4 3) (hk : iK M10) (h1 : M10 1 = M 1) (h3 : M10 3 = M 3) (h2 : M10 2 = M 2) (lo : ∀ a, a < 123 → M2 a = M10 a) (hmP : mP M2 A) (hN : mN (pnet M10) (M10 4 3) M2) (hL : zLS M2) (g2 : M2 123 2 = M 123 2) (g124 : M2 124 = M 124) (g125 : M2 125 = M 125) : Inv M2 := by
  obtain ⟨_, _, _, _, ⟨d1, d2, d3⟩, e⟩ := h
  have r4 : ∀ a, 4 ≤ a → a ≤ 11 → M2 a = M10 a := fun a p q => lo a (by omega)
  have hp : pnet M2 = pnet M10 := pnet_cg r4
  have e4 : M2 4 = M10 4 := r4 4 (by omega) (by omega)
  have e1 : M2 1 = M 1 := by rw [lo 1 (by omega), h1]
  refine ⟨A, hA, ⟨cP_cg hcP (fun a p q => lo a (by omega)), nst_cg hn r4, ⟨zFO_cg hF r4 (fun a p q => lo a (by omega)), by rw [lo 12 (by omega), e4]; exact hF2⟩, iK_cg hk (fun a p q => r4 a p (by omega)) (fun a p q => lo a (by omega)) (lo 112 (by omega))⟩, ⟨hmP, by rw [hp, e4]; exact hN, hL⟩, ⟨by rw [e1]; exact d1, by rw [g2, e1]; exact d2, ?_⟩, fun j j0 j1 => by rw [lo 2 (by omega), h2, g124]; exact e j j0 j1⟩
  rw [e1, g125, lo 3 (by omega), h3]; exact d3
theorem ppush_in {A : List zM} {X Y : zM} (h : Y ∈ ppush A X) : Y ∈ A ∨ Y = X := by
  unfold ppush at h
  rcases List.mem_append.mp h with q | q
  · left
    split at q
    · exact List.mem_of_mem_tail q
    · exact q
  · right; exact List.mem_singleton.mp q
theorem plt_cg {N N' : zM} {S : Int} (h1 : N' 4 1 = N 4 1) (h5 : N' 5 = N 5) (h6 : N' 6 = N 6) (h7 : N' 7 = N 7) : plt N' S = plt N S := by
  unfold plt pli
  rw [h1, h5, h6, h7]
theorem zsum_ext {f : Int → Int} {m : Nat} : ∀ n : Nat, m ≤ n → (∀ i : Nat, m ≤ i → i < n → f i = 0) → zsum f n = zsum f m
  | 0, h, _ => by rw [show m = 0 by omega]
  | n + 1, h, g => by
    by_cases e : m = n + 1
    · rw [e]
    · show zsum f n + f n = zsum f m
      rw [g n (by omega) (by omega), zsum_ext n (by omega) (fun i a b => g i a (by omega))]
      omega
theorem cnt_mask {x c : Int} {f : Int → Int} {m : Int} (hm : 0 ≤ m ∧ m ≤ 24) (hx : ∀ l, tbs x l → l < m) (hf : ∀ l, 0 ≤ l → l < m → (tbs x l ↔ f l = c)) : pcard x = zsum (fun l => if f l = c then 1 else 0) m.toNat := by
  unfold pcard
  rw [zsum_ext (m := m.toNat) 24 (by omega) (fun i a b => by
    rw [if_neg (fun z => by have := hx i ⟨by omega, z⟩; omega)])]
  refine zsum_congr _ (fun i hi => ?_)
  have := hf i (by omega) (by omega)
  by_cases q : f i = c
  · rw [if_pos q, if_pos (this.mpr q).2]
  · rw [if_neg q, if_neg (fun z => q (this.mp ⟨by omega, z⟩))]
theorem tbs_nat_ex {x : Int} (hr : r32 x) (h : ∀ i, tbs x i → i < 24) : ∃ n : Nat, x = n ∧ n < 16777216 := by
  have := tbs_nn hr h
  exact ⟨x.toNat, by omega, by omega⟩
theorem c164' {Q : Int → zM → Prop} {M : zM} {x : Int} (hr : r32 x) (h : ∀ i, tbs x i → i < 24) (hQ : Q (pcard x) M) : zF 164 Q [(0, x)] M := by
  obtain ⟨n, e, hn⟩ := tbs_nat_ex hr h
  subst e
  refine c164 hn ?_
  rw [bct_sum 24 (by omega)]
  exact hQ
section OP2
variable {M : zM} {a1 a2 : Int}
/-- the reference's turnsOff -/
theorem c132 {Qm : Int → zM → Prop} {M1 X V : zM} {A : List zM} {x S' : Int} (h1 : mst M M1) (hW : zWC M) (hp : psx (pnet M) (M 4 3)) (hmP : mP M1 A) (hA : ∀ Y, Y ∈ A → zWC Y) (hX : neq M X) (hl : 0 ≤ a1 ∧ a1 < M 4 2) (hV : pW (pnet V)) (hV2 : ∀ l, tbs S' l → l < pnet V 4 2)
    (hN : ∀ M3, mN (pnet M) (M 4 3) M3 → mN (pnet V) S' (zset M3 132 a1 x)) (hQ : ∀ M2, (∀ a i, a ≠ 133 → a ≠ 132 → ¬ (142 ≤ a ∧ a ≤ 148) → ¬ (a = 123 ∧ (i = 11 ∨ i = 31)) → M2 a i = M1 a i) → mP M2 (ppush A X) → mN (pnet V) S' M2 → zLS M2 → Qm (zw (plt (pnet M) (M 4 3) - plt (pnet V) S')) M2) : zF 132 Qm [(2, 123), (0, a1), (0, x)] M1 := by
  have hpW := pW_of hW
  have hm := hW.1
  refine s132_0 (c122' hpW h1.1 hp.1.1 h1.2.1 (c115 hmP hA (mN_neq hW h1.1 hX) (zWC_neq hW hX) (fun M3 b1 b2 => ⟨by omega, ?_⟩)))
  have mN3 : mN (pnet M) (M 4 3) M3 := mN_mv (by rw [pnet_42]; exact hm.2) h1.1 (b1 123 3 (by decide) (by omega)) (fun v _ _ => ⟨b1 126 v (by decide) (by omega), b1 127 v (by decide) (by omega)⟩) (fun l _ _ => ⟨b1 128 l (by decide) (by omega), b1 129 l (by decide) (by omega), b1 130 l (by decide) (by omega), b1 131 l (by decide) (by omega), b1 132 l (by decide) (by omega)⟩)
  refine c118' hV (hN M3 mN3) (fun M4 d1 d2 d3 => c122' hV d2 hV2 d3 (hQ M4 (fun a i p q r s => ?_) ?_ d2 d3))
  · rw [d1 a i r (by omega), zrow_o _ q, b1 a i p (by omega)]
  · exact mP_cg b2 (by rw [d1 123 11 (by omega) (by omega), zrow_o _ (by decide)]) (by rw [show M4 133 = zset M3 132 a1 x 133 from funext fun i => d1 133 i (by omega) (by omega), zrow_o _ (by decide)])
theorem op_opens (h : Inv M) : opk 76 133 [(0, a1)] M := by
  obtain ⟨A, hA, ⟨hcP, hn, ⟨hF, hF2⟩, hk⟩, ⟨hmP, hmN, hLS⟩, hT, hR⟩ := id h
  obtain ⟨hW, hp, hd, hr0, hr1, hr4⟩ := id hn
  have hpW := pW_of hW
  have hm := hW.1
  have h3 : ∀ M1, mst M M1 → M1 123 3 = M 4 2 := fun M1 h1 => by rw [h1.1.1, pnet_42]
  refine s76_0 (c18 rfl (fun z => ⟨fun y => absurd rfl y, fun _ => refuse2 h (cro_r h) (by omega) (fun M2 Qm b1 b2 => s133_0 (c123 (by rw [h3 M2 b1]; exact hm) ⟨fun y => absurd (by rw [h3 M2 b1, if_neg z]) y, fun _ => b2 M2 mfx_r b1.1 b1.2.1⟩))⟩) (fun hl => ⟨fun _ => ⟨fun q => ?_, fun q => ?_⟩, fun y => absurd y (by decide)⟩))
  · rw [tbs_shr (by omega), Classical.not_not] at q
    have sub : ∀ l, tbs (zand (M 4 3) (zxor (zshl 1 a1) (-1))) l ↔ tbs (M 4 3) l ∧ l ≠ a1 := fun l => tbs_del (by omega)
    refine keep_settle hcP (fun M7 => zset M7 4 3 (zand (M7 4 3) (zxor (zshl 1 a1) (-1)))) (fun M7 a p q => zrow_o _ p) (fun M7 g => ?_) (fun M7 M10 X g1 g2 g3 g4 g5 g6 g7 g8 g9 => ?_)
    · have e4 : M7 4 = M 4 := g 4 (by omega)
      have r4 : (zset M7 4 3 (zand (M7 4 3) (zxor (zshl 1 a1) (-1)))) 4 = fset (M 4) 3 (zand (M 4 3) (zxor (zshl 1 a1) (-1))) := by rw [zrow_s, e4]
      have ro : ∀ a, 5 ≤ a → a ≤ 11 → (zset M7 4 3 (zand (M7 4 3) (zxor (zshl 1 a1) (-1)))) a = M a := fun a p q => by rw [zrow_o _ (by omega), g a (by omega)]
      have hp' : pnet (zset M7 4 3 (zand (M7 4 3) (zxor (zshl 1 a1) (-1)))) = pnet M := pnet_eq (fun i hi => by rw [r4, fset_o _ hi]) (fun a p q => ro a p (by omega))
      refine ⟨zWC_43 hW (fun j a b => by rw [r4, fset_o _ (by omega)]) ro, ?_, ?_, ?_, ?_, ?_⟩
      · rw [hp', r4, fset_s]
        exact ⟨⟨fun l hl' => hp.1.1 l ((sub l).mp hl').1, kRad_mono hp.1.2 (fun l hl' => ((sub l).mp hl').1)⟩, fun l hl' => hp.2.1 l ((sub l).mp hl').1, zand_r _ _⟩
      · rw [r4, fset_o _ (by decide), fset_o _ (by decide)]; exact hd
      · rw [r4, fset_o _ (by decide)]; exact hr0
      · rw [r4, fset_o _ (by decide)]; exact hr1
      · rw [r4, fset_o _ (by decide)]; exact hr4
    · have e4 : M10 4 = fset (M 4) 3 (zand (M 4 3) (zxor (zshl 1 a1) (-1))) := by rw [g5 4 (by omega) (by decide) (by decide), zrow_s, g1 4 (by omega)]
      have ro : ∀ a, ¬ (12 ≤ a ∧ a ≤ 19) → ¬ (28 ≤ a ∧ a ≤ 77) → a ≠ 4 → a ≠ 97 → a ≠ 112 → M10 a = M a := fun a p q r s t => by rw [g5 a p s t, zrow_o _ r, g1 a q]
      have hpn : pnet M10 = pnet M := pnet_eq (fun i hi => by rw [e4, fset_o _ hi]) (fun a p q => ro a (by omega) (by omega) (by omega) (by omega) (by omega))
      have e43 : M10 4 3 = zand (M 4 3) (zxor (zshl 1 a1) (-1)) := by rw [e4, fset_s]
      have l1 := zFO_lt hF
      rw [hF2] at l1
      have l2 := zFO_lt g7
      rw [hpn, g8, e43] at l2
      have b1 : mst M M10 := mst_of h (fun a ha => ro a (by omega) (by omega) (by omega) (by omega) (by omega))
      have e132 : M10 132 a1 = 1 := by
        have := (b1.1.2.2 a1 hl.1 (by rw [pnet_42]; exact hl.2)).2.2.2.2.1.mp q
        exact this
      rw [l1, l2]
      refine s133_0 (c123 (by rw [h3 M10 b1]; exact hm) ⟨fun _ => ⟨by omega, fun y => absurd e132 y, fun _ => ?_⟩, fun y => absurd (by rw [h3 M10 b1, if_pos hl]; decide) (fun x : ¬ (if 0 ≤ a1 ∧ a1 < M10 123 3 then (1 : Int) else 0) = 0 => x y)⟩)
      refine c132 (V := M10) (S' := M10 4 3) (X := X) (A := A) b1 hW hp (mP_cg hmP (by rw [b1.2.2 123 (by omega)]) (b1.2.2 133 (by omega))) (fun Y hY => (hA Y hY).1) g2 hl (by rw [hpn]; exact hpW) (by rw [hpn, e43]; exact fun l hl' => hp.1.1 l ((sub l).mp hl').1) (fun M3 y => ?_) (fun M2 y1 y2 y3 y4 => ⟨by rw [hpn, e43], ?_⟩)
      · rw [hpn, e43]
        refine ⟨by rw [zrow_o _ (by decide)]; exact y.1, fun v a b => by rw [zrow_o _ (by decide), zrow_o _ (by decide)]; exact y.2.1 v a b, fun l a b => ?_⟩
        obtain ⟨w1, w2, w3, w4, w5, w6, w7, w8⟩ := y.2.2 l a b
        rw [zrow_o _ (by decide), zrow_o _ (by decide), zrow_o _ (by decide), zrow_o _ (by decide), zrow_s, sub l]
        refine ⟨w1, w2, w3, w4, ?_⟩
        by_cases e : l = a1
        · rw [e, fset_s]
          have nd := hp.2.1 a1 q
          exact ⟨⟨fun x => absurd rfl x.2, fun x => by omega⟩, ⟨fun x => absurd x nd, fun x => by omega⟩, by omega, by omega⟩
        · rw [fset_o _ e]
          exact ⟨⟨fun x => w5.mp x.1, fun x => ⟨w5.mpr x, e⟩⟩, w6, w7, w8⟩
      · refine Inv_mk h (A := ppush A X) (fun Y hY => ?_) g3 g4 g7 g8 g9 (ro 1 (by omega) (by omega) (by decide) (by decide) (by decide)) (ro 3 (by omega) (by omega) (by decide) (by decide) (by decide)) (ro 2 (by omega) (by omega) (by decide) (by decide) (by decide)) (fun a ha => funext fun i => y1 a i (by omega) (by omega) (by omega) (by omega)) y2 y3 y4 ?_ ?_ ?_
        · rcases ppush_in hY with w | w
          · exact hA Y w
          · rw [w]; exact nst_neq hn g2
        · rw [y1 123 2 (by decide) (by decide) (by omega) (by omega), b1.2.2 123 (by omega)]
        · funext i; rw [y1 124 i (by decide) (by decide) (by omega) (by omega), b1.2.2 124 (by omega)]
        · funext i; rw [y1 125 i (by decide) (by decide) (by omega) (by omega), b1.2.2 125 (by omega)]
  · rw [tbs_shr (by omega)] at q
    refine refuse2 h (cro_r h) (by omega) (fun M2 Qm b1 b2 => s133_0 (c123 (by rw [h3 M2 b1]; exact hm) ⟨fun _ => ⟨by omega, fun _ => b2 M2 mfx_r b1.1 b1.2.1, fun y => ?_⟩, fun y => ?_⟩))
    · exact absurd ((b1.1.2.2 a1 hl.1 (by rw [pnet_42]; exact hl.2)).2.2.2.2.1.mpr y) q
    · rw [h3 M2 b1, if_pos hl] at y; exact absurd y (by decide)
end OP2
