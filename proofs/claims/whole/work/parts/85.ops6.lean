/-! reach, cure, cures -/
section OP6
variable {M : zM} {a1 a2 : Int}
theorem cro_97 {M1 : zM} (h : Inv M) (g : ∀ a, ¬ (97 ≤ a ∧ a ≤ 111) → M1 a = M a) (hk : M1 97 8 = -1 ∨ ∃ n : Nat, n ≤ 9 ∧ M1 97 8 = (n : Int) ∧ zse (pnet M) M1 (pre (pnet M) (M 4 3) n)) : cro M M1 := by
  have hp : pnet M1 = pnet M := pnet_cg (fun a p q => g a (by omega))
  refine ⟨fun a p q => g a (by omega), ?_, ?_⟩
  · rw [hp, g 4 (by omega)]; exact hk
  · have := (Inv_iK h).2
    unfold zrk at this ⊢
    rw [hp, g 4 (by omega), g 112 (by omega)]; exact this
theorem cro_112 {M1 : zM} (h : Inv M) (g : ∀ a, ¬ (112 ≤ a ∧ a ≤ 122) → M1 a = M a) (hk : zrk (pnet M) (M 4 3) M1) : cro M M1 := by
  have hp : pnet M1 = pnet M := pnet_cg (fun a p q => g a (by omega))
  refine ⟨fun a p q => g a (by omega), ?_, ?_⟩
  · rw [hp, g 4 (by omega), g 97 (by omega)]
    rcases (Inv_iK h).1 with z | ⟨n, z1, z2, z3⟩
    · exact Or.inl z
    · exact Or.inr ⟨n, z1, z2, zse_cg z3 (fun i _ _ => by rw [g 97 (by omega)]) (g 98 (by omega)) (g 99 (by omega))⟩
  · rw [hp, g 4 (by omega)]; exact Or.inr hk
theorem op_reach (h : Inv M) : opk 84 151 [(0, a1), (0, a2)] M := by
  refine zF_lay (fun hLay => ?_)
  obtain ⟨A, hA, ⟨hcP, hn, ⟨hF, hF2⟩, hk⟩, ⟨hmP, hmN, hLS⟩, hT, hR⟩ := id h
  obtain ⟨hW, hp, hd, hr0, hr1, hr4⟩ := id hn
  have hpW := pW_of hW
  have hXX := pXX_of hLay hW
  have bad : ¬ ((0 ≤ a1 ∧ a1 ≤ 9) ∧ 0 ≤ a2 ∧ a2 ≤ 2) → zF 91 (fun r Mx => zF 151 (fun r' M2 => r = r' ∧ Inv M2) [(2, 123), (0, a1), (0, a2)] Mx) [(2, 1), (0, -2)] M := fun z => refuse2 h (cro_r h) (by omega) (fun M2 Qm b1 b2 => c151 hpW b1.1 hp hXX (fun _ => b2 M2 mfx_r b1.1 b1.2.1) (fun y => absurd y z) (fun y => absurd y z))
  refine s84_0 ⟨fun q => bad (by omega), fun q => ⟨fun q2 => bad (by omega), fun q2 => ⟨fun q3 => bad (by omega), fun q3 => ⟨fun q4 => ?_, fun q4 => bad (by omega)⟩⟩⟩⟩
  have good : (0 ≤ a1 ∧ a1 ≤ 9) ∧ 0 ≤ a2 ∧ a2 ≤ 2 := by omega
  obtain ⟨n, rfl⟩ : ∃ n : Nat, a1 = n := ⟨a1.toNat, by omega⟩
  refine c58 hW (by omega) hp hXX (fun z => ?_) (fun M1 g1 g2 g3 => ?_)
  · rcases hk.1 with y | ⟨m, y1, y2, y3⟩
    · omega
    · have : m = n := by omega
      rw [this] at y3; exact y3
  · have row : ∀ a, ¬ (97 ≤ a ∧ a ≤ 111) → M1 a = M a := fun a ha => zfm_row g1 ha
    have hc1 : cro M M1 := cro_97 h row (Or.inr ⟨n, by omega, g2, g3⟩)
    rcases g3 with ⟨s1, s2, s3, s4, s5, s6⟩ | ⟨s1, s2, s3⟩
    · refine ⟨fun _ => ?_, fun z => absurd s1 z⟩
      have b1 : mst M M1 := mst_of h (fun a ha => row a (by omega))
      have run : ∀ r : Int, r = (if a2 = 0 then ((pre (pnet M) (M 4 3) n).length : Int) else if a2 = 1 then M1 97 2 else M1 97 3) → zF 151 (fun r' M2 => r = r' ∧ Inv M2) [(2, 123), (0, (n : Int)), (0, a2)] M1 := fun r hr => by
        refine c151 hpW b1.1 hp hXX (fun y => absurd good y) (fun _ y => ?_) (fun _ _ M2 x y e1 e2 e3 e4 => ⟨?_, fin_ro h hc1 e1 e2 e3⟩)
        · rw [show ((n : Int)).toNat = n from rfl] at y; omega
        · rw [show ((n : Int)).toNat = n from rfl] at e4 ⊢
          have u := kLe_u s6 e4
          rw [hr, u.1, u.2]
      refine ⟨fun y => ⟨fun y2 => run _ (by rw [if_neg y, if_neg y2]), fun y2 => run _ (by rw [if_neg y, if_pos y2])⟩, fun y => run _ (by rw [if_pos y, s2])⟩
    · refine ⟨fun z => by omega, fun _ => refuse2 h hc1 (by omega) (fun M2 Qm b1 b2 => c151 hpW b1.1 hp hXX (fun y => absurd good y) (fun _ _ M3 e1 e2 e3 => b2 M3 e1 e2 e3) (fun _ y => ?_))⟩
      rw [show ((n : Int)).toNat = n from rfl] at y; omega
theorem kCu_nst {N : zM} {S x m w : Int} {n : Nat} (hW : pW N) (hp : psx N S) (h : kCu N S (pC N S) n x m w) (hn : n ≤ 2 ^ (pC N S).length) (hc : (pC N S).length ≤ 12) : (∀ l, tbs x l → l < N 4 2 ∧ ¬ tbs (N 4 4) l) ∧ r32 x ∧ pcard x = m ∧ prad N (zor S x) ∧ (x = 0 ↔ m = 0) := by
  obtain ⟨s, h1, h2, h3, h4, h5, h6⟩ := h
  have hm := hW.1
  have hC := pC_in (N := N) (S := S) hW
  have hC' : ∀ x, x ∈ pC N S → 0 ≤ x ∧ x < 24 := fun x hx => by have := hC x hx; omega
  have hCu := pcl_up (N := N) (S := S) (N 4 2).toNat
  have hcd : pcard x = m := by
    rw [h3, h4]
    exact pcard_ln hC' hCu (by omega) (by omega)
  refine ⟨fun l hl => ?_, by rw [h3]; exact pln_r _ _, hcd, by rw [h3]; exact h2.1, fun z => ?_, fun z => ?_⟩
  · rw [h3] at hl
    obtain ⟨k, k1, k2, k3⟩ := (pln_b hC' l).mp hl
    have hmem := List.getElem_mem k1
    rw [k2] at hmem
    have := hC l hmem
    exact ⟨this.2, (pcl_in _ l hmem).2.1.2.2⟩
  · rw [← hcd, z]; decide
  · refine tbs_ext (by rw [h3]; exact pln_r _ _) (by unfold r32; omega) (fun i => ⟨fun y => ?_, fun y => absurd y (tbs_0 i)⟩)
    exfalso
    rw [h3] at y
    obtain ⟨k, k1, k2, k3⟩ := (pln_b hC' i).mp y
    have := hC' _ (List.getElem_mem k1)
    rw [h3] at hcd
    exact pcard_z (by omega) i y.1.1 (by omega) y
/-- the reference's cure, as far as seeks -/
theorem seek2 {Qm : Int → zM → Prop} {M1 : zM} (hn : nst M) (h1 : mN (pnet M) (M 4 3) M1) (hL : zLS M1) (hsp : 12 < (pC (pnet M) (M 4 3)).length → ∀ M3, mfx M1 M3 → mN (pnet M) (M 4 3) M3 → zLS M3 → zF 99 Qm [(2, 123), (0, -5)] M3) {R : Int → zM → Prop}
    (hok : (pC (pnet M) (M 4 3)).length ≤ 12 → ∀ M3, mfx M1 M3 → mN (pnet M) (M 4 3) M3 → zLS M3 → kCu (pnet M) (M 4 3) (pC (pnet M) (M 4 3)) (2 ^ (pC (pnet M) (M 4 3)).length) (M3 123 49) (M3 123 50) (M3 123 51) → R 0 M3) : zF 152 (fun _ M10 => ((¬ 12 < (M10 123 53) → zF 153 (fun _ M14 => R 0 M14) [(2, 123)] M10) ∧ (12 < (M10 123 53) → zF 99 (fun x22 M23 => Qm x22 M23) [(2, 123), (0, (-5))] M10))) [(2, 123)] M1 := by
  obtain ⟨hW, hp, _⟩ := hn
  have hpW := pW_of hW
  refine c152 hpW h1 hp.1.1 hL (fun M10 g1 g2 => ?_)
  have fx : mfx M1 M10 := fun a i p q r => g1 a i (by omega) (by omega)
  have mN10 : mN (pnet M) (M 4 3) M10 := mN_fr h1 (fun a i p q => g1 a i (by omega) (by omega))
  have L10 : zLS M10 := zLS_cg hL (fun a p q => funext fun i => g1 a i (by omega) (by omega)) (g1 123 3 (by decide) (by omega))
  rw [g2.1]
  refine ⟨fun z => c153 hpW mN10 hp L10 g2 (by omega) (fun M14 e1 e2 e3 e4 => hok (by omega) M14 (mfx_t fx e1) e2 e3 e4), fun z => hsp (by omega) M10 fx mN10 L10⟩
theorem op_cure (h : Inv M) (hb : a2 < 2147483648) : opk 85 155 [(0, a1), (0, a2)] M := by
  refine zF_lay (fun hLay => ?_)
  obtain ⟨A, hA, ⟨hcP, hn, ⟨hF, hF2⟩, hk⟩, ⟨hmP, hmN, hLS⟩, hT, hR⟩ := id h
  obtain ⟨hW, hp, hd, hr0, hr1, hr4⟩ := id hn
  have hpW := pW_of hW
  have hXX := pXX_of hLay hW
  have bad : ¬ ((0 ≤ a1 ∧ a1 ≤ 3) ∧ 0 ≤ a2) → zF 91 (fun r Mx => zF 155 (fun r' M2 => r = r' ∧ Inv M2) [(2, 123), (0, a1), (0, a2)] Mx) [(2, 1), (0, -2)] M := fun z => refuse2 h (cro_r h) (by omega) (fun M2 Qm b1 b2 => s155_0 (c98 ⟨fun _ => b2 M2 mfx_r b1.1 b1.2.1, fun y => ⟨fun y2 => absurd ⟨Classical.byContradiction fun w => y (if_neg w), by omega⟩ z, fun _ => b2 M2 mfx_r b1.1 b1.2.1⟩⟩))
  refine s85_0 ⟨fun q => bad (by omega), fun q => ⟨fun q2 => bad (by omega), fun q2 => ⟨fun q3 => ?_, fun q3 => bad (by omega)⟩⟩⟩
  have good : (0 ≤ a1 ∧ a1 ≤ 3) ∧ 0 ≤ a2 := by omega
  refine c41 hW hF hF2 hp hXX hk.2 (fun M1 g1 g2 g3 => ⟨fun y => absurd rfl y, fun _ => ?_⟩) (fun M1 g1 g2 g3 => ⟨fun _ => ?_, fun y => absurd y (by decide)⟩)
  · have hc1 : cro M M1 := cro_112 h (fun a ha => zfm_row g1 ha) g2
    refine refuse2 h hc1 (by omega) (fun M2 Qm b1 b2 => s155_0 (c98 ⟨fun y => by (rw [if_pos good.1] at y; exact absurd y (by decide)), fun _ => ⟨fun _ => ?_, fun y => by omega⟩⟩))
    exact seek2 (R := fun _ M14 => ((a1 = 0 → Qm (M14 123 49) M14) ∧ (¬ a1 = 0 → ((a1 = 1 → Qm (M14 123 50) M14) ∧ (¬ a1 = 1 → ((a1 = 2 → Qm (M14 123 51) M14) ∧ (¬ a1 = 2 → zF 154 (fun x19 M20 => Qm x19 M20) [(2, 123), (0, a2)] M14))))))) hn b1.1 b1.2.1 (fun _ M3 e1 e2 e3 => b2 M3 e1 e2 e3) (fun y => by omega)
  · have row : ∀ a, ¬ (112 ≤ a ∧ a ≤ 122) → M1 a = M a := fun a ha => zfm_row g1 ha
    have hc1 : cro M M1 := cro_112 h row g2
    obtain ⟨u1, u2⟩ := g2
    have hcu : kCu (pnet M) (M 4 3) (pC (pnet M) (M 4 3)) (2 ^ (pC (pnet M) (M 4 3)).length) (M1 112 0) (M1 112 1) (M1 112 2) := by
      rcases u2 with ⟨_, y⟩ | ⟨_, _, y⟩
      · omega
      · exact y
    obtain ⟨n1, n2, n3, n4, n5⟩ := kCu_nst hpW hp hcu (Nat.le_refl _) g3
    have mod : ∀ (M2 : zM) (r : Int), mst M M2 → cro M M2 → (∀ M3, mfx M2 M3 → mN (pnet M) (M 4 3) M3 → zLS M3 → M3 123 49 = M1 112 0 → M3 123 50 = M1 112 1 → M3 123 51 = M1 112 2 → ((a1 = 0 → r = M3 123 49 ∧ Inv M3) ∧ (¬ a1 = 0 → ((a1 = 1 → r = M3 123 50 ∧ Inv M3) ∧ (¬ a1 = 1 → ((a1 = 2 → r = M3 123 51 ∧ Inv M3) ∧ (¬ a1 = 2 → zF 154 (fun x19 M20 => r = x19 ∧ Inv M20) [(2, 123), (0, a2)] M3))))))) → zF 155 (fun r' M2 => r = r' ∧ Inv M2) [(2, 123), (0, a1), (0, a2)] M2 := fun M2 r b1 _ hh => by
      refine s155_0 (c98 ⟨fun y => by (rw [if_pos good.1] at y; exact absurd y (by decide)), fun _ => ⟨fun _ => ?_, fun y => by omega⟩⟩)
      refine seek2 (R := fun _ M14 => ((a1 = 0 → r = M14 123 49 ∧ Inv M14) ∧ (¬ a1 = 0 → ((a1 = 1 → r = M14 123 50 ∧ Inv M14) ∧ (¬ a1 = 1 → ((a1 = 2 → r = M14 123 51 ∧ Inv M14) ∧ (¬ a1 = 2 → zF 154 (fun x19 M20 => r = x19 ∧ Inv M20) [(2, 123), (0, a2)] M14))))))) hn b1.1 b1.2.1 (fun y => by omega) (fun _ M3 e1 e2 e3 e4 => ?_)
      obtain ⟨c1', c2', c3'⟩ := kCu_u e4 hcu
      exact hh M3 e1 e2 e3 c1' c2' c3'
    have b1 : mst M M1 := mst_of h (fun a ha => row a (by omega))
    refine ⟨fun y => mod M1 _ b1 hc1 (fun M3 e1 e2 e3 e4 e5 e6 => ⟨fun _ => ⟨e4.symm, fin_ro h hc1 e1 e2 e3⟩, fun x => absurd y x⟩), fun y0 => ⟨fun y => mod M1 _ b1 hc1 (fun M3 e1 e2 e3 e4 e5 e6 => ⟨fun x => absurd x y0, fun _ => ⟨fun _ => ⟨e5.symm, fin_ro h hc1 e1 e2 e3⟩, fun x => absurd y x⟩⟩), fun y1 => ⟨fun y => mod M1 _ b1 hc1 (fun M3 e1 e2 e3 e4 e5 e6 => ⟨fun x => absurd x y0, fun _ => ⟨fun x => absurd x y1, fun _ => ⟨fun _ => ⟨e6.symm, fin_ro h hc1 e1 e2 e3⟩, fun x => absurd y x⟩⟩⟩), fun y2 => ?_⟩⟩⟩
    obtain ⟨k, rfl⟩ : ∃ k : Nat, a2 = k := ⟨a2.toNat, by omega⟩
    have r4 : ∀ a, 4 ≤ a → a ≤ 11 → M1 a = M a := fun a p q => row a (by omega)
    have hp1 : pnet M1 = pnet M := pnet_cg r4
    have e41 : M1 4 = M 4 := r4 4 (by omega) (by omega)
    refine c42 (zWC_cg hW r4) (by rw [e41]; have := hp.1.1; rw [pnet_42] at this; exact this) (fun l hl => by have := (n1 l hl).1; rw [pnet_42] at this; rw [e41]; exact this) n3 (fun M2 d1 => ?_)
    rw [hp1, e41]
    have hc2 : cro M M2 := cro_112 h (fun a ha => by rw [zfm_row d1 (by omega), row a ha]) (by unfold zrk; rw [zfm_row d1 (by omega)]; exact ⟨u1, u2⟩)
    refine mod M2 _ (mst_of h (fun a ha => by rw [zfm_row d1 (by omega), row a (by omega)])) hc2 (fun M3 e1 e2 e3 e4 e5 e6 => ⟨fun x => absurd x y0, fun _ => ⟨fun x => absurd x y1, fun _ => ⟨fun x => absurd x y2, fun _ => ?_⟩⟩⟩)
    refine c154 hpW e2 hp e3 (by rw [e4]; exact n1) (by rw [e4]; exact n2) (by omega) (fun M4 w1 w2 w3 => ⟨by rw [e4], fin_ro h hc2 (mfx_t e1 w1) w2 w3⟩)
theorem op_cures (h : Inv M) : opk 86 156 [] M := by
  refine zF_lay (fun hLay => ?_)
  obtain ⟨A, hA, ⟨hcP, hn, ⟨hF, hF2⟩, hk⟩, ⟨hmP, hmN, hLS⟩, hT, hR⟩ := id h
  obtain ⟨hW, hp, hd, hr0, hr1, hr4⟩ := id hn
  have hpW := pW_of hW
  have hm := hW.1
  have hXX := pXX_of hLay hW
  refine s86_0 (c41 hW hF hF2 hp hXX hk.2 (fun M1 g1 g2 g3 => ⟨fun y => absurd rfl y, fun _ => ?_⟩) (fun M1 g1 g2 g3 => ⟨fun _ => ?_, fun y => absurd y (by decide)⟩))
  · have hc1 : cro M M1 := cro_112 h (fun a ha => zfm_row g1 ha) g2
    refine refuse2 h hc1 (by omega) (fun M2 Qm b1 b2 => s156_0 ?_)
    exact seek2 (R := fun _ M6 => ((¬ (M6 123 49) = 0 → zF 115 (fun _ M10 => zF 147 (fun x12 M13 => zF 148 (fun _ M16 => Qm (M16 123 50) M16) [(2, 123), (0, zor x12 (M13 123 49))] M13) [(2, 123)] M10) [(2, 123)] M6) ∧ ((M6 123 49) = 0 → zF 99 (fun x18 M19 => Qm x18 M19) [(2, 123), (0, (-3))] M6))) hn b1.1 b1.2.1 (fun _ M3 e1 e2 e3 => b2 M3 e1 e2 e3) (fun y => by omega)
  · have row : ∀ a, ¬ (112 ≤ a ∧ a ≤ 122) → M1 a = M a := fun a ha => zfm_row g1 ha
    have hc1 : cro M M1 := cro_112 h row g2
    obtain ⟨u1, u2⟩ := g2
    have hcu : kCu (pnet M) (M 4 3) (pC (pnet M) (M 4 3)) (2 ^ (pC (pnet M) (M 4 3)).length) (M1 112 0) (M1 112 1) (M1 112 2) := by
      rcases u2 with ⟨_, y⟩ | ⟨_, _, y⟩
      · omega
      · exact y
    obtain ⟨n1, n2, n3, n4, n5⟩ := kCu_nst hpW hp hcu (Nat.le_refl _) g3
    refine ⟨fun z => ?_, fun z => refuse2 h hc1 (by omega) (fun M2 Qm b1 b2 => s156_0 (seek2 (R := fun _ M6 => ((¬ (M6 123 49) = 0 → zF 115 (fun _ M10 => zF 147 (fun x12 M13 => zF 148 (fun _ M16 => Qm (M16 123 50) M16) [(2, 123), (0, zor x12 (M13 123 49))] M13) [(2, 123)] M10) [(2, 123)] M6) ∧ ((M6 123 49) = 0 → zF 99 (fun x18 M19 => Qm x18 M19) [(2, 123), (0, (-3))] M6))) hn b1.1 b1.2.1 (fun y => by omega) (fun _ M3 e1 e2 e3 e4 => ?_)))⟩
    · have cP1 : cP M1 A := cP_cg hcP (fun a p q => row a (by omega))
      have bS : ∀ l, tbs (zor (M 4 3) (M1 112 0)) l → l < M 4 2 := fun l hl => by
        rcases tbs_or.mp hl with y | y
        · have := hp.1.1 l y; rw [pnet_42] at this; exact this
        · have := (n1 l y).1; rw [pnet_42] at this; exact this
      have dS : ∀ l, tbs (zor (M 4 3) (M1 112 0)) l → ¬ tbs (M 4 4) l := fun l hl => by
        rcases tbs_or.mp hl with y | y
        · have := hp.2.1 l y; rw [pnet_44] at this; exact this
        · have := (n1 l y).2; rw [pnet_44] at this; exact this
      have vv : ∀ V : zM, V 4 = fset (M 4) 3 (zor (M 4 3) (M1 112 0)) → (∀ a, 5 ≤ a → a ≤ 11 → V a = M a) → nst V ∧ V 4 3 = zor (M 4 3) (M1 112 0) ∧ pnet V = pnet M := fun V e4 ro => by
        have e3 : V 4 3 = zor (M 4 3) (M1 112 0) := by rw [e4, fset_s]
        have e44 : V 4 4 = M 4 4 := by rw [e4, fset_o _ (by decide)]
        have hj : ∀ j, 0 ≤ j → j ≤ 2 → V 4 j = M 4 j := fun j a b => by rw [e4, fset_o _ (by omega)]
        exact ⟨nst_34 hn hj ro (by rw [e3]; exact bS) (by rw [e3]; exact n4) (by rw [e3, e44]; exact dS) (by rw [e3]; exact zor_r _ _) (by rw [e44]; exact hd) (by rw [e44]; exact hr4), e3, pnet_eq (fun i hi => by rw [e4, fset_o _ hi]) (fun a p q => ro a p (by omega))⟩
      refine keep_settle cP1 (fun M7 => zset M7 4 3 (zor (M7 4 3) (M7 112 0))) (fun M7 a p q => by rw [zrow_o _ p]) (fun M7 g => (vv _ (by rw [zrow_s, g 4 (by omega), row 4 (by omega), g 112 (by omega)]) (fun a p q => by rw [zrow_o _ (by omega), g a (by omega), row a (by omega)])).1) (fun M7 M10 X k1 k2 k3 k4 k5 k6 k7 k8 k9 => ?_)
      have ro : ∀ a, ¬ (12 ≤ a ∧ a ≤ 27) → ¬ (28 ≤ a ∧ a ≤ 77) → ¬ (112 ≤ a ∧ a ≤ 122) → a ≠ 4 → a ≠ 97 → M10 a = M a := fun a p q r s t => by rw [k5 a (by omega) t (by omega), zrow_o _ s, k1 a q, row a r]
      have ro5 : ∀ a, 5 ≤ a → a ≤ 11 → M10 a = M a := fun a p q => ro a (by omega) (by omega) (by omega) (by omega) (by omega)
      obtain ⟨_, v3, vp⟩ := vv M10 (by rw [k5 4 (by omega) (by decide) (by decide), zrow_s, k1 4 (by omega), row 4 (by omega), k1 112 (by omega)]) ro5
      have b1 : mst M M10 := mst_of h (fun a ha => ro a (by omega) (by omega) (by omega) (by omega) (by omega))
      have e1121 : M10 112 1 = M1 112 1 := by rw [k6 1 (by decide), k1 112 (by omega)]
      rw [e1121]
      have k2' : neq M X := neq_t (neq_cg neq_r (fun a p q => row a (by omega))) k2
      refine s156_0 (seek2 (Qm := fun r' M2 => M1 112 1 = r' ∧ Inv M2) (R := fun _ M6 => ((¬ (M6 123 49) = 0 → zF 115 (fun _ M10 => zF 147 (fun x12 M13 => zF 148 (fun _ M16 => M1 112 1 = (M16 123 50) ∧ Inv M16) [(2, 123), (0, zor x12 (M13 123 49))] M13) [(2, 123)] M10) [(2, 123)] M6) ∧ ((M6 123 49) = 0 → zF 99 (fun x18 M19 => M1 112 1 = x18 ∧ Inv M19) [(2, 123), (0, (-3))] M6))) hn b1.1 b1.2.1 (fun y => by omega) (fun _ M3 e1 e2 e3 e4 => ?_))
      obtain ⟨c1', c2', c3'⟩ := kCu_u e4 hcu
      rw [c1']
      refine ⟨fun _ => ?_, fun y => absurd (n5.mp y) z⟩
      have mP3 : mP M3 A := mP_cg hmP (by rw [e1 123 11 (by omega) (by omega) (by omega), b1.2.2 123 (by omega)]) (by rw [mfx_row e1 (by omega) (by omega) (by omega), b1.2.2 133 (by omega)])
      refine c115 mP3 (fun Y hY => (hA Y hY).1) (mN_neq hW e2 k2') (zWC_neq hW k2') (fun M11 w1 w2 => ?_)
      have mN11 : mN (pnet M) (M 4 3) M11 := mN_mv (by rw [pnet_42]; exact hm.2) e2 (w1 123 3 (by decide) (by omega)) (fun v _ _ => ⟨w1 126 v (by decide) (by omega), w1 127 v (by decide) (by omega)⟩) (fun l _ _ => ⟨w1 128 l (by decide) (by omega), w1 129 l (by decide) (by omega), w1 130 l (by decide) (by omega), w1 131 l (by decide) (by omega), w1 132 l (by decide) (by omega)⟩)
      refine c147' hpW mN11 hp.1.1 hp.2.2 ?_
      rw [w1 123 49 (by decide) (by omega), c1']
      refine c148 hpW mN11 (by rw [pnet_42]; exact bS) (by unfold pD; rw [pnet_44]; exact dS) (fun M16 d1 d2 d3 => ⟨by rw [d1 123 50 (by omega) (by omega) (by omega), w1 123 50 (by decide) (by omega), c2'], ?_⟩)
      have fr := mfx_notes e1 w1
      refine Inv_mk2 h hA hn k2' k3 k4 k7 k8 k9 (fun a ha => ro a (by omega) (by omega) (by omega) (by omega) (by omega)) (fun a i ha => ?_) (mP_cg w2 (d1 123 11 (by omega) (by omega) (by omega)) (funext fun i => d1 133 i (by omega) (by omega) (by omega))) (by rw [vp, v3]; exact d2) d3
      rw [d1 a i (by omega) (by omega) (by omega)]
      exact fr a i (by omega) (by omega) (by omega) (by omega)
    · obtain ⟨c1', c2', c3'⟩ := kCu_u e4 hcu
      refine ⟨fun y => absurd ?_ y, fun _ => b2 M3 e1 e2 e3⟩
      rw [c1']; exact n5.mpr z
end OP6
