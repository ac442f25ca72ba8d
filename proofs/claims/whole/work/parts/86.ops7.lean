/-! ring, gain, best, exchanges -/
section OP7
variable {M : zM} {a1 a2 : Int}
theorem mN_x {N M1 : zM} {S t : Int} {e0 : Int × Int} (hW : pW N) (h : mN N S M1) (hk : pok N S) (ht : 0 ≤ t ∧ t < N 4 2) (hd : M1 132 t = 0) (h0 : e0 ∈ prg N S t) : mN N (pex S t e0.1) (zset (zset M1 132 t 1) 132 e0.1 0) := by
  have hm := hW.1
  have hS0 := prg_S hk h0
  have hl1 := hk.1 _ hS0
  have hl0 := hS0.1.1
  have hx := pex_s hW hk ht h0
  have hT := h.2.2 t ht.1 ht.2
  have hLe := h.2.2 e0.1 hl0 hl1
  have hnt : ¬ tbs S t := fun z => by have := hT.2.2.2.2.1.mp z; omega
  have htl : t ≠ e0.1 := fun z => hnt (by rw [z]; exact hS0)
  have hl132 : M1 132 e0.1 = 1 := hLe.2.2.2.2.1.mp hS0
  generalize hN1 : zset (zset M1 132 t 1) 132 e0.1 0 = N1
  have nO : ∀ a, a ≠ 132 → N1 a = M1 a := fun a q => by rw [← hN1, zrow_o _ q, zrow_o _ q]
  have n132 : N1 132 = fset (fset (M1 132) t 1) e0.1 0 := by rw [← hN1, zrow_s, zrow_s]
  refine ⟨by rw [nO 123 (by decide)]; exact h.1, fun v a b => by rw [nO 126 (by decide), nO 127 (by decide)]; exact h.2.1 v a b, fun l a b => ?_⟩
  rw [nO 128 (by decide), nO 129 (by decide), nO 130 (by decide), nO 131 (by decide), n132, hx l]
  obtain ⟨w1, w2, w3, w4, w5, w6, w7, w8⟩ := h.2.2 l a b
  refine ⟨w1, w2, w3, w4, ?_⟩
  by_cases z : l = e0.1
  · rw [z, fset_s]
    have d : ¬ tbs (N 4 4) e0.1 := fun y => by have := hLe.2.2.2.2.2.1.mp y; omega
    exact ⟨⟨fun y => absurd rfl y.2, fun y => by omega⟩, ⟨fun y => absurd y d, fun y => by omega⟩, by omega, by omega⟩
  · rw [fset_o _ z]
    by_cases z2 : l = t
    · rw [z2, fset_s]
      have d : ¬ tbs (N 4 4) t := fun y => by have := hT.2.2.2.2.2.1.mp y; omega
      exact ⟨⟨fun _ => rfl, fun _ => ⟨Or.inr rfl, htl⟩⟩, ⟨fun y => absurd y d, fun y => by omega⟩, by omega, by omega⟩
    · rw [fset_o _ z2, ← w5]
      exact ⟨⟨fun y => y.1.elim id (fun e => absurd e z2), fun y => ⟨Or.inl y, z⟩⟩, w6, w7, w8⟩
theorem cro_88 {M1 : zM} (h : Inv M) (g : ∀ a, ¬ (88 ≤ a ∧ a ≤ 96) → M1 a = M a) : cro M M1 := ⟨fun a _ q => g a (by omega), iK_cg (Inv_iK h) (fun a p q => g a (by omega)) (fun a p q => g a (by omega)) (g 112 (by omega))⟩
theorem op_ring (h : Inv M) : opk 79 140 [(0, a1), (0, a2)] M := by
  obtain ⟨A, hA, ⟨hcP, hn, ⟨hF, hF2⟩, hk⟩, ⟨hmP, hmN, hLS⟩, hT, hR⟩ := id h
  obtain ⟨hW, hp, hd, hr0, hr1, hr4⟩ := id hn
  have hpW := pW_of hW
  have hm := hW.1
  have h3 : ∀ M1, mst M M1 → M1 123 3 = M 4 2 := fun M1 h1 => by rw [h1.1.1, pnet_42]
  have bad : ¬ ((0 ≤ a1 ∧ a1 < M 4 2) ∧ 0 ≤ a2) → zF 91 (fun r Mx => zF 140 (fun r' M2 => r = r' ∧ Inv M2) [(2, 123), (0, a1), (0, a2)] Mx) [(2, 1), (0, -2)] M := fun z => refuse2 h (cro_r h) (by omega) (fun M2 Qm b1 b2 => s140_0 (c123 (by rw [h3 M2 b1]; exact hm) ⟨fun _ => b2 M2 mfx_r b1.1 b1.2.1, fun y => ⟨fun y2 => absurd ⟨Classical.byContradiction fun w => y (by rw [h3 M2 b1, if_neg w]), by omega⟩ z, fun _ => b2 M2 mfx_r b1.1 b1.2.1⟩⟩))
  refine s79_0 (c18 rfl (fun z => ⟨fun _ => bad (fun y => z y.1), fun y => absurd rfl y⟩) (fun hl => ⟨fun y => absurd y (by decide), fun _ => ⟨fun q => ?_, fun q => bad (by omega)⟩⟩))
  have hl' : 0 ≤ a1 ∧ a1 < pnet M 4 2 := by rw [pnet_42]; exact hl
  refine c21 hm (by omega) (fun nt => ⟨fun y => absurd rfl y, fun _ => refuse2 h (cro_r h) (by omega) (fun M2 Qm b1 b2 => s140_0 (c123 (by rw [h3 M2 b1]; exact hm) ⟨fun y => by (rw [h3 M2 b1, if_pos hl] at y; exact absurd y (by decide)), fun _ => ⟨fun _ => c125 (by rw [h3 M2 b1]; exact hm) ⟨fun y => ?_, fun _ => b2 M2 mfx_r b1.1 b1.2.1⟩, fun y => by omega⟩⟩))⟩) (fun tie => ⟨fun _ => ?_, fun y => absurd y (by decide)⟩)
  · have : (0 ≤ a1 ∧ a1 < M2 123 3) ∧ M2 132 a1 = 0 := Classical.byContradiction fun z => y (if_neg z)
    exact absurd ((mN_tie b1.1 hl').mp this.2) nt
  · refine c50' rfl (Or.inl rfl) rfl hW hF (by rw [hF2]; exact hp.1) hl (fun M1 g1 g2 g3 => ?_)
    rw [hF2] at g3
    have row : ∀ a, ¬ (88 ≤ a ∧ a ≤ 91) → M1 a = M a := fun a ha => zfm_row g1 (by omega)
    have hc1 : cro M M1 := cro_88 h (fun a ha => row a (by omega))
    have b1 : mst M M1 := mst_of h (fun a ha => row a (by omega))
    obtain ⟨r1, r2, r3, r4⟩ := g3
    have run : ∀ r : Int, (∀ L : List Int, L = kls (prg (pnet M) (M 4 3) a1) → (a2 < (L.length : Int) → ∃ hh : a2.toNat < L.length, r = L[a2.toNat]) ∧ (¬ a2 < (L.length : Int) → r = -1)) → zF 140 (fun r' M2 => r = r' ∧ Inv M2) [(2, 123), (0, a1), (0, a2)] M1 := fun r hr => by
      refine s140_0 (c123 (by rw [h3 M1 b1]; exact hm) ⟨fun y => by (rw [h3 M1 b1, if_pos hl] at y; exact absurd y (by decide)), fun _ => ⟨fun _ => c125 (by rw [h3 M1 b1]; exact hm) ⟨fun y => c138' hpW b1.1 hp.1 hl' (fun M2 d1 d2 d3 => ?_), fun y => ?_⟩, fun y => by omega⟩⟩)
      · have hll : (kls (prg (pnet M) (M 4 3) a1)).length ≤ 24 := by
          have := prs_len (t := a1) hpW hp.1
          unfold prs at this
          rw [List.length_map] at this
          unfold kls
          rw [List.length_map]; exact this
        have iv : Inv M2 := fin_ro h hc1 (mfx_f (mfr_4 d1)) (mN_fr b1.1 (mfr_4 d1)) (zLS_cg b1.2.1 (fun a p q => zr4_row d1 (by omega) (by omega)) (zr4_3 d1))
        rw [d2]
        obtain ⟨w1, w2⟩ := hr _ rfl
        refine ⟨fun z => ⟨w2 z, iv⟩, fun z => ⟨by omega, ?_, iv⟩⟩
        obtain ⟨hh, e⟩ := w1 z
        have := kro_at d3 a2.toNat hh
        rw [show (0 : Int) + (a2.toNat : Int) = a2 by omega] at this
        rw [e, this]
      · rw [if_pos ⟨by rw [h3 M1 b1]; exact hl, (mN_tie b1.1 hl').mpr tie⟩] at y; exact absurd y (by decide)
    rw [prs_fst] at r3
    have elen : (prs (pnet M) (M 4 3) a1).length = (kls (prg (pnet M) (M 4 3) a1)).length := by rw [← prs_fst, List.length_map]
    rw [elen] at r1 r2
    rw [r1]
    refine ⟨fun z => run _ (fun L e => by subst e; exact ⟨fun y => absurd y z, fun _ => rfl⟩), fun z => ⟨by omega, run _ (fun L e => by
      subst e
      refine ⟨fun _ => ⟨by omega, ?_⟩, fun y => absurd z y⟩
      have := kro_at r3 a2.toNat (by omega)
      rw [show (0 : Int) + (a2.toNat : Int) = a2 by omega] at this
      exact this)⟩⟩
/-- where a line stands on the ring -/
theorem c94 {Q : Int → zM → Prop} {t l : Int} (hn : nst M) (hF : zFO M 12) (hF2 : M 12 0 = M 4 3) (ht : 0 ≤ t ∧ t < M 4 2)
    (h0 : ¬ (ptie (pnet M) (M 4 3) t ∧ l ∈ kls (prg (pnet M) (M 4 3) t)) → ∀ M1, zfm 88 91 M M1 → Q (-1) M1)
    (h1 : ptie (pnet M) (M 4 3) t → ∀ (i : Nat) (hi : i < (prs (pnet M) (M 4 3) t).length), (prs (pnet M) (M 4 3) t)[i].1 = l → ∀ M1, zfm 88 91 M M1 → M1 88 4 = t → zrh M1 88 (prs (pnet M) (M 4 3) t) → Q (i : Int) M1) : zF 94 Q [(2, 1), (0, t), (0, l)] M := by
  obtain ⟨hW, hp, _⟩ := hn
  have hm := hW.1
  refine s94_0 (c21 hm (by omega) (fun nt => ⟨fun y => absurd rfl y, fun _ => h0 (fun z => nt z.1) M zfm_r⟩) (fun tie => ⟨fun _ => ?_, fun y => absurd y (by decide)⟩))
  refine c50' rfl (Or.inl rfl) rfl hW hF (by rw [hF2]; exact hp.1) ht (fun M1 g1 g2 g3 => ?_)
  rw [hF2] at g3
  have g1' : zfm 88 91 M M1 := g1
  refine c51 rfl g3 (fun z => h0 (fun y => z (by rw [prs_fst]; exact y.2)) M1 g1') (fun i hi e => h1 tie i hi e M1 g1' g2 g3)
/-- the reference's gain and exchanges, as far as the ring -/
theorem ring2 {Qm : Int → zM → Prop} {R : zM → Prop} {M1 : zM} {t l : Int} (hn : nst M) (b1 : mN (pnet M) (M 4 3) M1) (hL : zLS M1) (ht : 0 ≤ t ∧ t < M 4 2) (hno : ¬ (ptie (pnet M) (M 4 3) t ∧ l ∈ kls (prg (pnet M) (M 4 3) t)) → ∀ M3, mfx M1 M3 → mN (pnet M) (M 4 3) M3 → zLS M3 → zF 99 Qm [(2, 123), (0, -3)] M3)
    (hok : ptie (pnet M) (M 4 3) t → l ∈ kls (prg (pnet M) (M 4 3) t) → ∀ M3, mfx M1 M3 → mN (pnet M) (M 4 3) M3 → zLS M3 → R M3) : zF 125 (fun x12 M13 => ((x12 = 0 → zF 99 (fun x16 M17 => Qm x16 M17) [(2, 123), (0, (-3))] M13) ∧ (¬ x12 = 0 → zF 138 (fun _ M20 => zF 139 (fun x22 M23 => ((¬ x22 = 0 → R M23) ∧ (x22 = 0 → zF 99 (fun x35 M36 => Qm x35 M36) [(2, 123), (0, (-3))] M23))) [(2, 123), (0, l)] M20) [(2, 123), (0, t)] M13))) [(2, 123), (0, t)] M1 := by
  obtain ⟨hW, hp, _⟩ := hn
  have hpW := pW_of hW
  have hm := hW.1
  have h3 : M1 123 3 = M 4 2 := by rw [b1.1, pnet_42]
  have ht' : 0 ≤ t ∧ t < pnet M 4 2 := by rw [pnet_42]; exact ht
  refine c125 (by rw [h3]; exact hm) ⟨fun y => hno (fun z => ?_) M1 mfx_r b1 hL, fun y => c138' hpW b1 hp.1 ht' (fun M2 d1 d2 d3 => ?_)⟩
  · rw [if_pos ⟨by rw [h3]; exact ht, (mN_tie b1 ht').mpr z.1⟩] at y; cases y
  · have tie : ptie (pnet M) (M 4 3) t := by
      have : (0 ≤ t ∧ t < M1 123 3) ∧ M1 132 t = 0 := Classical.byContradiction fun z => y (if_neg z)
      exact (mN_tie b1 ht').mp this.2
    have hll : (kls (prg (pnet M) (M 4 3) t)).length ≤ 24 := by
      have := prs_len (t := t) hpW hp.1
      unfold prs at this
      rw [List.length_map] at this
      unfold kls
      rw [List.length_map]; exact this
    have fx : mfx M1 M2 := mfx_f (mfr_4 d1)
    have mN2 := mN_fr b1 (mfr_4 d1)
    have L2 : zLS M2 := zLS_cg hL (fun a p q => zr4_row d1 (by omega) (by omega)) (zr4_3 d1)
    exact c139 d2 d3 hll (fun z => ⟨fun x => absurd rfl x, fun _ => hno (fun x => z x.2) M2 fx mN2 L2⟩) (fun z => ⟨fun _ => hok tie z M2 fx mN2 L2, fun x => absurd x (by decide)⟩)
theorem prs_e {N : zM} {S t : Int} {e : Int × Int} (h : e ∈ prs N S t) : ∃ e0, e0 ∈ prg N S t ∧ e0.1 = e.1 ∧ ksg (N 6) (pG N S) e0 = e.2 := by
  obtain ⟨x, x1, x2⟩ := List.mem_map.mp h
  exact ⟨x, x1, by rw [← x2], by rw [← x2]⟩
theorem op_gain (h : Inv M) : opk 80 142 [(0, a1), (0, a2)] M := by
  obtain ⟨A, hA, ⟨hcP, hn, ⟨hF, hF2⟩, hk⟩, ⟨hmP, hmN, hLS⟩, hT, hR⟩ := id h
  obtain ⟨hW, hp, hd, hr0, hr1, hr4⟩ := id hn
  have hpW := pW_of hW
  have hm := hW.1
  have hX := zFO_X hF
  rw [hF2] at hX
  have h3 : ∀ M1, mst M M1 → M1 123 3 = M 4 2 := fun M1 h1 => by rw [h1.1.1, pnet_42]
  have bad : ¬ ((0 ≤ a1 ∧ a1 < M 4 2) ∧ 0 ≤ a2 ∧ a2 < M 4 2) → zF 91 (fun r Mx => zF 142 (fun r' M2 => r = r' ∧ Inv M2) [(2, 123), (0, a1), (0, a2)] Mx) [(2, 1), (0, -2)] M := fun z => refuse2 h (cro_r h) (by omega) (fun M2 Qm b1 b2 => s142_0 (c123 (by rw [h3 M2 b1]; exact hm) ⟨fun _ => b2 M2 mfx_r b1.1 b1.2.1, fun y => c123 (by rw [h3 M2 b1]; exact hm) ⟨fun y2 => absurd ⟨Classical.byContradiction fun w => y (by rw [h3 M2 b1, if_neg w]), Classical.byContradiction fun w => y2 (by rw [h3 M2 b1, if_neg w])⟩ z, fun _ => b2 M2 mfx_r b1.1 b1.2.1⟩⟩))
  refine s80_0 (c18 rfl (fun z => ⟨fun _ => bad (fun y => z y.1), fun y => absurd rfl y⟩) (fun hl => ⟨fun y => absurd y (by decide), fun _ => c18 rfl (fun z => ⟨fun y => absurd rfl y, fun _ => bad (fun y => z y.2)⟩) (fun hl2 => ⟨fun _ => ?_, fun y => absurd y (by decide)⟩)⟩))
  have enter : ∀ (M1 : zM) (Qm : Int → zM → Prop), mst M M1 → zF 125 (fun x12 M13 => ((x12 = 0 → zF 99 (fun x16 M17 => Qm x16 M17) [(2, 123), (0, (-3))] M13) ∧ (¬ x12 = 0 → zF 138 (fun _ M20 => zF 139 (fun x22 M23 => ((¬ x22 = 0 → zF 120 (fun x26 M27 => zF 141 (fun _ M30 => zF 118 (fun _ M33 => Qm (zW (x26 - (M33 123 54))) M33) [(2, 123)] M30) [(2, 123), (0, a1), (0, a2)] M27) [(2, 123)] M23) ∧ (x22 = 0 → zF 99 (fun x35 M36 => Qm x35 M36) [(2, 123), (0, (-3))] M23))) [(2, 123), (0, a2)] M20) [(2, 123), (0, a1)] M13))) [(2, 123), (0, a1)] M1 → zF 142 Qm [(2, 123), (0, a1), (0, a2)] M1 := fun M1 Qm b1 z => s142_0 (c123 (by rw [h3 M1 b1]; exact hm) ⟨fun y => by (rw [h3 M1 b1, if_pos hl] at y; exact absurd y (by decide)), fun _ => c123 (by rw [h3 M1 b1]; exact hm) ⟨fun _ => z, fun y => by (rw [h3 M1 b1, if_pos hl2] at y; exact absurd y (by decide))⟩⟩)
  refine c94 hn hF hF2 hl (fun z M1 g1 => ⟨fun y => absurd rfl y, fun _ => ?_⟩) (fun tie i hi e M1 g1 g2 g3 => ⟨fun _ => ?_, fun y => by omega⟩)
  · have hc1 : cro M M1 := cro_88 h (fun a ha => zfm_row g1 (by omega))
    exact refuse2 h hc1 (by omega) (fun M2 Qm b1 b2 => enter M2 Qm b1 (ring2 hn b1.1 b1.2.1 hl (fun _ M3 e1 e2 e3 => b2 M3 e1 e2 e3) (fun x1 x2 => absurd ⟨x1, x2⟩ z)))
  · have row : ∀ a, ¬ (88 ≤ a ∧ a ≤ 91) → M1 a = M a := fun a ha => zfm_row g1 (by omega)
    have r4 : ∀ a, 4 ≤ a → a ≤ 11 → M1 a = M a := fun a p q => row a (by omega)
    have hp1 : pnet M1 = pnet M := pnet_cg r4
    have e4 : M1 4 = M 4 := r4 4 (by omega) (by omega)
    have hc1 : cro M M1 := cro_88 h (fun a ha => row a (by omega))
    have b1 : mst M M1 := mst_of h (fun a ha => row a (by omega))
    have hmem := List.getElem_mem hi
    refine c52 rfl (zWC_cg hW r4) (by rw [e4]; exact hl) g2 g3 (fun e he => ?_) hi ?_
    · have := prs_b hpW hp.1 hX he
      rw [pnet_42] at this
      rw [e4]; exact this
    · rw [hp1]
      obtain ⟨e0, x1, x2, x3⟩ := prs_e hmem
      have hmk : a2 ∈ kls (prg (pnet M) (M 4 3) a1) := List.mem_map.mpr ⟨e0, x1, by rw [x2]; exact e⟩
      refine enter M1 _ b1 (ring2 hn b1.1 b1.2.1 hl (fun y => absurd ⟨tie, hmk⟩ y) (fun _ _ M3 d1 d2 d3 => c120 hpW d2 hp.1 d3 ?_))
      have ea : a2 = e0.1 := by rw [x2]; exact e.symm
      have hd0 : M3 132 a1 = 0 := (mN_tie d2 tie.1).mpr tie
      rw [ea]
      refine c141 hpW d2 hp.1 tie.1 hd0 x1 (fun M4 k1 k2 k3 k4 => ?_)
      obtain ⟨fl2, ne2, hX2⟩ := k4
      have gn := px_gain hpW hp.1 tie.1 tie.2.1 x1 hX hX2
      have hb1 := pls_b hpW hX
      have hb2 := pls_b hpW hX2
      have mN4 : mN (pnet M) (M 4 3) M4 := mN_fr d2 (mtr_fr k1)
      refine c118' hpW mN4 (fun M5 w1 w2 w3 => ⟨?_, fin_ro h hc1 (mfx_t d1 (mfx_t (mfx_f (mtr_fr k1)) (mfx_f (mfr_7 w1)))) w2 w3⟩)
      rw [w1 123 54 (by omega) (by omega), k2, zW_id (by omega), ← x3, gn]
theorem op_best (h : Inv M) : opk 82 145 [(0, a1)] M := by
  obtain ⟨A, hA, ⟨hcP, hn, ⟨hF, hF2⟩, hk⟩, ⟨hmP, hmN, hLS⟩, hT, hR⟩ := id h
  obtain ⟨hW, hp, hd, hr0, hr1, hr4⟩ := id hn
  have hpW := pW_of hW
  have bad : ¬ (0 ≤ a1 ∧ a1 ≤ 1) → zF 91 (fun r Mx => zF 145 (fun r' M2 => r = r' ∧ Inv M2) [(2, 123), (0, a1)] Mx) [(2, 1), (0, -2)] M := fun z => refuse2 h (cro_r h) (by omega) (fun M2 Qm b1 b2 => s145_0 (c98 ⟨fun y => absurd (if_neg z) y, fun _ => b2 M2 mfx_r b1.1 b1.2.1⟩))
  refine s82_0 ⟨fun q => bad (by omega), fun q => ⟨fun q2 => ?_, fun q2 => bad (by omega)⟩⟩
  refine c64 hW hF (by rw [hF2]; exact hp.1) (fun M1 g1 g2 g3 => ?_)
  rw [hF2] at g3
  have row : ∀ a, ¬ (92 ≤ a ∧ a ≤ 96) → M1 a = M a := fun a ha => zfm_row g1 ha
  have hc1 : cro M M1 := cro_88 h (fun a ha => row a (by omega))
  have b1 : mst M M1 := mst_of h (fun a ha => row a (by omega))
  have run : ∀ r : Int, r = (if a1 = 0 then M1 92 1 else M1 92 2) → zF 145 (fun r' M2 => r = r' ∧ Inv M2) [(2, 123), (0, a1)] M1 := fun r hr => by
    refine s145_0 (c98 ⟨fun _ => c143 hpW b1.1 hp.1 b1.2.1 (fun M2 d1 d2 d3 d4 d5 => ?_), fun y => by (rw [if_pos ⟨by omega, by omega⟩] at y; exact absurd y (by decide))⟩)
    obtain ⟨u1, u2, u3⟩ := kB_u g3 d5 (fun t l g z => pA_in z)
    have iv := fin_ro h hc1 (mfx_f d1) d2 d3
    refine ⟨fun y => ⟨by rw [hr, if_neg y]; exact u2, iv⟩, fun y => ⟨by rw [hr, if_pos y]; exact u1, iv⟩⟩
  exact ⟨fun y => run _ (by rw [if_neg y]), fun y => run _ (by rw [if_pos y])⟩
end OP7
