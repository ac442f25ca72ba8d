/-! the class: work, its loops -/
section WK3
variable {Q : Int → zM → Prop} {M : zM} {f : Int}
theorem tbs_and {x y v : Int} : tbs (zand x y) v ↔ tbs x v ∧ tbs y v := by
  unfold tbs
  rw [tb_and, Bool.and_eq_true]
  constructor
  · rintro ⟨a, b, c⟩; exact ⟨⟨a, b⟩, a, c⟩
  · rintro ⟨⟨a, b⟩, _, c⟩; exact ⟨a, b, c⟩
theorem tbs_or {x y v : Int} : tbs (zor x y) v ↔ tbs x v ∨ tbs y v := by
  unfold tbs
  rw [tb_or, Bool.or_eq_true]
  constructor
  · rintro ⟨a, b | b⟩
    · exact Or.inl ⟨a, b⟩
    · exact Or.inr ⟨a, b⟩
  · rintro (⟨a, b⟩ | ⟨a, b⟩)
    · exact ⟨a, Or.inl b⟩
    · exact ⟨a, Or.inr b⟩
theorem tbs_not {x v : Int} (hv : 0 ≤ v ∧ v < 32) : tbs (zxor x (-1)) v ↔ ¬ tbs x v := by
  unfold tbs
  rw [tb_xor, tb_m1 hv.1 hv.2]
  cases tb x v <;> simp [hv]
theorem tbs_1 {k v : Int} (hk : 0 ≤ k ∧ k < 32) : tbs (zshl 1 k) v ↔ v = k := by
  unfold tbs
  constructor
  · rintro ⟨a, b⟩
    rw [tb_shl hk.1 hk.2 a.1 a.2, decide_eq_true_eq] at b
    exact b
  · intro e
    subst e
    exact ⟨hk, by rw [tb_shl hk.1 hk.2 hk.1 hk.2]; simp⟩
theorem zand_1 {x k : Int} (hk : 0 ≤ k ∧ k < 32) : zand x (zshl 1 k) = 0 ↔ ¬ tbs x k := by
  constructor
  · intro h q
    have : tbs (zand x (zshl 1 k)) k := tbs_and.mpr ⟨q, (tbs_1 hk).mpr rfl⟩
    rw [h] at this
    unfold tbs at this
    rw [tb_0] at this
    exact absurd this.2 (by decide)
  · intro h
    refine tb_ext (zand_r _ _) (by omega) (fun i a b => ?_)
    rw [tb_0]
    refine Bool.eq_false_iff.mpr (fun q => h ?_)
    have t : tbs (zand x (zshl 1 k)) i := ⟨⟨a, b⟩, q⟩
    obtain ⟨t1, t2⟩ := tbs_and.mp t
    rw [(tbs_1 hk).mp t2] at t1
    exact t1
/-- the dark, tree by tree -/
theorem c1_b (kf : zKT f = (2, 0)) (hW : zWC M) {sh : Int} (hsh : ∀ l, tbs sh l → l < M 4 2) {lc : Int} (hQ : ∀ M', zFf f M M' → M' f 0 = sh → zFO M' f → Q 0 M') : ∀ (n : Nat) (M' : zM) (v b : Int), v + n = 16 → 0 ≤ v → zFf f M M' → M' f 0 = sh → zWF M' f b (M' f 13) (fun _ => False) → (0 ≤ lc ∧ lc ≤ M' f 13) → (∀ x, x < v → tbs (M 4 0) x → tbs (M' f 14) x) → (∀ x, tbs (M' f 14) x → tbs (M 4 0) x) → (∀ x, tbs (M 4 1) x → tbs (M' f 14) x ∧ M' (f + 1) x = x ∧ M' (f + 2) x = -1 ∧ M' (f + 3) x = 0)
    → (∀ i, 0 ≤ i → i < M' f 13 → (i < lc ↔ tbs (M' f 2) (M' (f + 7) i)) ∧ (tbs (M' f 2) (M' (f + 7) i) ↔ tbs (M 4 1) (M' (f + 1) (M' (f + 7) i)))) → (∀ x, tbs (M' f 2) x → tbs (M' f 14) x) → zS 1 Q 72 [(2, f), (2, 4), (0, sh), (0, lc), (0, v)] [] M' := by
  have hf := zin_0 kf
  have hm := hW.1
  intro n
  induction n with
  | zero =>
    intro M' v b hn hv hF h0 hB hlc hsv hst hfd hlt hls
    refine s1_72 kf ⟨fun _ => ?_, fun q => absurd q (by omega)⟩
    exact c1_d kf hW hsh hF h0 hB hlc (fun x => ⟨fun q => hsv x (by have := hW.2.1 x q; omega) q, hst x⟩) (fun x q => (hfd x q).2) hlt hls hQ
  | succ n ih =>
    intro M' v b hn hv hF h0 hB hlc hsv hst hfd hlt hls
    obtain ⟨e4, e5, e6, e7, e8, e9, e10, e11⟩ := zWC_Ff hf hF
    have hW' : zWC M' := by
      unfold zWC zTL at hW ⊢
      rw [e4, e5, e6, e7, e8, e9, e10, e11]; exact hW
    refine s1_72 kf ⟨fun q => absurd q (by omega), fun _ => ?_⟩
    rw [zand_1 ⟨hv, by omega⟩, tbs_and, tbs_not ⟨hv, by omega⟩, zw_id (x := v + 1) (by omega)]
    refine ⟨fun q => ?_, fun q => ?_⟩
    · refine ih M' (v + 1) b (by omega) (by omega) hF h0 hB hlc (fun x hx hx2 => ?_) hst hfd hlt hls
      by_cases z : x = v
      · subst z
        exact Classical.byContradiction fun w => q ⟨by rw [e4]; exact hx2, w⟩
      · exact hsv x (by omega) hx2
    · obtain ⟨q1, q2⟩ := Classical.byContradiction q
      have hv16 : 0 ≤ v ∧ v < 16 := by omega
      have hr := zWK_root (sn' := tbs (zor (M' f 14) (zshl 1 v))) hB hv16 q2 (fun l a b => by have := (hW'.2.2.2.2.1 l a b).1; exact ⟨this.1, this.2.1⟩) (fun x => tbs_or1 ⟨hv, by omega⟩) (fun _ z => z)
      obtain ⟨hlt16, hr⟩ := hr
      have hq0 := hB.1
      refine c9 kf ⟨by omega, hlt16⟩ hv16 ?_
      generalize hN : zenq M' f v v (-1) 0 = N
      have hg : zgr f M' N := by rw [← hN]; exact zgr_e hv16 q2
      have hN13 : N f 13 = M' f 13 + 1 := by rw [← hN, zenq_0, fset_o _ (by decide), fset_s]
      have hN14 : N f 14 = zor (M' f 14) (zshl 1 v) := by rw [← hN, zenq_0, fset_s]
      have hNB : zWF N f (M' f 13) (M' f 13) (fun _ => False) := by
        rw [← hN]
        unfold zWF
        rw [zenq_1, zenq_2, zenq_3, zenq_7, zenq_0, zFf_row (zenq_f v _ _ _) (by omega : ¬ (f ≤ 4 ∧ 4 ≤ f + 7)), zFf_row (zenq_f v _ _ _) (by omega : ¬ (f ≤ 6 ∧ 6 ≤ f + 7)), zFf_row (zenq_f v _ _ _) (by omega : ¬ (f ≤ 7 ∧ 7 ≤ f + 7))]
        rw [fset_s, fset_o _ (show (13 : Int) ≠ 14 by decide), fset_s, fset_o _ (show (0 : Int) ≠ 14 by decide), fset_o _ (show (0 : Int) ≠ 13 by decide), fset_o _ (show (1 : Int) ≠ 14 by decide), fset_o _ (show (1 : Int) ≠ 13 by decide)]
        exact hr
      have hNv : N (f + 7) (M' f 13) = v ∧ N (f + 1) v = v ∧ tbs (N f 14) v := by
        rw [hN14, ← hN, zenq_7, zenq_1, fset_s, fset_s]
        exact ⟨rfl, rfl, (tbs_or1 ⟨hv, by omega⟩).mpr (Or.inr rfl)⟩
      obtain ⟨n4, n5, n6, n7, n8, n9, n10, n11⟩ := zWC_Ff hf (zFf_t hF hg.1)
      rw [hN13, zw_id (by omega), show M' f 13 + 1 - 1 = M' f 13 by omega]
      refine c7 kf (by unfold zWC zTL at hW ⊢; rw [n4, n5, n6, n7, n8, n9, n10, n11]; exact hW) hNB (fun M2 hg2 hB2 => ?_)
      have hgg := zgr_t hg hg2
      obtain ⟨w4, w5, w6, w7, w8, w9, w10, w11⟩ := zWC_Ff hf (zFf_t hF hgg.1)
      obtain ⟨x1, x2, x3, x4, x5, x6, x7⟩ := id hgg
      obtain ⟨y1, y2, y3, y4, y5, y6, y7⟩ := id hg2
      obtain ⟨⟨a0, a1, a2, a3⟩, k2, k3, k4, k5, k6, k7, k8, k9⟩ := id hB2
      have v2 : M2 (f + 7) (M' f 13) = v := (y5 _ (by omega) (by omega)).trans hNv.1
      have rv2 : M2 (f + 1) v = v := ((y6 v hNv.2.2).2 hv (by omega)).1.trans hNv.2.1
      have nfv : ¬ tbs (M 4 1) v := fun z => q2 (hfd v z).1
      have newrt : ∀ i, M' f 13 ≤ i → i < M2 f 13 → M2 (f + 1) (M2 (f + 7) i) = v := fun i i0 i1 => by
        have := k9 i (M' f 13) i0 i1 (by omega) (by omega)
        rw [v2] at this
        rcases this with z | z
        · rw [z, rv2]
        · rw [rv2, w4] at z; exact absurd z.2 nfv
      have sO : ∀ i, 0 ≤ i → i < M' f 13 → M2 (f + 7) i = M' (f + 7) i ∧ M2 (f + 1) (M2 (f + 7) i) = M' (f + 1) (M' (f + 7) i) := fun i i0 i1 => by
        have e := x5 i i0 i1
        obtain ⟨-, s, -, -⟩ := id hB
        have := hB.2.1 i i0 i1
        rw [e]
        exact ⟨rfl, ((x6 _ this.2.1).2 this.1.1 this.1.2).1⟩
      have thnew : ∀ i, 0 ≤ i → i < M2 f 13 → tbs (M 4 0) (M2 (f + 7) i) := fun i i0 i1 => by
        rcases Int.lt_or_le i (M' f 13) with z | z
        · rw [(sO i i0 z).1]
          exact hst _ (hB.2.1 i i0 z).2.1
        · rcases k5 i i0 i1 with g | ⟨g1, j, g2, g3, g4, g5, g6⟩
          · rw [newrt i z i1] at g
            rw [← g.2.2, ← e4]; exact q1
          · have := (hW.2.2.2.2.1 _ g1.1 (by have := g1.2.1; rw [w4] at this; exact this)).1
            rw [w6, w7] at g5
            rcases g5 with ⟨p1, p2⟩ | ⟨p1, p2⟩
            · rw [← p2]; exact this.2.2.2.2
            · rw [← p1]; exact this.2.2.2.1
      have ix : ∀ x, tbs (M2 f 14) x → 0 ≤ x → x < 16 → ∃ i, 0 ≤ i ∧ i < M2 f 13 ∧ M2 (f + 7) i = x := fun x q a b => k4 x a b q
      refine ih M2 (v + 1) (M' f 13) (by omega) (by omega) (zFf_t hF hgg.1) (x3.trans h0) hB2 ⟨hlc.1, by omega⟩ (fun x hx hx2 => ?_) (fun x q => ?_) (fun x q => ?_) (fun i i0 i1 => ?_) (fun x q => ?_)
      · by_cases z : x = v
        · subst z; exact (y6 x hNv.2.2).1
        · exact (x6 x (hsv x (by omega) hx2)).1
      · rcases Int.lt_or_le x 16 with z | z
        · obtain ⟨i, i0, i1, i2⟩ := ix x q q.1.1 z
          rw [← i2]; exact thnew i i0 i1
        · exfalso
          rcases x7 x q with w | w
          · have := hW.2.1 x (hst x w); omega
          · omega
      · have h1 := hfd x q
        have h2 := x6 x h1.1
        have h3 := h2.2 q.1.1 (hW.2.1 x (hW.2.2.1 x q))
        exact ⟨h2.1, by rw [h3.1]; exact h1.2.1, by rw [h3.2.1]; exact h1.2.2.1, by rw [h3.2.2]; exact h1.2.2.2⟩
      · rcases Int.lt_or_le i (M' f 13) with z | z
        · rw [x4, (sO i i0 z).2, (sO i i0 z).1]
          exact hlt i i0 z
        · rw [newrt i z i1, x4]
          have nl : ¬ tbs (M' f 2) (M2 (f + 7) i) := fun w => by
            have r := (k2 i i0 i1).1
            obtain ⟨j, j0, j1, j2⟩ := hB.2.2.2.1 _ r.1 r.2 (hls _ w)
            have := k3 i j i0 i1 j0 (by omega) (by rw [(sO j j0 j1).1, j2])
            omega
          exact ⟨⟨fun w => by omega, fun w => absurd w nl⟩, fun w => absurd w nl, fun w => absurd w nfv⟩
      · rw [x4] at q
        exact (x6 x (hls x q)).1
/-- work -/
theorem c1 (kf : zKT f = (2, 0)) (hW : zWC M) {sh : Int} (hsh : ∀ l, tbs sh l → l < M 4 2) (hQ : ∀ M', zFf f M M' → M' f 0 = sh → zFO M' f → Q 0 M') : zF 1 Q [(2, f), (2, 4), (0, sh)] M := by
  have hf := zin_0 kf
  have hm := hW.1
  have key : ∀ (n : Nat) (M' : zM) (v : Int), v + n = 16 → 0 ≤ v → zFf f M M' → M' f 0 = sh → M' f 1 = 1 → zWF M' f 0 0 (fun _ => False) → (∀ i, 0 ≤ i → i < M' f 13 → tbs (M 4 1) (M' (f + 7) i)) → (∀ x, tbs (M' f 14) x ↔ x < v ∧ tbs (M 4 1) x) → zS 1 Q 22 [(2, f), (2, 4), (0, sh), (0, v), (3, 0)] [] M' := by
    intro n
    induction n with
    | zero =>
      intro M' v hn hv hF h0 h1 hB hqf hsn
      obtain ⟨e4, e5, e6, e7, e8, e9, e10, e11⟩ := zWC_Ff hf hF
      have hW' : zWC M' := by
        unfold zWC zTL at hW ⊢
        rw [e4, e5, e6, e7, e8, e9, e10, e11]; exact hW
      have hfsn : ∀ x, tbs (M 4 1) x → tbs (M' f 14) x := fun x q => (hsn x).mpr ⟨by have := hW.2.1 x (hW.2.2.1 x q); omega, q⟩
      have root : ∀ i, 0 ≤ i → i < M' f 13 → M' (f + 2) (M' (f + 7) i) = -1 ∧ M' (f + 3) (M' (f + 7) i) = 0 ∧ M' (f + 1) (M' (f + 7) i) = M' (f + 7) i := fun i a b => by
        rcases hB.2.2.2.2.1 i a b with g | ⟨g1, j, g2, g3, g4, g5⟩
        · exact g
        · rcases g4 with g4 | g4
          · omega
          · exact g4.2.elim
      have hfr : ∀ x, tbs (M 4 1) x → M' (f + 1) x = x ∧ M' (f + 2) x = -1 ∧ M' (f + 3) x = 0 := fun x q => by
        obtain ⟨i, i0, i1, i2⟩ := hB.2.2.2.1 x q.1.1 (hW.2.1 x (hW.2.2.1 x q)) (hfsn x q)
        have := root i i0 i1
        rw [i2] at this
        exact ⟨this.2.2, this.1, this.2.1⟩
      refine s1_22 kf ⟨fun _ => ?_, fun q => absurd q (by omega)⟩
      -- behind growFrom
      have go : ∀ M2, zgr f M' M2 → zWF M2 f 0 (M2 f 13) (fun _ => False) → (∀ i, 0 ≤ i → i < M2 f 13 → tbs (M 4 1) (M2 (f + 1) (M2 (f + 7) i))) → zS 1 Q 72 [(2, f), (2, 4), (0, sh), (0, M2 f 13), (0, 0)] [] (zset M2 f 2 (M2 f 14)) := by
        intro M2 hg hB2 hall
        obtain ⟨x1, x2, x3, x4, x5, x6, x7⟩ := id hg
        obtain ⟨w4, w5, w6, w7, w8, w9, w10, w11⟩ := zWC_Ff hf (zFf_t hF x1)
        obtain ⟨⟨a0, a1, a2, a3⟩, k2, k3, k4, k5, k6, k7, k8, k9⟩ := id hB2
        generalize hN : zset M2 f 2 (M2 f 14) = N
        have nO : ∀ a, a ≠ f → N a = M2 a := fun a h => by rw [← hN, zrow_o _ h]
        have nf : ∀ j, j ≠ 2 → N f j = M2 f j := fun j h => by rw [← hN, zrow_s, fset_o _ h]
        have n2 : N f 2 = M2 f 14 := by rw [← hN, zrow_s, fset_s]
        have hst : ∀ x, tbs (M2 f 14) x → tbs (M 4 0) x := fun x q => by
          rcases Int.lt_or_le x 16 with z | z
          · obtain ⟨i, i0, i1, i2⟩ := k4 x q.1.1 z q
            rcases k5 i i0 i1 with g | ⟨g1, j, g2, g3, g4, g5, g6⟩
            · have := hall i i0 i1
              rw [g.2.2, i2] at this
              exact hW.2.2.1 x this
            · have := (hW.2.2.2.2.1 _ g1.1 (by have := g1.2.1; rw [w4] at this; exact this)).1
              rw [w6, w7, i2] at g5
              rw [i2] at this
              rcases g5 with ⟨p1, p2⟩ | ⟨p1, p2⟩
              · rw [← p2]; exact this.2.2.2.2
              · rw [← p1]; exact this.2.2.2.1
          · rcases x7 x q with w | w
            · exact hW.2.2.1 x ((hsn x).mp w).2
            · omega
        have hB3 : zWF N f 0 (N f 13) (fun _ => False) := by
          unfold zWF
          rw [nO 4 (by omega), nO 6 (by omega), nO 7 (by omega), nO (f + 1) (by omega), nO (f + 2) (by omega), nO (f + 3) (by omega), nO (f + 7) (by omega), nf 0 (by decide), nf 1 (by decide), nf 13 (by decide), nf 14 (by decide)]
          exact hB2
        have hF3 : zFf f M N := fun a i p => by rw [nO a (by omega)]; exact zFf_t hF x1 a i p
        refine c1_b kf hW hsh hQ 16 N 0 0 (by omega) (by omega) hF3 (by rw [nf 0 (by decide)]; exact x3.trans h0) hB3 ⟨by omega, by rw [nf 13 (by decide)]; omega⟩ (fun x hx hx2 => by have := hx2.1.1; omega) (fun x q => by rw [nf 14 (by decide)] at q; exact hst x q) (fun x q => ?_) (fun i i0 i1 => ?_) (fun x q => ?_)
        · have g1 := hfsn x q
          have g2 := x6 x g1
          have g3 := g2.2 q.1.1 (hW.2.1 x (hW.2.2.1 x q))
          have g4 := hfr x q
          rw [nf 14 (by decide), nO (f + 1) (by omega), nO (f + 2) (by omega), nO (f + 3) (by omega), g3.1, g3.2.1, g3.2.2]
          exact ⟨g2.1, g4⟩
        · rw [nf 13 (by decide)] at i1
          rw [n2, nO (f + 7) (by omega), nO (f + 1) (by omega)]
          have s := (k2 i i0 i1).2.1
          have fa := hall i i0 i1
          exact ⟨⟨fun _ => s, fun _ => i1⟩, fun _ => fa, fun _ => s⟩
        · rw [n2] at q
          rw [nf 14 (by decide)]; exact q
      by_cases z : M' f 13 = 0
      · refine s7_0 kf (s7_2 kf ⟨fun _ => go M' zgr_r (by rw [z]; exact hB) (fun i a b => by omega), fun q => absurd q (by omega)⟩)
      · have h13 := hB.1
        refine c7 kf hW' hB (fun M2 hg hB2 => go M2 hg hB2 (fun i i0 i1 => ?_))
        have k9 := hB2.2.2.2.2.2.2.2.2
        have hg' := hg
        obtain ⟨x1, x2, x3, x4, x5, x6, x7⟩ := hg'
        have q0 := x5 0 (by omega) (by omega)
        have r0 := root 0 (by omega) (by omega)
        have s0 := (hB.2.1 0 (by omega) (by omega))
        have t0 := ((x6 _ s0.2.1).2 s0.1.1 s0.1.2).1
        have f0 := hqf 0 (by omega) (by omega)
        have := k9 i 0 (by omega) i1 (by omega) (by omega)
        obtain ⟨w4, w5, w6, w7, w8, w9, w10, w11⟩ := zWC_Ff hf (zFf_t hF x1)
        rw [q0, w4] at this
        unfold zsame at this
        rw [t0, r0.2.2] at this
        rcases this with w | w
        · rw [w]; exact f0
        · exact w.1
    | succ n ih =>
      intro M' v hn hv hF h0 h1 hB hqf hsn
      obtain ⟨e4, e5, e6, e7, e8, e9, e10, e11⟩ := zWC_Ff hf hF
      have hv16 : 0 ≤ v ∧ v < 16 := by omega
      refine s1_22 kf ⟨fun q => absurd q (by omega), fun _ => c19 (by decide) (by omega) (fun q => ⟨fun _ => ?_, fun z => absurd rfl z⟩) (fun q => ⟨fun z => absurd z (by decide), fun _ => ?_⟩)⟩
      · rw [zw_id (by omega)]
        refine ih M' (v + 1) (by omega) (by omega) hF h0 h1 hB hqf (fun x => (hsn x).trans ⟨fun z => ⟨by omega, z.2⟩, fun z => ⟨?_, z.2⟩⟩)
        have : x ≠ v := fun e => q (by rw [e4, ← e]; exact z.2)
        omega
      · rw [e4] at q
        have q2 : ¬ tbs (M' f 14) v := fun z => by have := ((hsn v).mp z).1; omega
        have hB' : zWK (tbs (M' 4 1)) (M' 6) (M' 7) (M' 4 2) (tbs (M' f 0)) (tbs (M' f 14)) (M' (f + 1)) (M' (f + 2)) (M' (f + 3)) (M' (f + 7)) (M' f 13) 0 0 (fun _ => False) 1 := by
          have hB2 := hB
          unfold zWF at hB2
          rw [h1] at hB2
          exact hB2
        obtain ⟨hlt16, hr⟩ := zWK_feed (sn' := tbs (zor (M' f 14) (zshl 1 v))) hB' (by rw [e4]; exact hqf) hv16 (by rw [e4]; exact q) q2 (fun x => tbs_or1 ⟨hv, by omega⟩)
        have hq0 := hB.1
        refine c9 kf ⟨by omega, hlt16⟩ hv16 ?_
        generalize hN : zenq M' f v v (-1) 0 = N
        have hg : zgr f M' N := by rw [← hN]; exact zgr_e hv16 q2
        have hN13 : N f 13 = M' f 13 + 1 := by rw [← hN, zenq_0, fset_o _ (by decide), fset_s]
        have hN14 : N f 14 = zor (M' f 14) (zshl 1 v) := by rw [← hN, zenq_0, fset_s]
        have hN1 : N f 1 = 1 := by rw [← hN, zenq_0, fset_o _ (by decide), fset_o _ (by decide)]; exact h1
        have hNB : zWF N f 0 0 (fun _ => False) := by
          unfold zWF
          rw [hN1, ← hN]
          rw [zenq_1, zenq_2, zenq_3, zenq_7, zenq_0, zFf_row (zenq_f v _ _ _) (by omega : ¬ (f ≤ 4 ∧ 4 ≤ f + 7)), zFf_row (zenq_f v _ _ _) (by omega : ¬ (f ≤ 6 ∧ 6 ≤ f + 7)), zFf_row (zenq_f v _ _ _) (by omega : ¬ (f ≤ 7 ∧ 7 ≤ f + 7))]
          rw [fset_s, fset_o _ (show (13 : Int) ≠ 14 by decide), fset_s, fset_o _ (show (0 : Int) ≠ 14 by decide), fset_o _ (show (0 : Int) ≠ 13 by decide)]
          exact hr
        rw [zw_id (by omega)]
        refine ih N (v + 1) (by omega) (by omega) (zFf_t hF hg.1) (by rw [hg.2.2.1]; exact h0) hN1 hNB (fun i i0 i1 => ?_) (fun x => ?_)
        · rw [← hN, zenq_7]
          by_cases z : i = M' f 13
          · rw [z, fset_s]; exact q
          · rw [fset_o _ z]; exact hqf i i0 (by omega)
        · rw [hN14, tbs_or1 ⟨hv, by omega⟩, hsn]
          constructor
          · rintro (⟨a, b⟩ | a)
            · exact ⟨by omega, b⟩
            · subst a; exact ⟨by omega, q⟩
          · rintro ⟨a, b⟩
            by_cases e : x = v
            · exact Or.inr e
            · exact Or.inl ⟨by omega, b⟩
  refine s1_0 kf ?_
  generalize hN : zset (zset (zset (zset M f 0 sh) f 1 1) f 13 0) f 14 0 = N
  have nO : ∀ a, a ≠ f → N a = M a := fun a h => by rw [← hN, zrow_o _ h, zrow_o _ h, zrow_o _ h, zrow_o _ h]
  have n0 : N f 0 = sh := by rw [← hN, zrow_s, fset_o _ (by decide), zrow_s, fset_o _ (by decide), zrow_s, fset_o _ (by decide), zrow_s, fset_s]
  have n1 : N f 1 = 1 := by rw [← hN, zrow_s, fset_o _ (by decide), zrow_s, fset_o _ (by decide), zrow_s, fset_s]
  have n13 : N f 13 = 0 := by rw [← hN, zrow_s, fset_o _ (by decide), zrow_s, fset_s]
  have n14 : N f 14 = 0 := by rw [← hN, zrow_s, fset_s]
  have no : ∀ x, ¬ tbs (0 : Int) x := fun x q => by have := q.2; rw [tb_0] at this; exact absurd this (by decide)
  refine key 16 N 0 (by omega) (by omega) (fun a i p => by rw [nO a (by omega)]) n0 n1 ?_ (fun i a b => by omega) (fun x => by rw [n14]; exact ⟨fun q => absurd q (no x), fun q => by have := q.2.1; omega⟩)
  unfold zWF
  rw [n13, n14, n1]
  exact ⟨by omega, fun i a b => by omega, fun i j a b => by omega, fun v a b q => absurd q (no v), fun i a b => by omega, fun i l u a b => by omega, Or.inl rfl, fun i l u a b => by omega, fun i j a b => by omega⟩
end WK3
