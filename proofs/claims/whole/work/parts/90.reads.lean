/-! reads -/
theorem pbt_cg {t t' : Int → Int} {n : Int} (h : ∀ i, 0 ≤ i → i < n → t' i = t i) : pbt t' n = pbt t n := by
  funext p
  unfold pbt
  by_cases q : 0 ≤ p ∧ p < n
  · rw [if_pos q, if_pos q, h p q.1 q.2]
  · rw [if_neg q, if_neg q]
theorem pftl_s {n f rg : Int} (hf : f = -1 ∨ (0 ≤ f ∧ f ≤ n)) (hr : rg = -1 ∨ 0 ≤ rg) : (pftl n f rg = -1 ∧ f = -1 ∧ rg = -1) ∨ (0 ≤ pftl n f rg ∧ ¬ pftl n f rg = -1) := by
  unfold pftl
  by_cases q : 0 ≤ f ∧ f < n
  · rw [if_pos q]; omega
  · rw [if_neg q]
    by_cases z : rg = -1
    · rw [if_pos z]; omega
    · rw [if_neg z]; omega
/-- the net that was read -/
theorem nst_P {V P : zM} (hw : pwf P) (hr : ∀ a, 4 ≤ a → a ≤ 9 → V a = P a) (h4 : V 4 4 = 0) (hT : zTL V) (hR : ∀ l, ¬ prl P l) : nst V := by
  obtain ⟨⟨w1, w2, w3, w4, w5⟩, u2, ⟨r0, r1, r3⟩, _⟩ := hw
  have e4 := hr 4 (by omega) (by omega)
  have hW : zWC V := by
    unfold zWC
    rw [e4, hr 5 (by omega) (by omega), hr 6 (by omega) (by omega), hr 7 (by omega) (by omega), hr 8 (by omega) (by omega), hr 9 (by omega) (by omega)]
    exact ⟨w1, w2, w3, w4, w5, hT⟩
  refine ⟨hW, ⟨⟨fun l hl => ?_, ?_⟩, fun l hl z => ?_, by rw [e4]; exact r3⟩, fun l hl => ?_, by rw [e4]; exact r0, by rw [e4]; exact r1, by rw [h4]; unfold r32; omega⟩
  · rw [pnet_42, e4]; rw [e4] at hl; exact u2 l hl
  · unfold prad
    rw [pnet_41, pnet_6, pnet_7, e4, hr 6 (by omega) (by omega), hr 7 (by omega) (by omega)]
    exact kcon_rad (fun l hl => ⟨hl.1.1, by have := u2 l hl; omega⟩) (fun l hl z => hR l ⟨hl, z⟩)
  · rw [pnet_44, h4] at z; exact tbs_0 l z
  · rw [h4] at hl; exact absurd hl (tbs_0 l)
section RDS
variable {M : zM}
/-- the reference takes over what it read -/
theorem c113l {Q : Int → zM → Prop} {P V : zM} {k : Int} (hw : pwf P) (hr : ∀ a, 4 ≤ a → a ≤ 9 → V a = P a) (h4 : V 4 4 = 0) (hm : mR P M) (h3 : M 123 3 = P 4 2) (hk : M 123 17 = k) (hWV : zWC V) (hQ : ∀ M', (∀ a i, ¬ (126 ≤ a ∧ a ≤ 132) → ¬ (142 ≤ a ∧ a ≤ 148) → ¬ (a = 123 ∧ i = 31) → M' a i = M a i) → mN (pnet V) (V 4 3) M' → zLS M' → Q k M') : zS 113 Q 33 [(2, 123), (0, 0)] [] M := by
  obtain ⟨⟨m1, m2, m3⟩, m4, m5⟩ := hm
  have e4 := hr 4 (by omega) (by omega)
  have hmm := hw.1.1
  have second : ∀ (n l : Nat) (M' : zM), ((l : Nat) : Int) + n = P 4 2 → (∀ a, ¬ (126 ≤ a ∧ a ≤ 132) → M' a = M a) → (∀ v, 0 ≤ v → v < 16 → M' 126 v = M 134 v ∧ M' 127 v = M 135 v) → (∀ j, 0 ≤ j → j < (l : Int) → M' 128 j = M 136 j ∧ M' 129 j = M 137 j ∧ M' 130 j = M 138 j ∧ M' 131 j = M 139 j ∧ M' 132 j = M 140 j) → zS 113 Q 71 [(2, 123), (0, (l : Int))] [] M' := by
    intro n
    induction n with
    | zero =>
      intro l M' hl a1 a2 a3
      have hmN : mN (pnet V) (V 4 3) M' := by
        unfold mN
        rw [pnet_40, pnet_41, pnet_42, pnet_44, pnet_5, pnet_6, pnet_7, pnet_8, pnet_9, h4, e4, hr 5 (by omega) (by omega), hr 6 (by omega) (by omega), hr 7 (by omega) (by omega), hr 8 (by omega) (by omega), hr 9 (by omega) (by omega)]
        refine ⟨by rw [a1 123 (by omega)]; exact h3, fun v v0 v1 => ?_, fun j j0 j1 => ?_⟩
        · have x := m2 v v0 v1
          rw [(a2 v v0 v1).1, (a2 v v0 v1).2, m5 v v0 v1]
          exact ⟨x.1, x.2.1, rfl, x.2.2⟩
        · have x := m3 j j0 j1
          have y := a3 j j0 (by omega)
          rw [y.1, y.2.1, y.2.2.1, y.2.2.2.1, y.2.2.2.2]
          exact ⟨x.1, x.2.1, x.2.2.1, x.2.2.2.1, x.2.2.2.2.1, ⟨fun z => absurd z (tbs_0 j), fun z => by omega⟩, by omega, by omega⟩
      refine s113_71 ⟨fun _ => c118' (pW_of hWV) hmN (fun M2 b1 b2 b3 => ?_), fun z => ?_⟩
      · rw [b1 123 17 (by omega) (by omega), a1 123 (by omega), hk]
        exact hQ M2 (fun a i p q s => by rw [b1 a i q s, a1 a p]) b2 b3
      · rw [a1 123 (by omega), h3] at z; omega
    | succ n ih =>
      intro l M' hl a1 a2 a3
      refine s113_71 ⟨fun z => by rw [a1 123 (by omega), h3] at z; omega, fun _ => ⟨by omega, ?_⟩⟩
      rw [zw_id (by omega), a1 136 (by omega), show M' 137 = M 137 from a1 137 (by omega), show M' 138 = M 138 from a1 138 (by omega), show M' 139 = M 139 from a1 139 (by omega), show M' 140 = M 140 from a1 140 (by omega)]
      generalize hM2 : zset (zset (zset (zset (zset M' 128 (l : Int) (M 136 (l : Int))) 129 (l : Int) (M 137 (l : Int))) 130 (l : Int) (M 138 (l : Int))) 131 (l : Int) (M 139 (l : Int))) 132 (l : Int) (M 140 (l : Int)) = M2
      have oth : ∀ a, ¬ (128 ≤ a ∧ a ≤ 132) → M2 a = M' a := fun a ha => by rw [← hM2, zrow_o _ (by omega), zrow_o _ (by omega), zrow_o _ (by omega), zrow_o _ (by omega), zrow_o _ (by omega)]
      have t128 : M2 128 = fset (M' 128) (l : Int) (M 136 (l : Int)) := by rw [← hM2, zrow_o _ (by decide), zrow_o _ (by decide), zrow_o _ (by decide), zrow_o _ (by decide), zrow_s]
      have t129 : M2 129 = fset (M' 129) (l : Int) (M 137 (l : Int)) := by rw [← hM2, zrow_o _ (by decide), zrow_o _ (by decide), zrow_o _ (by decide), zrow_s, zrow_o _ (by decide)]
      have t130 : M2 130 = fset (M' 130) (l : Int) (M 138 (l : Int)) := by rw [← hM2, zrow_o _ (by decide), zrow_o _ (by decide), zrow_s, zrow_o _ (by decide), zrow_o _ (by decide)]
      have t131 : M2 131 = fset (M' 131) (l : Int) (M 139 (l : Int)) := by rw [← hM2, zrow_o _ (by decide), zrow_s, zrow_o _ (by decide), zrow_o _ (by decide), zrow_o _ (by decide)]
      have t132 : M2 132 = fset (M' 132) (l : Int) (M 140 (l : Int)) := by rw [← hM2, zrow_s, zrow_o _ (by decide), zrow_o _ (by decide), zrow_o _ (by decide), zrow_o _ (by decide)]
      refine ih (l + 1) M2 (by omega) (fun a ha => by rw [oth a (by omega)]; exact a1 a ha) (by rw [oth 126 (by omega), oth 127 (by omega)]; exact a2) (fun j j0 j1 => ?_)
      rw [t128, t129, t130, t131, t132]
      by_cases e : j = (l : Int)
      · subst e; rw [fset_s, fset_s, fset_s, fset_s, fset_s]; exact ⟨rfl, rfl, rfl, rfl, rfl⟩
      · rw [fset_o _ e, fset_o _ e, fset_o _ e, fset_o _ e, fset_o _ e]; exact a3 j j0 (by omega)
  have first : ∀ (n v : Nat) (M' : zM), v + n = 16 → (∀ a, ¬ (126 ≤ a ∧ a ≤ 132) → M' a = M a) → (∀ u, 0 ≤ u → u < (v : Int) → M' 126 u = M 134 u ∧ M' 127 u = M 135 u) → zS 113 Q 33 [(2, 123), (0, (v : Int))] [] M' := by
    intro n
    induction n with
    | zero =>
      intro v M' hv a1 a2
      exact s113_33 ⟨fun _ => second (P 4 2).toNat 0 M' (by omega) a1 (fun u u0 u1 => a2 u u0 (by omega)) (fun j a b => by omega), fun z => by omega⟩
    | succ n ih =>
      intro v M' hv a1 a2
      refine s113_33 ⟨fun z => by omega, fun _ => ⟨by omega, ?_⟩⟩
      rw [zw_id (by omega), a1 134 (by omega), show M' 135 = M 135 from a1 135 (by omega)]
      refine ih (v + 1) _ (by omega) (fun a ha => by rw [zrow_o _ (by omega), zrow_o _ (by omega)]; exact a1 a ha) (fun u u0 u1 => ?_)
      rw [zrow_o _ (show (126 : Int) ≠ 127 by decide), zrow_s, zrow_s, zrow_o _ (show (127 : Int) ≠ 126 by decide)]
      by_cases e : u = (v : Int)
      · subst e; rw [fset_s, fset_s]; exact ⟨rfl, rfl⟩
      · rw [fset_o _ e, fset_o _ e]; exact a2 u u0 (by omega)
  exact first 16 0 M (by omega) (fun _ _ => rfl) (fun u a b => by omega)
theorem op_reads (h : Inv M) : opk 70 113 [] M := by
  obtain ⟨A, hA, ⟨hcP, hn, ⟨hF, hF2⟩, hk⟩, ⟨hmP, hmN, hLS⟩, ⟨t1, t2, t3⟩, hR⟩ := id h
  obtain ⟨hW, hp, hd, hr0, hr1, hr4⟩ := id hn
  have hm := hW.1
  have tb' : ∀ M1 : zM, (∀ a, 123 ≤ a → M1 a = M a) → M1 123 2 = M 1 2 ∧ pbt (M1 125) (M1 123 2) = pbt (M 3) (M 1 2) ∧ ∀ i, 0 ≤ i → i < M1 123 2 → 0 ≤ M1 125 i ∧ M1 125 i ≤ 127 := fun M1 g => by
    rw [g 123 (by omega), g 125 (by omega), t2]
    exact ⟨rfl, pbt_cg (fun i i0 i1 => (t3 i i0 i1).1), fun i i0 i1 => by rw [(t3 i i0 i1).1]; exact (t3 i i0 i1).2⟩
  refine s70_0 (c30 t1 (fun i i0 i1 => (t3 i i0 i1).2) (fun M' P0 f P k rg g1 g2 g3 g4 g5 g6 g7 g8 g9 g10 => ?_))
  have row : ∀ a, ¬ (78 ≤ a ∧ a ≤ 87) → M' a = M a := fun a ha => zfm_row g2 ha
  have hrg : rg = -1 ∨ 0 ≤ rg := by
    rcases g8 with ⟨a, _⟩ | ⟨_, _, _, a, _⟩
    · exact Or.inl a
    · exact Or.inr a
  have cs := pftl_s (n := M 1 2) g4 hrg
  refine ⟨fun y => ?_, fun y => ?_⟩
  · obtain ⟨_, ef, er⟩ : pftl (M 1 2) f rg = -1 ∧ f = -1 ∧ rg = -1 := by
      rcases cs with z | z
      · exact z
      · exact absurd y z.2
    have hnr : ∀ l, ¬ prl P l := by
      rcases g8 with ⟨_, a⟩ | ⟨_, _, _, a, _⟩
      · exact a
      · omega
    refine c26 (cP_cg hcP (fun a p q => row a (by omega))) (fun M6 y1 ⟨X, y2, y3⟩ => ?_)
    refine c15 (w := 4) (o := 79) rfl rfl (by decide) (fun M9 w1 w2 w3 => ?_)
    rw [shn_4] at w3
    have r6 : ∀ a, 4 ≤ a → a ≤ 11 → shn M6 79 a = M' (a + 75) := fun a p q => by
      show M6 (a - 4 + 79) = M' (a + 75)
      rw [y1 _ (by omega), show a - 4 + 79 = a + 75 by omega]
    have rP : ∀ a, 4 ≤ a → a ≤ 9 → shn M6 79 a = P a := fun a p q => by rw [r6 a p (by omega)]; exact g6 a p q
    have v44 : shn M6 79 4 4 = 0 := by rw [r6 4 (by omega) (by omega)]; exact g7
    have hT : zTL (shn M6 79) := by
      unfold zTL
      rw [r6 4 (by omega) (by omega), r6 6 (by omega) (by omega), r6 7 (by omega) (by omega), r6 10 (by omega) (by omega), r6 11 (by omega) (by omega)]
      exact g9
    have nV : nst (shn M6 79) := nst_P g5 rP v44 hT hnr
    have n9 : nst M9 := nst_neq nV w3
    have hb := n9.2.1.1.1
    rw [pnet_42] at hb
    refine c92 n9.1 hb (fun M12 k1 k2 k3 k4 k5 => ?_)
    have n12 : nst M12 := nst_cg n9 (fun a p q => k1 a (by omega) (by omega) (by omega))
    have nq12 : neq (shn M6 79) M12 := neq_cg w3 (fun a p q => k1 a (by omega) (by omega) (by omega))
    have e78 : M12 78 1 = k := by rw [k1 78 (by omega) (by decide) (by decide), w1 78 (by omega), y1 78 (by omega)]; exact g10 ef
    have ro : ∀ a, (1 ≤ a ∧ a ≤ 3) ∨ 123 ≤ a → M12 a = M a := fun a ha => by rw [k1 a (by omega) (by omega) (by omega), w1 a (by omega), y1 a (by omega), row a (by omega)]
    rw [e78]
    have hs := mst_of h (M1 := M12) (fun a ha => ro a (Or.inr ha))
    obtain ⟨q1, q2, q3⟩ := tb' M12 (fun a ha => ro a (Or.inr ha))
    have nX : neq M X := neq_t (neq_cg neq_r (fun a p q => row a (by omega))) y2
    have hXW : zWC X := zWC_neq hW nX
    refine s113_0 (c112 (k := k) (rg := rg) (f := f) (Pf := P) g1 (by rw [q1]; exact t1) q3 (by rw [q2, q1]; exact g3) (by rw [q1]; exact g4) g8 (fun M2 z1 z2 z3 => ?_))
    rw [q1] at z2
    obtain ⟨z3, z4⟩ := z3 ef
    refine ⟨fun _ => ?_, fun z => by omega⟩
    have mN2 : mN (pnet M) (M 4 3) M2 := mN_mv (by rw [pnet_42]; exact hm.2) hs.1 (z1 123 3 (by omega) (by omega) (by omega)) (fun v _ _ => ⟨z1 126 v (by omega) (by omega) (by omega), z1 127 v (by omega) (by omega) (by omega)⟩) (fun l _ _ => ⟨z1 128 l (by omega) (by omega) (by omega), z1 129 l (by omega) (by omega) (by omega), z1 130 l (by omega) (by omega) (by omega), z1 131 l (by omega) (by omega) (by omega), z1 132 l (by omega) (by omega) (by omega)⟩)
    refine c115 (X := X) (A := A) (mP_cg hmP (by rw [z1 123 11 (by omega) (by omega) (by omega), ro 123 (Or.inr (by omega))]) (funext fun i => by rw [z1 133 i (by omega) (by omega) (by omega), ro 133 (Or.inr (by omega))])) (fun Y hY => (hA Y hY).1) (mN_neq hW mN2 nX) hXW (fun M5 x1 x2 => ?_)
    have e15 : M5 123 15 = P 4 2 := by rw [x1 123 15 (by omega) (by omega)]; exact z3.1.1
    rw [e15]
    generalize hM7 : zset M5 123 3 (P 4 2) = M7
    have o7 : ∀ a i, ¬ (a = 123 ∧ i = 3) → M7 a i = M5 a i := fun a i z => by rw [← hM7]; unfold zset; rw [if_neg z]
    have e2 : ∀ a, a ≠ 133 → a ≠ 123 → M7 a = M2 a := fun a p q => funext fun i => by rw [o7 a i (by omega), x1 a i p (by omega)]
    have i2 : ∀ i, i ≠ 3 → i ≠ 11 → M7 123 i = M2 123 i := fun i p q => by rw [o7 123 i (by omega), x1 123 i (by decide) (by omega)]
    have mR7 : mR P M7 := by
      unfold mR mR0
      rw [i2 15 (by decide) (by decide), i2 16 (by decide) (by decide), e2 134 (by decide) (by decide), e2 135 (by decide) (by decide), e2 136 (by decide) (by decide), e2 137 (by decide) (by decide), e2 138 (by decide) (by decide), e2 139 (by decide) (by decide), e2 140 (by decide) (by decide), e2 141 (by decide) (by decide)]
      exact z3
    refine c113l (k := k) g5 rP v44 mR7 (by rw [← hM7, zrow_s, fset_s]) (by rw [i2 17 (by decide) (by decide)]; exact z4) nV.1 (fun M8 v1 v2 v3 => ⟨rfl, ?_⟩)
    refine Inv_mk2 h hA hn nX (cP_cg y3 (fun a p q => by rw [k1 a (by omega) (by omega) (by omega), w1 a (by omega)])) n12 k3 k4 k5 ro (fun a i ha => ?_) (mP_cg x2 ?_ ?_) (mN_neq nV.1 v2 nq12) v3
    · rw [v1 a i (by omega) (by omega) (by omega), o7 a i (by omega), x1 a i (by omega) (by omega), z1 a i (by omega) (by omega) (by omega)]
    · rw [v1 123 11 (by omega) (by omega) (by omega), o7 123 11 (by omega)]
    · funext i; rw [v1 133 i (by omega) (by omega) (by omega), o7 133 i (by omega)]
  · obtain ⟨hge, _⟩ : 0 ≤ pftl (M 1 2) f rg ∧ ¬ pftl (M 1 2) f rg = -1 := by
      rcases cs with z | z
      · exact absurd z.1 y
      · exact z
    have hs := mst_of h (M1 := M') (fun a ha => row a (by omega))
    obtain ⟨q1, q2, q3⟩ := tb' M' (fun a ha => row a (by omega))
    refine s113_0 (c112 (k := k) (rg := rg) (f := f) (Pf := P) g1 (by rw [q1]; exact t1) q3 (by rw [q2, q1]; exact g3) (by rw [q1]; exact g4) g8 (fun M2 z1 z2 _ => ?_))
    rw [q1] at z2
    refine ⟨fun z => by omega, fun _ => ⟨by rw [z2], ?_⟩⟩
    have lo : ∀ a, a < 123 → ¬ (78 ≤ a ∧ a ≤ 87) → M2 a = M a := fun a p q => by rw [← row a q]; exact funext fun i => z1 a i (by omega) (by omega) (by omega)
    have hi : ∀ a i, 123 ≤ a → ¬ (134 ≤ a ∧ a ≤ 141) → a ≠ 153 → ¬ (a = 123 ∧ 13 ≤ i ∧ i ≤ 17) → M2 a i = M a i := fun a i p q r s => by rw [z1 a i q r s, row a (by omega)]
    refine Inv_step h (fun a p q r s => lo a (by omega) (by omega)) (iK_cg (Inv_iK h) (fun a p q => lo a (by omega) (by omega)) (fun a p q => lo a (by omega) (by omega)) (lo 112 (by omega) (by omega))) (hi 123 2 (by omega) (by omega) (by omega) (by omega)) (hi 123 11 (by omega) (by omega) (by omega) (by omega)) (funext fun i => hi 125 i (by omega) (by omega) (by omega) (by omega)) (funext fun i => hi 133 i (by omega) (by omega) (by omega) (by omega)) ?_ ?_ (fun j j0 j1 => ?_)
    · exact mN_mv (by rw [pnet_42]; exact hm.2) hs.1 (z1 123 3 (by omega) (by omega) (by omega)) (fun v _ _ => ⟨z1 126 v (by omega) (by omega) (by omega), z1 127 v (by omega) (by omega) (by omega)⟩) (fun l _ _ => ⟨z1 128 l (by omega) (by omega) (by omega), z1 129 l (by omega) (by omega) (by omega), z1 130 l (by omega) (by omega) (by omega), z1 131 l (by omega) (by omega) (by omega), z1 132 l (by omega) (by omega) (by omega)⟩)
    · exact zLS_w hs.2.1 (fun a i p q => z1 a i (by omega) (by omega) (by omega)) (z1 123 3 (by omega) (by omega) (by omega))
    · rw [lo 2 (by omega) (by omega), hi 124 j (by omega) (by omega) (by omega) (by omega)]; exact hR j j0 j1
end RDS
