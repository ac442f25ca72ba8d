/-! the reference's looks -/
section LM
variable {Q : Int → zM → Prop} {M N : zM} {S : Int}
theorem mN_tie (h : mN N S M) {t : Int} (ht : 0 ≤ t ∧ t < N 4 2) : M 132 t = 0 ↔ ptie N S t := by
  have w := (h.2.2 t ht.1 ht.2).2.2.2.2
  constructor
  · intro z
    exact ⟨ht, fun y => by have := w.1.mp y; omega, fun y => by have := w.2.1.mp y; omega⟩
  · rintro ⟨_, y1, y2⟩
    have a : ¬ M 132 t = 1 := fun z => y1 (w.1.mpr z)
    have b : ¬ M 132 t = 2 := fun z => y2 (w.2.1.mpr z)
    omega
theorem c143 (hW : pW N) (h : mN N S M) (hk : pok N S) (hL : zLS M) (hQ : ∀ M', mfr M M' → mN N S M' → zLS M' → M' 123 48 = psv N S (N 4 2).toNat → kB (pA N S) (M' 123 45) (M' 123 46) (M' 123 47) → Q 0 M') : zF 143 Q [(2, 123)] M := by
  have hm := hW.1
  have hX := mN_X hW h hk.1 hL
  have hlb := pls_b hW hX
  have h3 : ∀ M', mfr M M' → M' 123 3 = N 4 2 := fun M' g => by rw [g 123 3 (by omega) (by omega)]; exact h.1
  have psb := psv_b (N := N) (S := S) (fun t => prs_len hW hk)
  have step : ∀ {v3 : Int} (_ : zmk v3 (pov N S)) (n t : Nat) (M' : zM), ((t : Nat) : Int) + n = N 4 2 → mfr M M' → M' 123 48 = psv N S t → kB (fun t' l g => pA N S t' l g ∧ t' < (t : Int)) (M' 123 45) (M' 123 46) (M' 123 47) → zS 143 Q 33 [(2, 123), (1, pls N S), (3, 0), (0, v3), (0, (t : Int)), (3, 0), (3, 0)] [] M' := by
    intro v3 hv n
    induction n with
    | zero =>
      intro t M' ht hM h0 hB
      refine s143_33 ⟨fun _ => c118' hW (mN_fr h hM) (fun M2 a1 a2 a3 => hQ M2 (mfr_t hM (mfr_7 a1)) a2 a3 ?_ ?_), fun q => ?_⟩
      · rw [a1 123 48 (by omega) (by omega), h0]; congr 1; omega
      · rw [a1 123 45 (by omega) (by omega), a1 123 46 (by omega) (by omega), a1 123 47 (by omega) (by omega)]
        refine kB_cg hB (fun t' l g => ⟨fun z => z.1, fun z => ⟨z, ?_⟩⟩)
        have := z.1.1.2
        omega
      · rw [h3 M' hM] at q; omega
    | succ n ih =>
      intro t M' ht hM h0 hB
      have hmN := mN_fr h hM
      have ht' : 0 ≤ ((t : Nat) : Int) ∧ ((t : Nat) : Int) < N 4 2 := by omega
      have pt := psb t
      refine s143_33 ⟨fun q => ?_, fun _ => ⟨by omega, fun z => ?_, fun z => ?_⟩⟩
      · rw [h3 M' hM] at q; omega
      · rw [zw_id (by omega)]
        have z' : ¬ ptie N S t := fun y => z ((mN_tie hmN ht').mpr y)
        refine ih (t + 1) M' (by omega) hM ?_ (kB_cg hB (fun t' l g => ?_))
        · rw [h0, psv_s, if_neg z', Int.add_zero]
        · constructor
          · rintro ⟨a, b⟩; exact ⟨a, by omega⟩
          · rintro ⟨a, b⟩
            refine ⟨a, ?_⟩
            by_cases y : t' = (t : Int)
            · exact absurd (by rw [← y]; exact a.1) z'
            · omega
      · have z' : ptie N S t := (mN_tie hmN ht').mp z
        refine c138' hW hmN hk ht' (fun M2 b1 b2 b3 => ?_)
        have inner : ∀ (n' l : Nat) (M3 : zM), ((l : Nat) : Int) + n' = N 4 2 → mfr M M3 → M3 123 34 = ((kls (prg N S t)).length : Int) → kro (M3 149) 0 (kls (prg N S t)) → M3 123 48 = psv N S t + zsum (pgl N S t) l → kB (fun t' l' g => (pA N S t' l' g ∧ t' < (t : Int)) ∨ (t' = (t : Int) ∧ l' < (l : Int) ∧ pA N S t l' g)) (M3 123 45) (M3 123 46) (M3 123 47) → zS 143 Q 61 [(2, 123), (1, pls N S), (3, 0), (0, v3), (0, (t : Int)), (0, (l : Int)), (3, 0)] [] M3 := by
          intro n'
          induction n' with
          | zero =>
            intro l M3 hl g1 g2 g3 g4 g5
            refine s143_61 ⟨fun _ => ?_, fun q => ?_⟩
            · rw [zw_id (by omega)]
              refine ih (t + 1) M3 (by omega) g1 ?_ (kB_cg g5 (fun t' l' g => ?_))
              · rw [g4, show l = (N 4 2).toNat by omega, pgl_sum hW hk]
                show _ = psv N S t + @ite _ (ptie N S t) (Classical.propDecidable _) (pc N S t (prs N S t)) 0
                rw [if_pos z']
              · constructor
                · rintro (⟨a, b⟩ | ⟨a, b, c⟩)
                  · exact ⟨a, by omega⟩
                  · rw [a]; exact ⟨c, by omega⟩
                · rintro ⟨a, b⟩
                  by_cases y : t' = (t : Int)
                  · rw [y] at a
                    refine Or.inr ⟨y, ?_, a⟩
                    obtain ⟨_, e, e1, e2, _⟩ := a
                    have := (prs_b hW hk hX e1).1
                    omega
                  · exact Or.inl ⟨a, by omega⟩
            · rw [h3 M3 g1] at q; omega
          | succ n' ih' =>
            intro l M3 hl g1 g2 g3 g4 g5
            have hmN3 := mN_fr h g1
            have hll : (kls (prg N S t)).length ≤ 24 := by
              have := prs_len (t := (t : Int)) hW hk
              unfold prs at this
              rw [List.length_map] at this
              unfold kls
              rw [List.length_map]; exact this
            have sb := zsum_b (f := pgl N S t) (b := 1) l (fun i _ => by have := @pgl_01 N S t i; omega)
            have e1 : zsum (pgl N S t) (l + 1) = zsum (pgl N S t) l + pgl N S t l := rfl
            have no : pgl N S t l = 0 → ∀ g, ¬ pA N S t l g := fun y g x => by
              unfold pgl at y
              rw [if_pos] at y
              · cases y
              · obtain ⟨_, e, p1, p2, _, p3⟩ := x
                exact ⟨e, p1, p2, p3⟩
            have cont : ∀ (M4 : zM), mfr M M4 → M4 149 = M3 149 → M4 123 34 = M3 123 34 → M4 123 48 = psv N S t + zsum (pgl N S t) (l + 1) → kB (fun t' l' g => (pA N S t' l' g ∧ t' < (t : Int)) ∨ (t' = (t : Int) ∧ l' < ((l + 1 : Nat) : Int) ∧ pA N S t l' g)) (M4 123 45) (M4 123 46) (M4 123 47) → zS 143 Q 61 [(2, 123), (1, pls N S), (3, 0), (0, v3), (0, (t : Int)), (0, zw ((l : Int) + 1)), (3, 0)] [] M4 := fun M4 q1 q2 q3 q4 q5 => by
              rw [zw_id (by omega)]
              exact ih' (l + 1) M4 (by omega) q1 (by rw [q3]; exact g2) (by rw [q2]; exact g3) q4 q5
            have same : pgl N S t l = 0 → kB (fun t' l' g => (pA N S t' l' g ∧ t' < (t : Int)) ∨ (t' = (t : Int) ∧ l' < ((l + 1 : Nat) : Int) ∧ pA N S t l' g)) (M3 123 45) (M3 123 46) (M3 123 47) := fun y => kB_cg g5 (fun t' l' g => by
              constructor
              · rintro (a | ⟨a, b, c⟩)
                · exact Or.inl a
                · exact Or.inr ⟨a, by omega, c⟩
              · rintro (a | ⟨a, b, c⟩)
                · exact Or.inl a
                · by_cases x : l' = (l : Int)
                  · rw [x] at c; exact absurd c (no y g)
                  · exact Or.inr ⟨a, by omega, c⟩)
            refine s143_61 ⟨fun q => ?_, fun _ => c139 g2 g3 hll (fun y => ⟨fun _ => ?_, fun x => absurd rfl x⟩) (fun y => ⟨fun x => absurd x (by decide), fun _ => ?_⟩)⟩
            · rw [h3 M3 g1] at q; omega
            · have y0 : pgl N S t l = 0 := by
                unfold pgl
                rw [if_neg]
                rintro ⟨e, p1, p2, _⟩
                refine y ?_
                rw [← prs_fst]
                exact List.mem_map.mpr ⟨e, p1, p2⟩
              exact cont M3 g1 rfl rfl (by rw [e1, y0, g4]; omega) (same y0)
            · obtain ⟨e0, p1, p2⟩ := List.mem_map.mp y
              have hd : M3 132 t = 0 := (mN_tie hmN3 ht').mpr z'
              have hkx := pok_x hW hk ht' p1
              rw [← p2]
              refine c141 hW hmN3 hk ht' hd p1 (fun M4 k1 k2 k3 k4 => ?_)
              obtain ⟨fl2, ne2, hX2⟩ := k4
              have gn := px_gain hW hk ht' z'.2.1 p1 hX hX2
              have my := px_may hW hk ht' z'.2.1 p1 hX hX2
              have hb2 := pls_b hW hX2
              have he0 : ((e0.1, ksg (N 6) (pG N S) e0) : Int × Int) ∈ prs N S t := List.mem_map.mpr ⟨e0, p1, rfl⟩
              have hph : phl N S t (e0.1, ksg (N 6) (pG N S) e0) ↔ (0 < pls N S - pls N (pex S t e0.1) ∧ ∀ l, 0 ≤ l → l < 32 → pov N (pex S t e0.1) l → pov N S l) := by
                unfold phl
                rw [my, gn]
              have hpg : pgl N S t l = 1 ↔ phl N S t (e0.1, ksg (N 6) (pG N S) e0) := by
                unfold pgl
                constructor
                · intro x
                  by_cases w : ∃ e, e ∈ prs N S t ∧ e.1 = (l : Int) ∧ phl N S t e
                  · obtain ⟨e, w1, w2, w3⟩ := w
                    rw [← nodup_fst prs_nodup w1 he0 (by rw [w2]; exact p2.symm)]; exact w3
                  · rw [if_neg w] at x; cases x
                · intro x
                  rw [if_pos ⟨_, he0, p2, x⟩]
              have hpA : ∀ g, pA N S t l g → g = pls N S - pls N (pex S t e0.1) := fun g x => by
                obtain ⟨_, e, w1, w2, w3, w4⟩ := x
                have : e = (e0.1, ksg (N 6) (pG N S) e0) := nodup_fst prs_nodup w1 he0 (by rw [w2]; exact p2.symm)
                rw [← w3, this, gn]
              have m4 : mfr M M4 := mfr_t g1 (mtr_fr k1)
              have r149 : M4 149 = M3 149 := funext fun i => k1 149 i (by omega) (by omega)
              have f34 : M4 123 34 = M3 123 34 := k1 123 34 (by omega) (by omega)
              have f48 : M4 123 48 = M3 123 48 := k1 123 48 (by omega) (by omega)
              have f45 : M4 123 45 = M3 123 45 := k1 123 45 (by omega) (by omega)
              have f46 : M4 123 46 = M3 123 46 := k1 123 46 (by omega) (by omega)
              have f47 : M4 123 47 = M3 123 47 := k1 123 47 (by omega) (by omega)
              have hz : zand (M4 123 55) (zxor v3 (-1)) = 0 ↔ ∀ i, 0 ≤ i → i < 32 → pov N (pex S t e0.1) i → pov N S i := zbear k3 hv
              have stay : ¬ phl N S t (e0.1, ksg (N 6) (pG N S) e0) → zS 143 Q 61 [(2, 123), (1, pls N S), (3, 0), (0, v3), (0, (t : Int)), (0, zw (e0.1 + 1)), (3, 0)] [] (zset M4 123 48 (zw (M4 123 48 + 0))) := fun x => by
                have y0 : pgl N S t l = 0 := by
                  rcases @pgl_01 N S t l with w | w
                  · exact w
                  · exact absurd (hpg.mp w) x
                rw [p2, f48, g4, zw_id (x := psv N S t + zsum (pgl N S t) l + 0) (by omega)]
                refine cont (zset M4 123 48 (psv N S t + zsum (pgl N S t) l + 0)) (mfr_s m4 (by omega)) ?_ ?_ ?_ ?_
                · rw [zrow_o _ (by decide)]; exact r149
                · rw [zrow_s, fset_o _ (by decide)]; exact f34
                · rw [zrow_s, fset_s, e1, y0]; omega
                · rw [zrow_s, fset_o _ (by decide), fset_o _ (by decide), fset_o _ (by decide), f45, f46, f47]
                  exact same y0
              refine ⟨fun x => stay (fun w => x (hz.mpr (hph.mp w).2)), fun x => ⟨fun x2 => stay (fun w => x2 ?_), fun x2 => ?_⟩⟩
              · rw [k2]
                have := (hph.mp w).1
                exact zlcmp_n.mpr (by omega)
              · rw [k2, zlcmp_n] at x2
                have hyes : phl N S t (e0.1, ksg (N 6) (pG N S) e0) := hph.mpr ⟨by omega, hz.mp x⟩
                have y1 : pgl N S t l = 1 := hpg.mpr hyes
                have hadd : ∀ t' l' g, ((pA N S t' l' g ∧ t' < (t : Int)) ∨ (t' = (t : Int) ∧ l' < ((l + 1 : Nat) : Int) ∧ pA N S t l' g)) ↔ (((pA N S t' l' g ∧ t' < (t : Int)) ∨ (t' = (t : Int) ∧ l' < (l : Int) ∧ pA N S t l' g)) ∨ (t' = (t : Int) ∧ l' = (l : Int) ∧ g = pls N S - pls N (pex S t e0.1))) := fun t' l' g => by
                  constructor
                  · rintro (a | ⟨a, b, c⟩)
                    · exact Or.inl (Or.inl a)
                    · by_cases x : l' = (l : Int)
                      · rw [x] at c; exact Or.inr ⟨a, x, hpA g c⟩
                      · exact Or.inl (Or.inr ⟨a, by omega, c⟩)
                  · rintro ((a | ⟨a, b, c⟩) | ⟨a, b, c⟩)
                    · exact Or.inl a
                    · exact Or.inr ⟨a, by omega, c⟩
                    · exact Or.inr ⟨a, by omega, z', _, he0, by rw [b]; exact p2, by rw [c, gn], hyes⟩
                rw [k2, zW_id (by omega), f47, f48, g4, zw_id (x := psv N S t + zsum (pgl N S t) l + 1) (by omega), p2, show pex S t (l : Int) = pex S t e0.1 by rw [p2]]
                refine ⟨fun x3 => ?_, fun x3 => ?_⟩
                · rw [zlcmp_p] at x3
                  refine cont (zset M4 123 48 (psv N S t + zsum (pgl N S t) l + 1)) (mfr_s m4 (by omega)) ?_ ?_ ?_ ?_
                  · rw [zrow_o _ (by decide)]; exact r149
                  · rw [zrow_s, fset_o _ (by decide)]; exact f34
                  · rw [zrow_s, fset_s, e1, y1]; omega
                  · rw [zrow_s, fset_o _ (by decide), fset_o _ (by decide), fset_o _ (by decide), f45, f46, f47]
                    refine kB_cg (kB_no (t := (t : Int)) (l := (l : Int)) (g := pls N S - pls N (pex S t e0.1)) g5 (by omega) ?_) (fun t' l' g => (hadd t' l' g).symm)
                    rcases g5 with ⟨a1, a2, a3, a4⟩ | ⟨a1, a2, a3⟩
                    · omega
                    · rcases a1 with ⟨a4, a5⟩ | ⟨a4, a5, a6⟩ <;> omega
                · rw [zlcmp_p] at x3
                  refine cont (zset (zset (zset (zset M4 123 48 (psv N S t + zsum (pgl N S t) l + 1)) 123 47 (pls N S - pls N (pex S t e0.1))) 123 45 (t : Int)) 123 46 (l : Int)) (mfr_s (mfr_s (mfr_s (mfr_s m4 (by omega)) (by omega)) (by omega)) (by omega)) ?_ ?_ ?_ ?_
                  · rw [zrow_o _ (by decide), zrow_o _ (by decide), zrow_o _ (by decide), zrow_o _ (by decide)]; exact r149
                  · rw [zrow_s, fset_o _ (by decide), zrow_s, fset_o _ (by decide), zrow_s, fset_o _ (by decide), zrow_s, fset_o _ (by decide)]; exact f34
                  · rw [zrow_s, fset_o _ (by decide), zrow_s, fset_o _ (by decide), zrow_s, fset_o _ (by decide), zrow_s, fset_s, e1, y1]; omega
                  · rw [show (zset (zset (zset (zset M4 123 48 (psv N S t + zsum (pgl N S t) l + 1)) 123 47 (pls N S - pls N (pex S t e0.1))) 123 45 (t : Int)) 123 46 (l : Int)) 123 = fset (fset (fset (fset (M4 123) 48 (psv N S t + zsum (pgl N S t) l + 1)) 47 (pls N S - pls N (pex S t e0.1))) 45 (t : Int)) 46 (l : Int) by rw [zrow_s, zrow_s, zrow_s, zrow_s]]
                    rw [fset_o (j := 45) _ (by decide), fset_s, fset_s, fset_o (j := 47) _ (by decide), fset_o (j := 47) _ (by decide), fset_s]
                    exact kB_cg (kB_gt g5 x3) (fun t' l' g => (hadd t' l' g).symm)
        refine inner (N 4 2).toNat 0 M2 (by omega) (mfr_t hM (mfr_4 b1)) b2 b3 ?_ ?_
        · rw [b1 123 48 (by omega) (by omega), h0]; show _ = _ + 0; omega
        · rw [b1 123 45 (by omega) (by omega), b1 123 46 (by omega) (by omega), b1 123 47 (by omega) (by omega)]
          refine kB_cg hB (fun t' l g => ⟨fun y => Or.inl y, fun y => y.elim id (fun x => ?_)⟩)
          obtain ⟨_, x1, x2⟩ := x
          obtain ⟨_, e, e1, e2, _⟩ := x2
          have := (prs_b hW hk hX e1).1
          omega
  generalize hM1 : zset (zset (zset (zset M 123 45 (-1)) 123 46 (-1)) 123 47 0) 123 48 0 = M1
  have m1 : mfr M M1 := by rw [← hM1]; exact mfr_s (mfr_s (mfr_s (mfr_s mfr_r (by omega)) (by omega)) (by omega)) (by omega)
  have r1 : M1 123 = fset (fset (fset (fset (M 123) 45 (-1)) 46 (-1)) 47 0) 48 0 := by rw [← hM1, zrow_s, zrow_s, zrow_s, zrow_s]
  have L1 : zLS M1 := zLS_cg hL (fun a p q => by rw [← hM1, zrow_o _ (by omega), zrow_o _ (by omega), zrow_o _ (by omega), zrow_o _ (by omega)]) (m1 123 3 (by omega) (by omega))
  refine s143_0 ?_
  rw [hM1]
  refine c120 hW (mN_fr h m1) hk L1 (c121' hW (mN_fr h m1) hk L1 (fun v3 hv => step hv (N 4 2).toNat 0 M1 (by omega) m1 ?_ (Or.inl ⟨?_, ?_, ?_, fun t l g z => ?_⟩)))
  · rw [r1, fset_s]; rfl
  · rw [r1, fset_o _ (by decide), fset_o _ (by decide), fset_o _ (by decide), fset_s]
  · rw [r1, fset_o _ (by decide), fset_o _ (by decide), fset_s]
  · rw [r1, fset_o _ (by decide), fset_s]
  · have := z.1.1.1.1
    have := z.2
    omega
end LM
