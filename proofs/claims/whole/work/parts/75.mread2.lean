/-! the reference's reader: lines -/
section ML2
variable {Q : Int → zM → Prop} {M P : zM}
theorem c107 {v : Int} (hm : mR0 P M) (h0 : ¬ php P v → Q 0 M) (h1 : php P v → Q 1 M) : zF 107 Q [(2, 123), (0, v)] M := by
  refine s107_0 (c98 ⟨fun q => h0 (fun z => by rw [if_pos ⟨z.1.1, by have := z.1.2; omega⟩] at q; cases q), fun q => ?_⟩)
  have hv : 0 ≤ v ∧ v < 16 := by
    have : 0 ≤ v ∧ v ≤ 15 := Classical.byContradiction fun z => q (if_neg z)
    omega
  have := (hm.2.1 v hv.1 hv.2).2.1
  exact ⟨hv, fun q2 => h0 (fun z => this.mp z.2 q2), fun q2 => h1 ⟨hv, this.mpr q2⟩⟩
theorem c108 {v w : Int} (hm : mR0 P M) (hl : 0 ≤ P 4 2 ∧ P 4 2 ≤ 24) (h0 : ¬ pjo P v w → Q 0 M) (h1 : pjo P v w → Q 1 M) : zF 108 Q [(2, 123), (0, v), (0, w)] M := by
  obtain ⟨m1, m2, m3⟩ := hm
  have done : pjo P v w → ∀ (n k : Nat), ((k : Nat) : Int) + n = P 4 2 → zS 108 Q 5 [(2, 123), (0, v), (0, w), (0, 1), (0, (k : Int))] [] M := by
    intro hj n
    induction n with
    | zero => intro k hk; exact s108_5 ⟨fun _ => ⟨Or.inr rfl, h1 hj⟩, fun q => by omega⟩
    | succ n ih =>
      intro k hk
      refine s108_5 ⟨fun q => by omega, fun _ => ⟨fun _ => ?_, fun z => absurd z (by decide)⟩⟩
      rw [zw_id (by omega)]
      exact ih (k + 1) (by omega)
  have key : ∀ (n k : Nat), ((k : Nat) : Int) + n = P 4 2 → (∀ l, 0 ≤ l → l < (k : Int) → ¬ ((P 6 l = v ∧ P 7 l = w) ∨ (P 6 l = w ∧ P 7 l = v))) → zS 108 Q 5 [(2, 123), (0, v), (0, w), (0, 0), (0, (k : Int))] [] M := by
    intro n
    induction n with
    | zero =>
      intro k hk hi
      exact s108_5 ⟨fun _ => ⟨Or.inl rfl, h0 (fun ⟨l, y1, y2⟩ => hi l y1.1 (by omega) y2)⟩, fun q => by omega⟩
    | succ n ih =>
      intro k hk hi
      have e := m3 k (by omega) (by omega)
      have skip : ¬ ((P 6 k = v ∧ P 7 k = w) ∨ (P 6 k = w ∧ P 7 k = v)) → zS 108 Q 5 [(2, 123), (0, v), (0, w), (0, 0), (0, zw ((k : Int) + 1))] [] M := fun z => by
        rw [zw_id (by omega)]
        refine ih (k + 1) (by omega) (fun l l0 l1 => ?_)
        by_cases ee : l = (k : Int)
        · rw [ee]; exact z
        · exact hi l l0 (by omega)
      have got : ((P 6 k = v ∧ P 7 k = w) ∨ (P 6 k = w ∧ P 7 k = v)) → zS 108 Q 5 [(2, 123), (0, v), (0, w), (0, 1), (0, zw ((k : Int) + 1))] [] M := fun z => by
        rw [zw_id (by omega)]
        exact done ⟨k, by omega, z⟩ n (k + 1) (by omega)
      refine s108_5 ⟨fun q => by omega, fun _ => ⟨fun z => absurd rfl z, fun _ => ⟨by omega, ?_⟩⟩⟩
      rw [e.1, e.2.1]
      refine ⟨fun q => ⟨fun q2 => skip (fun z => ?_), fun q2 => ⟨fun q3 => skip (fun z => ?_), fun q3 => got (Or.inr ⟨q2, q3⟩)⟩⟩, fun q => ⟨fun q2 => got (Or.inl ⟨q, q2⟩), fun q2 => ⟨fun q3 => skip (fun z => ?_), fun q3 => ⟨fun q4 => skip (fun z => ?_), fun q4 => got (Or.inr ⟨q3, q4⟩)⟩⟩⟩⟩
      · rcases z with z | z
        · exact q z.1
        · exact q2 z.1
      · rcases z with z | z
        · exact q z.1
        · exact q3 z.2
      · rcases z with z | z
        · exact q2 z.2
        · exact q3 z.1
      · rcases z with z | z
        · exact q2 z.2
        · exact q4 z.2
  exact s108_0 (key (P 4 2).toNat 0 (by omega) (fun l a b => by omega))
theorem mR0_p {q : Int} (h : mR0 P M) : mR0 P (zset M 123 13 q) := mR0_cg h (mp_o _ _ (by omega)) (fun a _ _ _ => mp_r _ _ (by omega))
set_option maxHeartbeats 1000000 in
theorem c109 {p : Int} {c : Prop} (hc : (c ↔ pbt (M 125) (M 123 2) p = 43)) (hR : mra M) (hm : mR P M) (hw : pwf P) (hp : 0 ≤ p ∧ p < M 123 2) (h13 : M 123 13 = p)
    (h0 : ∀ q M', pnl (pbt (M 125) (M 123 2)) p P c = (none, q) → mrf M M' → M' 123 14 = q → mR0 P M' → Q 0 M')
    (h1 : ∀ P' q M', pnl (pbt (M 125) (M 123 2)) p P c = (some P', q) → mrf M M' → M' 123 14 = -1 → M' 123 13 = q → mR P' M' → Q 0 M') : zF 109 Q [(2, 123)] M := by
  have hbb : ∀ i, -1 ≤ pbt (M 125) (M 123 2) i ∧ pbt (M 125) (M 123 2) i ≤ 127 := fun i => pbt_b hR.2.2
  have hin : ∀ i, ¬ pbt (M 125) (M 123 2) i = -1 → 0 ≤ i ∧ i < M 123 2 := fun i z => pbt_in z
  have hn := hR.2.1
  have hfn : ∀ m i, i ≤ M 123 2 → (pfv (pbt (M 125) (M 123 2)) m i 0).2 ≤ M 123 2 := fun m i z => pfv_n z
  have e0 : zset M 123 13 p = M := by rw [← h13]; exact zset_id M 123 13
  obtain ⟨hm0, m4, m5⟩ := hm
  have m1 := hm0.1
  have hl24 := hw.1.1
  generalize hb : pbt (M 125) (M 123 2) = b at *
  have fail : ∀ q, pnl b p P c = (none, q) → Q 0 (mft M q) := fun q e => h0 q _ e (mrf_ft mrf_r) (mft_14 _ _) (mR0_cg hm0 (mft_o _ _ (by omega)) (fun a _ _ _ => funext fun i => mft_o _ _ (by omega)))
  refine s109_0 ⟨fun q => ?_, fun q => ?_⟩
  · rw [m1] at q
    rw [show (zF 104 _ [(2, 123), (0, 0)] M) = (zF 104 _ [(2, 123), (0, 0)] (zset M 123 13 p)) from by rw [e0]]
    exact o104_0 hR (by omega) ⟨fun z => absurd rfl z, fun _ => fail p (by unfold pnl; rw [cif_t q])⟩
  · rw [m1] at q
    rw [show (zF 104 _ [(2, 123), (0, 1)] M) = (zF 104 _ [(2, 123), (0, 1)] (zset M 123 13 p)) from by rw [e0]]
    refine o104_1 hR (by omega) ⟨fun _ => ?_, fun z => absurd z (by decide)⟩
    rw [mp_5, h13]
    have b1 := hbb (p + 1)
    refine o102 hR (mp_o _ _ (by omega)) (mp_r _ _ (by decide)) (by omega) ?_
    rw [hb, zw_id (x := b (p + 1) - 97) (by omega)]
    refine c107 (mR0_p hm0) (fun z => ?_) (fun z => ?_)
    · exact o104_0 hR (by omega) ⟨fun y => absurd rfl y, fun _ => fail (p + 1) (by unfold pnl; rw [cif_f (fun y => y q), cif_t z])⟩
    · have i1 := hin (p + 1) (by have := z.1; omega)
      refine o104_1 hR (by omega) ⟨fun _ => ?_, fun y => absurd y (by decide)⟩
      rw [mp_5, show p + 1 + 1 = p + 2 by omega]
      have b2 := hbb (p + 2)
      refine o102 hR (mp_o _ _ (by omega)) (mp_r _ _ (by decide)) (by omega) ?_
      rw [hb, zw_id (x := b (p + 2) - 97) (by omega)]
      have bad2 : ¬ (php P (b (p + 2) - 97) ∧ ¬ b (p + 2) - 97 = b (p + 1) - 97 ∧ ¬ pjo P (b (p + 1) - 97) (b (p + 2) - 97)) → Q 0 (mft M (p + 2)) := fun y => fail (p + 2) (by unfold pnl; rw [cif_f (fun y => y q), cif_f (fun y => y z), cif_t y])
      refine c107 (mR0_p hm0) (fun z2 => ⟨fun _ => o104_0 hR (by omega) ⟨fun y => absurd rfl y, fun _ => bad2 (fun y => z2 y.1)⟩, fun y => absurd rfl y⟩) (fun z2 => ⟨fun y => absurd y (by decide), fun _ => ⟨fun z3 => o104_0 hR (by omega) ⟨fun y => absurd rfl y, fun _ => bad2 (fun y => y.2.1 z3)⟩, fun z3 => c108 (mR0_p hm0) hl24 (fun z4 => ⟨fun y => absurd rfl y, fun _ => ?_⟩) (fun z4 => ⟨fun _ => o104_0 hR (by omega) ⟨fun y => absurd rfl y, fun _ => bad2 (fun y => y.2.2 z4)⟩, fun y => absurd y (by decide)⟩)⟩⟩)
      have i2 := hin (p + 2) (by have := z2.1; omega)
      have ok2 : ¬ ¬ (php P (b (p + 2) - 97) ∧ ¬ b (p + 2) - 97 = b (p + 1) - 97 ∧ ¬ pjo P (b (p + 1) - 97) (b (p + 2) - 97)) := fun y => y ⟨z2, z3, z4⟩
      refine o104_1 hR (by omega) ⟨fun _ => ?_, fun y => absurd y (by decide)⟩
      rw [mp_5, show p + 2 + 1 = p + 3 by omega]
      refine o102 hR (mp_o _ _ (by omega)) (mp_r _ _ (by decide)) (by omega) ?_
      rw [hb]
      have bad3 : (b (p + 3) = 48 ∨ ¬ pdg (b (p + 3))) → Q 0 (mft M (p + 3)) := fun y => fail (p + 3) (by unfold pnl; rw [cif_f (fun y => y q), cif_f (fun y => y z), cif_f ok2, cif_t y])
      have hq3 : 0 ≤ p + 3 ∧ p + 3 ≤ M 123 2 := by omega
      refine ⟨fun z5 => ?_, fun z5 => o104_0 hR (by omega) (s109_118 ⟨fun _ => s109_168 (bad3 (Or.inl z5)), fun y => by rw [mft_14] at y; omega⟩)⟩
      refine s109_118 ⟨fun y => by rw [mp_o _ _ (by omega)] at y; have := hR.1; omega, fun _ => ?_⟩
      refine o105 (m := 2) hR hq3 (Or.inl rfl) (fun d => ⟨fun _ => s109_168 (bad3 (Or.inr (by rw [hb] at d; exact d))), fun y => by rw [mft_14] at y; omega⟩) (fun d => ?_)
      rw [hb] at d ⊢
      have ok3 : ¬ (b (p + 3) = 48 ∨ ¬ pdg (b (p + 3))) := fun y => y.elim z5 (fun x => x d)
      have fb := pfv_b (b := b) (m := 2) (p := p + 3) (v := 0) (by omega)
      have fn := hfn 2 (p + 3) hq3.2
      have fr1 : 1 ≤ (pfv b 2 (p + 3) 0).1 := by
        rw [pfv_s, cif_t d]
        unfold pdg at d
        have := pfv_b (b := b) (m := 1) (p := p + 3 + 1) (v := 10 * 0 + b (p + 3) - 48) (by omega)
        omega
      generalize hrq : (pfv b 2 (p + 3) 0).2 = q4 at *
      generalize hrv : (pfv b 2 (p + 3) 0).1 = rr at *
      refine ⟨fun y => by rw [mp_o _ _ (by omega)] at y; have := hR.1; omega, fun _ => ?_⟩
      rw [mp_5]
      refine o102 hR (mp_o _ _ (by omega)) (mp_r _ _ (by decide)) (by omega) ?_
      rw [hb]
      refine ⟨fun d2 => o104_0 hR (by omega) ⟨fun y => absurd rfl y, fun _ => s109_168 (fail q4 (by unfold pnl; rw [cif_f (fun y => y q), cif_f (fun y => y z), cif_f ok2, cif_f ok3, hrq, cif_t d2]))⟩, fun d2 => o104_1 hR (by omega) ⟨fun _ => ?_, fun y => absurd y (by decide)⟩⟩
      have i4 := hin q4 (by omega)
      refine o105 (m := 3) hR (by omega) (Or.inr rfl) (fun d4 => ⟨fun _ => s109_208 (fail (q4 + 1) (by
        rw [hb] at d4
        unfold pnl; rw [cif_f (fun y => y q), cif_f (fun y => y z), cif_f ok2, cif_f ok3, hrq, cif_f (fun y => y d2), cif_t d4])), fun y => by rw [mft_14] at y; omega⟩) (fun d4 => ?_)
      rw [hb] at d4 ⊢
      have gb := pfv_b (b := b) (m := 3) (p := q4 + 1) (v := 0) (by omega)
      have gn := hfn 3 (q4 + 1) (by omega)
      generalize hlq : (pfv b 3 (q4 + 1) 0).2 = q6 at *
      generalize hlv : (pfv b 3 (q4 + 1) 0).1 = mm at *
      refine ⟨fun y => by rw [mp_o _ _ (by omega)] at y; have := hR.1; omega, fun _ => ?_⟩
      rw [mp_5]
      refine o102 hR (mp_o _ _ (by omega)) (mp_r _ _ (by decide)) (by omega) ?_
      rw [hb]
      refine ⟨fun d5 => o104_0 hR (by omega) ⟨fun y => absurd rfl y, fun _ => s109_208 (fail q6 (by unfold pnl; rw [cif_f (fun y => y q), cif_f (fun y => y z), cif_f ok2, cif_f ok3, hrq, cif_f (fun y => y d2), cif_f (fun y => y d4), hlq, cif_t d5]))⟩, fun d5 => o104_1 hR (by omega) ⟨fun _ => ?_, fun y => absurd y (by decide)⟩⟩
      have hpn : pnl b p P c = (some (paL P (b (p + 1) - 97) (b (p + 2) - 97) rr mm p c), q6 + 1) := by
        unfold pnl; rw [cif_f (fun y => y q), cif_f (fun y => y z), cif_f ok2, cif_f ok3, hrq, cif_f (fun y => y d2), cif_f (fun y => y d4), hlq, cif_f (fun y => y d5), hrv, hlv]
      have e15 : zset M 123 13 (q6 + 1) 123 15 = P 4 2 := by rw [mp_o _ _ (by omega)]; exact m1
      rw [e15]
      refine ⟨by omega, ?_⟩
      generalize hM1 : zset (zset (zset (zset (zset M 123 13 (q6 + 1)) 136 (P 4 2) (b (p + 1) - 97)) 137 (P 4 2) (b (p + 2) - 97)) 138 (P 4 2) rr) 139 (P 4 2) mm = M1
      have s123 : M1 123 = fset (M 123) 13 (q6 + 1) := by rw [← hM1, zrow_o _ (by decide), zrow_o _ (by decide), zrow_o _ (by decide), zrow_o _ (by decide), zrow_s]
      have s125 : M1 125 = M 125 := by rw [← hM1, zrow_o _ (by decide), zrow_o _ (by decide), zrow_o _ (by decide), zrow_o _ (by decide), zrow_o _ (by decide)]
      refine o102 hR (by rw [s123, fset_o _ (by decide)]) s125 hp.1 ?_
      rw [hb]
      have e15' : M1 123 15 = P 4 2 := by rw [s123, fset_o _ (by decide)]; exact m1
      rw [e15', zw_id (x := P 4 2 + 1) (by omega)]
      have fin : ∀ x : Int, (x = 1 ↔ c) → (0 ≤ x ∧ x ≤ 1) → Q 0 (zset (zset (zset M1 140 (P 4 2) x) 141 (P 4 2) p) 123 15 (P 4 2 + 1)) := fun x hx hx01 => by
        generalize hM2 : zset (zset (zset M1 140 (P 4 2) x) 141 (P 4 2) p) 123 15 (P 4 2 + 1) = M2
        have t123 : M2 123 = fset (fset (M 123) 13 (q6 + 1)) 15 (P 4 2 + 1) := by rw [← hM2, zrow_s, zrow_o _ (by decide), zrow_o _ (by decide), s123]
        have t136 : M2 136 = fset (M 136) (P 4 2) (b (p + 1) - 97) := by rw [← hM2, zrow_o _ (by decide), zrow_o _ (by decide), zrow_o _ (by decide), ← hM1, zrow_o _ (by decide), zrow_o _ (by decide), zrow_o _ (by decide), zrow_s, zrow_o _ (by decide)]
        have t137 : M2 137 = fset (M 137) (P 4 2) (b (p + 2) - 97) := by rw [← hM2, zrow_o _ (by decide), zrow_o _ (by decide), zrow_o _ (by decide), ← hM1, zrow_o _ (by decide), zrow_o _ (by decide), zrow_s, zrow_o _ (by decide), zrow_o _ (by decide)]
        have t138 : M2 138 = fset (M 138) (P 4 2) rr := by rw [← hM2, zrow_o _ (by decide), zrow_o _ (by decide), zrow_o _ (by decide), ← hM1, zrow_o _ (by decide), zrow_s, zrow_o _ (by decide), zrow_o _ (by decide), zrow_o _ (by decide)]
        have t139 : M2 139 = fset (M 139) (P 4 2) mm := by rw [← hM2, zrow_o _ (by decide), zrow_o _ (by decide), zrow_o _ (by decide), ← hM1, zrow_s, zrow_o _ (by decide), zrow_o _ (by decide), zrow_o _ (by decide), zrow_o _ (by decide)]
        have t140 : M2 140 = fset (M 140) (P 4 2) x := by rw [← hM2, zrow_o _ (by decide), zrow_o _ (by decide), zrow_s, ← hM1, zrow_o _ (by decide), zrow_o _ (by decide), zrow_o _ (by decide), zrow_o _ (by decide), zrow_o _ (by decide)]
        have t141 : M2 141 = fset (M 141) (P 4 2) p := by rw [← hM2, zrow_o _ (by decide), zrow_s, zrow_o _ (by decide), ← hM1, zrow_o _ (by decide), zrow_o _ (by decide), zrow_o _ (by decide), zrow_o _ (by decide), zrow_o _ (by decide)]
        have tO : ∀ a, a ≠ 123 → ¬ (136 ≤ a ∧ a ≤ 141) → M2 a = M a := fun a x1 x2 => by
          rw [← hM2, zrow_o _ (by omega), zrow_o _ (by omega), zrow_o _ (by omega), ← hM1, zrow_o _ (by omega), zrow_o _ (by omega), zrow_o _ (by omega), zrow_o _ (by omega), zrow_o _ (by omega)]
        have fr : mrf M M2 := by rw [← hM2, ← hM1]; exact mrf_s (mrf_s (mrf_s (mrf_s (mrf_s (mrf_s (mrf_s (mrf_s mrf_r (by omega)) (by omega)) (by omega)) (by omega)) (by omega)) (by omega)) (by omega)) (by omega)
        refine h1 _ (q6 + 1) M2 hpn fr (by rw [t123, fset_o _ (by decide), fset_o _ (by decide)]; exact hR.1) (by rw [t123, fset_o _ (by decide), fset_s]) ⟨⟨by rw [paL_42, t123, fset_s], fun v v0 v1 => by rw [paL_40, paL_41, tO 134 (by decide) (by omega)]; exact hm0.2.1 v v0 v1, fun l l0 l1 => ?_⟩, by rw [paL_41, t123, fset_o _ (by decide), fset_o _ (by decide)]; exact m4, fun v v0 v1 => by rw [paL_5, tO 135 (by decide) (by omega)]; exact m5 v v0 v1⟩
        rw [paL_42] at l1
        rw [t136, t137, t138, t139, t140, t141, paL_6, paL_7, paL_8, paL_9, paL_20, paL_cl hw q]
        by_cases e : l = P 4 2
        · rw [e, fset_s, fset_s, fset_s, fset_s, fset_s, fset_s, fset_s, fset_s, fset_s, fset_s, fset_s]
          refine ⟨rfl, rfl, rfl, rfl, ⟨fun y => ?_, fun y => Or.inr ⟨hx.mp y, rfl⟩⟩, hx01, rfl⟩
          rcases y with y | y
          · have := hw.2.1 _ y; omega
          · exact hx.mpr y.1
        · rw [fset_o _ e, fset_o _ e, fset_o _ e, fset_o _ e, fset_o _ e, fset_o _ e, fset_o _ e, fset_o _ e, fset_o _ e, fset_o _ e, fset_o _ e]
          obtain ⟨w1, w2, w3, w4, w5, w6, w7⟩ := hm0.2.2 l l0 (by omega)
          exact ⟨w1, w2, w3, w4, ⟨fun y => w5.mp (y.elim id (fun x => absurd x.2 e)), fun y => Or.inl (w5.mpr y)⟩, w6, w7⟩
      refine ⟨fun y => ⟨by omega, fin 0 ⟨fun x => absurd x (by decide), fun x => absurd (hc.mp x) y⟩ (by omega)⟩, fun y => ⟨by omega, fin 1 ⟨fun _ => hc.mpr y, fun _ => rfl⟩ (by omega)⟩⟩
end ML2
