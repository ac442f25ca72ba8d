/-! the class's reader: lines -/
section RJ
variable {Q : Int → zM → Prop} {M P : zM}
theorem c35 {l s v w : Int} (hl : 0 ≤ l ∧ l < 24) (hv : M 81 l = v) (hw : M 82 l = w) (hvb : 0 ≤ v ∧ v < 16) (hwb : 0 ≤ w ∧ w < 16)
    (h0 : M 87 v = M 87 w → Q 0 (zset (zset M 79 3 (zor (M 79 3) (zshl 1 l))) 78 6 (if M 78 6 = -1 then s else M 78 6)))
    (h1 : ∀ M' ke lo, ¬ M 87 v = M 87 w → ((ke = M 87 v ∧ lo = M 87 w) ∨ (ke = M 87 w ∧ lo = M 87 v)) → (lo ≠ 16) → (∀ a, a ≠ 87 → M' a = zset M 79 3 (zor (M 79 3) (zshl 1 l)) a) → (∀ x, 0 ≤ x → x < 16 → M' 87 x = if M 87 x = lo then ke else M 87 x) → Q 0 M') : zF 35 Q [(2, 78), (0, l), (0, s)] M := by
  have loop : ∀ (ke lo : Int), ¬ M 87 v = M 87 w → ((ke = M 87 v ∧ lo = M 87 w) ∨ (ke = M 87 w ∧ lo = M 87 v)) → lo ≠ 16 → ke ≠ lo → ∀ (n k : Nat) (M' : zM), k + n = 16 → (∀ a, a ≠ 87 → M' a = zset M 79 3 (zor (M 79 3) (zshl 1 l)) a) → (∀ x, 0 ≤ x → x < (k : Int) → M' 87 x = if M 87 x = lo then ke else M 87 x) → (∀ x, (k : Int) ≤ x → x < 16 → M' 87 x = M 87 x) → zS 35 Q 82 [(2, 78), (0, l), (0, s), (0, ke), (0, lo), (0, (k : Int))] [] M' := by
    intro ke lo y1 y2 y3 y4 n
    induction n with
    | zero =>
      intro k M' hk a1 a2 a3
      exact s35_82 ⟨fun _ => h1 M' ke lo y1 y2 y3 a1 (fun x x0 x1 => a2 x x0 (by omega)), fun q => by omega⟩
    | succ n ih =>
      intro k M' hk a1 a2 a3
      refine s35_82 ⟨fun q => by omega, fun _ => ⟨by omega, fun q => ?_, fun q => ?_⟩⟩
      · rw [zw_id (by omega)]
        refine ih (k + 1) M' (by omega) a1 (fun x x0 x1 => ?_) (fun x x0 x1 => a3 x (by omega) x1)
        by_cases e : x = (k : Int)
        · have e3 := a3 x (by omega) (by omega)
          rw [e3, if_neg]
          rw [e] at e3 ⊢
          rw [e3] at q
          exact q
        · exact a2 x x0 (by omega)
      · rw [zw_id (by omega)]
        refine ih (k + 1) _ (by omega) (fun a ha => by rw [zrow_o _ ha]; exact a1 a ha) (fun x x0 x1 => ?_) (fun x x0 x1 => by rw [zrow_s, fset_o _ (by omega)]; exact a3 x (by omega) x1)
        rw [zrow_s]
        by_cases e : x = (k : Int)
        · rw [e, fset_s, if_pos]
          rw [a3 (k : Int) (by omega) (by omega)] at q
          exact q
        · rw [fset_o _ e]; exact a2 x x0 (by omega)
  have o3 : ∀ x, zset M 79 3 (zor (M 79 3) (zshl 1 l)) 87 x = M 87 x := fun x => by rw [zrow_o _ (by decide)]
  refine s35_0 ⟨hl, by rw [hv]; exact hvb, by rw [hw]; exact hwb, ?_⟩
  rw [hv, hw]
  refine ⟨fun q => ⟨fun q2 => ?_, fun q2 => ?_⟩, fun q => ⟨fun q2 => ?_, fun q2 => ?_⟩⟩
  · exact loop _ _ q (Or.inl ⟨rfl, rfl⟩) q2 q 16 0 _ (by omega) (fun _ _ => rfl) (fun x a b => by omega) (fun x a b => o3 x)
  · exact loop _ _ q (Or.inr ⟨q2.symm, rfl⟩) (fun z => q (by rw [z, q2])) (fun z => q (by rw [← z, q2])) 16 0 _ (by omega) (fun _ _ => rfl) (fun x a b => by omega) (fun x a b => o3 x)
  · have := h0 q
    rw [if_neg q2] at this
    have e : zset M 79 3 (zor (M 79 3) (zshl 1 l)) 78 6 = M 78 6 := by rw [zrow_o _ (by decide)]
    rw [← e] at this
    rw [zset_id] at this
    exact this
  · have := h0 q
    rw [if_pos q2] at this
    exact this
theorem pjo_79 {v w : Int} (h : zrP M P) : (∀ l, 0 ≤ l → l < M 79 2 → ¬ ((M (79 + 2) l = v ∧ M (79 + 3) l = w) ∨ (M (79 + 2) l = w ∧ M (79 + 3) l = v))) ↔ ¬ pjo P v w := by
  have e4 : M 79 = P 4 := h 4 (by omega) (by omega)
  have e6 : M (79 + 2) = P 6 := h 6 (by omega) (by omega)
  have e7 : M (79 + 3) = P 7 := h 7 (by omega) (by omega)
  rw [e4, e6, e7]
  exact ⟨fun z ⟨l, y1, y2⟩ => z l y1.1 y1.2 y2, fun z l l0 l1 y => z ⟨l, ⟨l0, l1⟩, y⟩⟩
set_option maxHeartbeats 1000000 in
theorem c34 {a1 : Int} {c : Prop} (ha : (a1 = 0 ∧ (c ↔ False)) ∨ (a1 = 1 ∧ (c ↔ True))) (h : zrd M P) (hp : M 78 5 < M 78 4)
    (h0 : ∀ q, pnl (pbt (M 3) (M 78 4)) (M 78 5) P c = (none, q) → (0 ≤ q ∧ q ≤ M 78 4) → Q 0 (zset M 78 5 q))
    (h1 : ∀ P' q M', pnl (pbt (M 3) (M 78 4)) (M 78 5) P c = (some P', q) → zrd M' P' → M' 78 5 = q → M 78 5 + 2 ≤ q → zri M M' → Q 1 M') : zF 34 Q [(2, 78), (0, a1)] M := by
  have e79 := zrd_79 h
  obtain ⟨hR, hP, hw, hg⟩ := h
  obtain ⟨r1, r2, r3, r4, r5⟩ := id hR
  have hbb : ∀ i, -1 ≤ pbt (M 3) (M 78 4) i ∧ pbt (M 3) (M 78 4) i ≤ 127 := fun i => pbt_b r5
  have hin : ∀ i, ¬ pbt (M 3) (M 78 4) i = -1 → 0 ≤ i ∧ i < M 78 4 := fun i z => pbt_in z
  have hfn : ∀ m i, i ≤ M 78 4 → (pfv (pbt (M 3) (M 78 4)) m i 0).2 ≤ M 78 4 := fun m i z => pfv_n z
  generalize hb : pbt (M 3) (M 78 4) = b at *
  generalize hpp : M 78 5 = p at *
  have e0 : zset M 78 5 p = M := by rw [← hpp]; exact zset_id M 78 5
  have e79q : ∀ q, zset M 78 5 q 79 = P 4 := fun q => by rw [zrow_o _ (by decide), e79]
  have hm := hw.1.1
  refine s34_0 ⟨fun q => ?_, fun q => ?_⟩
  · rw [e79] at q
    rw [hpp, zw_id (x := p + 1) (by omega)]
    have hq1 : 0 ≤ p + 1 ∧ p + 1 ≤ M 78 4 := by omega
    refine n38 hR hq1 ?_
    rw [hb]
    have b1 := hbb (p + 1)
    rw [zw_id (x := b (p + 1) - 97) (by omega)]
    refine c17 rfl (fun z => ⟨fun y => absurd rfl y, fun _ => ?_⟩) (fun z => ⟨fun _ => ?_, fun y => absurd y (by decide)⟩)
    · rw [e79q] at z
      have z : ¬ php P (b (p + 1) - 97) := z
      exact h0 (p + 1) (by unfold pnl; rw [cif_f (fun y => y q), cif_t z]) hq1
    · rw [e79q] at z
      have hv : php P (b (p + 1) - 97) := z
      rw [zra_5, zset_zset, zw_id (x := p + 1 + 1) (by omega), show p + 1 + 1 = p + 2 by omega]
      have i1 := hin (p + 1) (by have := hv.1; omega)
      have hq2 : 0 ≤ p + 2 ∧ p + 2 ≤ M 78 4 := by omega
      refine n38 hR hq2 ?_
      rw [hb]
      have b2 := hbb (p + 2)
      rw [zw_id (x := b (p + 2) - 97) (by omega)]
      have bad2 : ¬ (php P (b (p + 2) - 97) ∧ ¬ b (p + 2) - 97 = b (p + 1) - 97 ∧ ¬ pjo P (b (p + 1) - 97) (b (p + 2) - 97)) → Q 0 (zset M 78 5 (p + 2)) := fun y => h0 (p + 2) (by unfold pnl; rw [cif_f (fun y => y q), cif_f (fun y => y hv), cif_t y]) hq2
      refine c17 rfl (fun z2 => ⟨fun _ => bad2 (fun y => ?_), fun y => absurd rfl y⟩) (fun z2 => ⟨fun y => absurd y (by decide), fun _ => ⟨fun z3 => bad2 (fun y => y.2.1 z3), fun z3 => ?_⟩⟩)
      · rw [e79q] at z2; exact z2 y.1
      · rw [e79q] at z2
        have hw2 : php P (b (p + 2) - 97) := z2
        have hPq : zrP (zset M 78 5 (p + 2)) P := zrP_o hP (fun a p q => zrow_o _ (by omega))
        refine c23 rfl (by rw [e79q]; exact hm) (fun z4 => ⟨fun _ => ?_, fun y => absurd rfl y⟩) (fun l l0 l1 z4 _ => ⟨fun y => by omega, fun _ => bad2 (fun y => ?_)⟩)
        · have hj := (pjo_79 hPq).mp z4
          have ok2 : ¬ ¬ (php P (b (p + 2) - 97) ∧ ¬ b (p + 2) - 97 = b (p + 1) - 97 ∧ ¬ pjo P (b (p + 1) - 97) (b (p + 2) - 97)) := fun y => y ⟨hw2, z3, hj⟩
          rw [zra_5, zset_zset, zw_id (x := p + 2 + 1) (by omega), show p + 2 + 1 = p + 3 by omega]
          have i2 := hin (p + 2) (by have := hw2.1; omega)
          have hq3 : 0 ≤ p + 3 ∧ p + 3 ≤ M 78 4 := by omega
          refine n38 hR hq3 ?_
          rw [hb]
          have bad3 : (b (p + 3) = 48 ∨ ¬ pdg (b (p + 3))) → Q 0 (zset M 78 5 (p + 3)) := fun y => h0 (p + 3) (by unfold pnl; rw [cif_f (fun y => y q), cif_f (fun y => y hv), cif_f ok2, cif_t y]) hq3
          refine ⟨fun z5 => n36 (m := 2) hR hq3 (Or.inl rfl) (fun d => ⟨fun _ => bad3 (Or.inr (by rw [hb] at d; exact d)), fun y => absurd rfl y⟩) (fun d => ?_), fun z5 => bad3 (Or.inl z5)⟩
          rw [hb] at d ⊢
          have ok3 : ¬ (b (p + 3) = 48 ∨ ¬ pdg (b (p + 3))) := fun y => y.elim z5 (fun x => x d)
          have fb := pfv_b (b := b) (m := 2) (p := p + 3) (v := 0) (by omega)
          have fn := hfn 2 (p + 3) hq3.2
          have fr1 : 1 ≤ (pfv b 2 (p + 3) 0).1 := by
            rw [pfv_s, cif_t d]
            unfold pdg at d
            have := pfv_b (b := b) (m := 1) (p := p + 3 + 1) (v := 10 * 0 + b (p + 3) - 48) (by omega)
            omega
          generalize hrq : (pfv b 2 (p + 3) 0).2 = q4 at *
          generalize hrv : (pfv b 2 (p + 3) 0).1 = rr at *
          refine ⟨fun y => by omega, fun _ => n37 hR (by omega) (by omega) (fun d2 => ⟨fun y => absurd rfl y, fun _ => ?_⟩) (fun d2 d3 => ⟨fun _ => ?_, fun y => absurd y (by decide)⟩)⟩
          · rw [hb] at d2
            exact h0 q4 (by unfold pnl; rw [cif_f (fun y => y q), cif_f (fun y => y hv), cif_f ok2, cif_f ok3, hrq, cif_t d2]) (by omega)
          · rw [hb] at d2
            have hq5 : 0 ≤ q4 + 1 ∧ q4 + 1 ≤ M 78 4 := by omega
            refine n36 (m := 3) hR hq5 (Or.inr rfl) (fun d4 => ⟨fun _ => ?_, fun y => absurd rfl y⟩) (fun d4 => ?_)
            · rw [hb] at d4
              exact h0 (q4 + 1) (by unfold pnl; rw [cif_f (fun y => y q), cif_f (fun y => y hv), cif_f ok2, cif_f ok3, hrq, cif_f (fun y => y d2), cif_t d4]) hq5
            · rw [hb] at d4 ⊢
              have gb := pfv_b (b := b) (m := 3) (p := q4 + 1) (v := 0) (by omega)
              have gn := hfn 3 (q4 + 1) hq5.2
              generalize hlq : (pfv b 3 (q4 + 1) 0).2 = q6 at *
              generalize hlv : (pfv b 3 (q4 + 1) 0).1 = mm at *
              refine ⟨fun y => by omega, fun _ => n37 hR (by omega) (by omega) (fun d5 => ⟨fun y => absurd rfl y, fun _ => ?_⟩) (fun d5 d6 => ⟨fun _ => ⟨by rw [e79]; omega, ?_⟩, fun y => absurd y (by decide)⟩)⟩
              · rw [hb] at d5
                exact h0 q6 (by unfold pnl; rw [cif_f (fun y => y q), cif_f (fun y => y hv), cif_f ok2, cif_f ok3, hrq, cif_f (fun y => y d2), cif_f (fun y => y d4), hlq, cif_t d5]) (by omega)
              · rw [hb] at d5
                have hpn : pnl b p P c = (some (paL P (b (p + 1) - 97) (b (p + 2) - 97) rr mm p c), q6 + 1) := by
                  unfold pnl; rw [cif_f (fun y => y q), cif_f (fun y => y hv), cif_f ok2, cif_f ok3, hrq, cif_f (fun y => y d2), cif_f (fun y => y d4), hlq, cif_f (fun y => y d5), hrv, hlv]
                have hwf : pwf (paL P (b (p + 1) - 97) (b (p + 2) - 97) rr mm p c) := paL_wf hw q hv hw2 z3 (by omega) (by omega) (by omega)
                rw [e79, zw_id (x := P 4 2 + 1) (by omega)]
                generalize hM1 : zset (zset (zset (zset (zset (zset M 78 5 (q6 + 1)) 81 (P 4 2) (b (p + 1) - 97)) 82 (P 4 2) (b (p + 2) - 97)) 83 (P 4 2) rr) 84 (P 4 2) mm) 79 2 (P 4 2 + 1) = M1
                have s78 : M1 78 = fset (M 78) 5 (q6 + 1) := by rw [← hM1, zrow_o _ (by decide), zrow_o _ (by decide), zrow_o _ (by decide), zrow_o _ (by decide), zrow_o _ (by decide), zrow_s]
                have s79 : M1 79 = fset (P 4) 2 (P 4 2 + 1) := by rw [← hM1, zrow_s, zrow_o _ (by decide), zrow_o _ (by decide), zrow_o _ (by decide), zrow_o _ (by decide), zrow_o _ (by decide), e79]
                have s80 : M1 80 = P 5 := by rw [← hM1, zrow_o _ (by decide), zrow_o _ (by decide), zrow_o _ (by decide), zrow_o _ (by decide), zrow_o _ (by decide), zrow_o _ (by decide)]; exact hP 5 (by omega) (by omega)
                have s81 : M1 81 = fset (P 6) (P 4 2) (b (p + 1) - 97) := by rw [← hM1, zrow_o _ (by decide), zrow_o _ (by decide), zrow_o _ (by decide), zrow_o _ (by decide), zrow_s, zrow_o _ (by decide), show M 81 = P 6 from hP 6 (by omega) (by omega)]
                have s82 : M1 82 = fset (P 7) (P 4 2) (b (p + 2) - 97) := by rw [← hM1, zrow_o _ (by decide), zrow_o _ (by decide), zrow_o _ (by decide), zrow_s, zrow_o _ (by decide), zrow_o _ (by decide), show M 82 = P 7 from hP 7 (by omega) (by omega)]
                have s83 : M1 83 = fset (P 8) (P 4 2) rr := by rw [← hM1, zrow_o _ (by decide), zrow_o _ (by decide), zrow_s, zrow_o _ (by decide), zrow_o _ (by decide), zrow_o _ (by decide), show M 83 = P 8 from hP 8 (by omega) (by omega)]
                have s84 : M1 84 = fset (P 9) (P 4 2) mm := by rw [← hM1, zrow_o _ (by decide), zrow_s, zrow_o _ (by decide), zrow_o _ (by decide), zrow_o _ (by decide), zrow_o _ (by decide), show M 84 = P 9 from hP 9 (by omega) (by omega)]
                have s87 : M1 87 = M 87 := by rw [← hM1, zrow_o _ (by decide), zrow_o _ (by decide), zrow_o _ (by decide), zrow_o _ (by decide), zrow_o _ (by decide), zrow_o _ (by decide)]
                have s3 : M1 3 = M 3 := by rw [← hM1, zrow_o _ (by decide), zrow_o _ (by decide), zrow_o _ (by decide), zrow_o _ (by decide), zrow_o _ (by decide), zrow_o _ (by decide)]
                have fr : zfm 78 87 M M1 := by rw [← hM1]; exact zfm_s (zfm_s (zfm_s (zfm_s (zfm_s (zfm_s zfm_r (by omega)) (by omega)) (by omega)) (by omega)) (by omega)) (by omega)
                have fin : ∀ M2, zfm 78 87 M1 M2 → (∀ j, j ≠ 6 → M2 78 j = M1 78 j) → (∀ a, 80 ≤ a → a ≤ 84 → M2 a = M1 a) → M2 79 = fset (M1 79) 3 (cif c (zor (P 4 3) (zshl 1 (P 4 2))) (P 4 3)) → pgi (paL P (b (p + 1) - 97) (b (p + 2) - 97) rr mm p c) (M2 87) (M2 78 6) → Q 1 M2 := fun M2 y1 y2 y3 y4 y5 => by
                  refine h1 _ (q6 + 1) M2 hpn ⟨?_, fun a x1 x2 => ?_, hwf, y5⟩ (by rw [y2 5 (by decide), s78, fset_s]) (by omega) ⟨zfm_t fr y1, by rw [y2 1 (by decide), s78, fset_o _ (by decide)], by rw [y2 3 (by decide), s78, fset_o _ (by decide)], by rw [y2 4 (by decide), s78, fset_o _ (by decide)]⟩
                  · refine zra_cg (zra_s (q := q6 + 1) hR (by omega)) ?_ ?_ ?_ ?_
                    · rw [zfm_row y1 (by omega), s3, zrow_o _ (by decide)]
                    · rw [y2 3 (by decide), s78, zrow_s]
                    · rw [y2 4 (by decide), s78, zrow_s]
                    · rw [y2 5 (by decide), s78, zrow_s]
                  · have ca : a = 4 ∨ a = 5 ∨ a = 6 ∨ a = 7 ∨ a = 8 ∨ a = 9 := by omega
                    rcases ca with e | e | e | e | e | e <;> subst e
                    · show M2 79 = _
                      rw [y4, s79, paL_4]
                      funext j
                      unfold fset
                      by_cases j3 : j = 3
                      · simp [j3]
                      · simp [j3]
                    · show M2 80 = _
                      rw [y3 80 (by omega) (by omega), s80, paL_5]
                    · show M2 81 = _
                      rw [y3 81 (by omega) (by omega), s81, paL_6]
                    · show M2 82 = _
                      rw [y3 82 (by omega) (by omega), s82, paL_7]
                    · show M2 83 = _
                      rw [y3 83 (by omega) (by omega), s83, paL_8]
                    · show M2 84 = _
                      rw [y3 84 (by omega) (by omega), s84, paL_9]
                refine ⟨fun ya => ?_, fun ya => ?_⟩
                · have hcF : c = False := propext (by rcases ha with x | x; exact x.2; omega)
                  refine fin M1 zfm_r (fun _ _ => rfl) (fun _ _ _ => rfl) ?_ ?_
                  · rw [hcF, cif_f (fun z => z), s79]
                    funext j
                    unfold fset
                    by_cases j3 : j = 3
                    · simp [j3]
                    · simp [j3]
                  · rw [s87, s78, fset_o _ (by decide), hcF]
                    exact pgi_open hw hg q
                · have hcT : c = True := propext (by rcases ha with x | x; omega; exact x.2)
                  have e43 : M1 79 3 = P 4 3 := by rw [s79, fset_o _ (by decide)]
                  refine c35 (v := b (p + 1) - 97) (w := b (p + 2) - 97) (by omega) (by rw [s81, fset_s]) (by rw [s82, fset_s]) hv.1 hw2.1 (fun y => ?_) (fun M2 ke lo y1 y2 y3 y4 y5 => ?_)
                  · rw [s87] at y
                    have e786 : M1 78 6 = M 78 6 := by rw [s78, fset_o _ (by decide)]
                    rw [e43, e786]
                    refine fin _ (zfm_s (zfm_s zfm_r (by omega)) (by omega)) (fun j hj => by rw [zrow_s, fset_o _ hj, zrow_o _ (by decide)]) (fun a x1 x2 => by rw [zrow_o _ (by omega), zrow_o _ (by omega)]) ?_ ?_
                    · rw [zrow_o _ (by decide), zrow_s, cif_t (by rw [hcT]; trivial)]
                    · rw [zrow_o _ (by decide), zrow_o _ (by decide), s87, zrow_s, fset_s, hcT]
                      exact pgi_ring hw hg q hv hw2 (by omega) y
                  · rw [s87] at y1 y2 y5
                    rw [e43] at y4
                    refine fin M2 (fun a i x => ?_) (fun j hj => ?_) (fun a x1 x2 => ?_) ?_ ?_
                    · rw [y4 a (by omega), zrow_o _ (by omega)]
                    · rw [y4 78 (by decide), zrow_o _ (by decide)]
                    · rw [y4 a (by omega), zrow_o _ (by omega)]
                    · rw [y4 79 (by decide), zrow_s, cif_t (by rw [hcT]; trivial)]
                    · have e786 : M2 78 6 = M 78 6 := by rw [y4 78 (by decide), zrow_o _ (by decide), s78, fset_o _ (by decide)]
                      rw [e786, hcT]
                      exact pgi_join hw hg q hv hw2 y1 y2 y3 y5
        · refine y.2.2 ?_
          have := pjo_79 (v := b (p + 1) - 97) (w := b (p + 2) - 97) hPq
          exact Classical.byContradiction fun x => this.mpr x l l0 l1 z4
  · rw [e79] at q
    have := h0 p (by unfold pnl; rw [cif_t q]) (by omega)
    rw [e0] at this; exact this
theorem c31 (h : zrd M P) (hp : M 78 5 < M 78 4)
    (h0 : ∀ q, pit (pbt (M 3) (M 78 4)) (M 78 5) P = (none, q) → (0 ≤ q ∧ q ≤ M 78 4) → Q 0 (zset M 78 5 q))
    (h1 : ∀ P' q M', pit (pbt (M 3) (M 78 4)) (M 78 5) P = (some P', q) → zrd M' P' → M' 78 5 = q → M 78 5 + 2 ≤ q → zri M M' → Q 1 M') : zF 31 Q [(2, 78)] M := by
  have hb := pbt_b (p := M 78 5) h.1.2.2.2.2
  refine s31_0 (c38 h.1 ⟨fun q => ?_, fun q => ⟨fun q2 => ?_, fun q2 => ?_⟩⟩)
  · have e : pit (pbt (M 3) (M 78 4)) (M 78 5) P = pnl (pbt (M 3) (M 78 4)) (M 78 5) P True := by unfold pit; rw [cif_t q]
    rw [e] at h0 h1
    exact c34 (Or.inr ⟨rfl, Iff.rfl⟩) h hp (fun q a b => ⟨Or.inl rfl, h0 q a b⟩) (fun P' q M' a b c d f => ⟨Or.inr rfl, h1 P' q M' a b c d f⟩)
  · have e : pit (pbt (M 3) (M 78 4)) (M 78 5) P = ppl (pbt (M 3) (M 78 4)) (M 78 5) P := by unfold pit; rw [cif_f q, cif_f q2]
    rw [e] at h0 h1
    rw [zw_id (by omega)]
    exact c32 h hp q (fun q a b => ⟨Or.inl rfl, h0 q a b⟩) (fun P' q M' a b c d f => ⟨Or.inr rfl, h1 P' q M' a b c d f⟩)
  · have e : pit (pbt (M 3) (M 78 4)) (M 78 5) P = pnl (pbt (M 3) (M 78 4)) (M 78 5) P False := by unfold pit; rw [cif_f q, cif_t q2]
    rw [e] at h0 h1
    exact c34 (Or.inl ⟨rfl, Iff.rfl⟩) h hp (fun q a b => ⟨Or.inl rfl, h0 q a b⟩) (fun P' q M' a b c d f => ⟨Or.inr rfl, h1 P' q M' a b c d f⟩)
end RJ
