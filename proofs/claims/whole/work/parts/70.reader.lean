/-! the class's reader: items -/
def zrP (M P : zM) : Prop := ∀ a, 4 ≤ a → a ≤ 9 → M (a + 75) = P a
def zrd (M P : zM) : Prop := zra M ∧ zrP M P ∧ pwf P ∧ pgi P (M 87) (M 78 6)
def zri (M M' : zM) : Prop := zfm 78 87 M M' ∧ M' 78 1 = M 78 1 ∧ M' 78 3 = M 78 3 ∧ M' 78 4 = M 78 4
section RI
variable {Q : Int → zM → Prop} {M P : zM}
theorem n38 {q : Int} (hR : zra M) (hq : 0 ≤ q ∧ q ≤ M 78 4) (hQ : Q (pbt (M 3) (M 78 4) q) (zset M 78 5 q)) : zF 38 Q [(2, 78)] (zset M 78 5 q) := by
  refine c38 (zra_s hR hq) ?_
  rw [zra_b, zra_5]; exact hQ
theorem n37 {q c : Int} (hR : zra M) (hq : 0 ≤ q ∧ q ≤ M 78 4) (hc : 0 ≤ c) (h0 : ¬ pbt (M 3) (M 78 4) q = c → Q 0 (zset M 78 5 q)) (h1 : pbt (M 3) (M 78 4) q = c → q + 1 ≤ M 78 4 → Q 1 (zset M 78 5 (q + 1))) : zF 37 Q [(2, 78), (0, c)] (zset M 78 5 q) := by
  refine c37 (zra_s hR hq) hc ?_ ?_
  · rw [zra_b, zra_5]; exact h0
  · rw [zra_b, zra_5, zset_zset]
    intro e _
    have := pbt_in (t := M 3) (n := M 78 4) (p := q) (by omega)
    exact h1 e (by omega)
theorem n36 {q : Int} {m : Nat} (hR : zra M) (hq : 0 ≤ q ∧ q ≤ M 78 4) (hm : m = 2 ∨ m = 3) (h0 : ¬ pdg (pbt (M 3) (M 78 4) q) → Q (-1) (zset M 78 5 q)) (h1 : pdg (pbt (M 3) (M 78 4) q) → Q (pfv (pbt (M 3) (M 78 4)) m q 0).1 (zset M 78 5 (pfv (pbt (M 3) (M 78 4)) m q 0).2)) : zF 36 Q [(2, 78), (0, (m : Int))] (zset M 78 5 q) := by
  refine c36 (zra_s hR hq) hm ?_ ?_
  · rw [zra_b, zra_5]; exact h0
  · rw [zra_b, zra_5, zset_zset]
    intro e _
    exact h1 e
theorem c33 {v : Int} (hf : 0 ≤ M 79 1 ∧ M 79 1 < 16777216) (hv : 0 ≤ v ∧ v < 16) (h0 : ¬ pcard (M 79 1) < 4 → Q 0 M) (h1 : pcard (M 79 1) < 4 → Q 1 (zset (zset (zset (zset M 78 5 (zw (M 78 5 + 1))) 79 0 (zor (M 79 0) (zshl 1 v))) 79 1 (zor (M 79 1) (zshl 1 v))) 87 v 16)) : zF 33 Q [(2, 78), (0, v)] M := by
  obtain ⟨x, hx⟩ : ∃ x : Nat, M 79 1 = x := ⟨(M 79 1).toNat, by omega⟩
  have hb : ((bct x 24 : Nat) : Int) = pcard (M 79 1) := by rw [bct_sum 24 (by omega), hx]; rfl
  refine s33_0 ?_
  rw [hx]
  refine c164 (by omega) ?_
  rw [hb]
  exact ⟨fun q => ⟨hv, h1 q⟩, fun q => h0 q⟩
theorem zrd_79 (h : zrd M P) : M 79 = P 4 := by have := h.2.1 4 (by omega) (by omega); exact this
theorem zrP_o {M' : zM} (h : zrP M P) (ho : ∀ a, 79 ≤ a → a ≤ 84 → M' a = M a) : zrP M' P := fun a p q => by rw [ho (a + 75) (by omega) (by omega)]; exact h a p q
theorem zrP_s {a i x : Int} (h : zrP M P) (ha : 4 ≤ a ∧ a ≤ 9) : zrP (zset M (a + 75) i x) (zset P a i x) := fun b p q => by
  by_cases e : b = a
  · rw [e, zrow_s, zrow_s, h a ha.1 ha.2]
  · rw [zrow_o _ (by omega), zrow_o _ e]; exact h b p q
theorem zrP_g {a i x : Int} (h : zrP M P) (ha : ¬ (4 ≤ a ∧ a ≤ 9)) : zrP M (zset P a i x) := fun b p q => by rw [zrow_o _ (by omega)]; exact h b p q
theorem pwf_mask (h : pwf P) : 0 ≤ P 4 1 ∧ P 4 1 < 16777216 := tbs_nn h.2.2.1.2.1 (fun i hi => by have := h.1.2.1 i (h.1.2.2.1 i hi); omega)
theorem pwf_place {v : Int} (h : pwf P) (hv : 0 ≤ v ∧ v < 16) : (∀ i, tbs (zor (P 4 0) (zshl 1 v)) i → i < 16) := fun i hi => by
  rcases (tbs_or1 (by omega)).mp hi with q | q
  · exact h.1.2.1 i q
  · omega
theorem pwf_cust {v x : Int} (h : pwf P) (hv : 0 ≤ v ∧ v < 16) (hn : ¬ tbs (P 4 0) v) (hx : 0 ≤ x ∧ x ≤ 99) : pwf (zset (zset P 4 0 (zor (P 4 0) (zshl 1 v))) 5 v x) := by
  generalize hP : zset (zset P 4 0 (zor (P 4 0) (zshl 1 v))) 5 v x = P'
  have r4 : P' 4 = fset (P 4) 0 (zor (P 4 0) (zshl 1 v)) := by rw [← hP, zrow_o _ (by decide), zrow_s]
  have r5 : P' 5 = fset (P 5) v x := by rw [← hP, zrow_s, zrow_o _ (by decide)]
  have o : ∀ a, a ≠ 4 → a ≠ 5 → P' a = P a := fun a p q => by rw [← hP, zrow_o _ q, zrow_o _ p]
  have e0 : P' 4 0 = zor (P 4 0) (zshl 1 v) := by rw [r4, fset_s]
  have e1 : P' 4 1 = P 4 1 := by rw [r4, fset_o _ (by decide)]
  have e2 : P' 4 2 = P 4 2 := by rw [r4, fset_o _ (by decide)]
  have e3 : P' 4 3 = P 4 3 := by rw [r4, fset_o _ (by decide)]
  have t0 : ∀ y, tbs (P' 4 0) y ↔ tbs (P 4 0) y ∨ y = v := fun y => by rw [e0, tbs_or1 (by omega)]
  obtain ⟨⟨w1, w2, w3, w4, w5⟩, w6, w7, w8⟩ := h
  refine ⟨⟨by rw [e2]; exact w1, fun y hy => ?_, fun y hy => ?_, fun y y0 y1 => ?_, fun l l0 l1 => ?_⟩, by rw [e2, e3]; exact w6, ⟨by rw [e0]; exact zor_r _ _, by rw [e1]; exact w7.2.1, by rw [e3]; exact w7.2.2⟩, by rw [e2, o 20 (by decide) (by decide)]; exact w8⟩
  · rcases (t0 y).mp hy with q | q
    · exact w2 y q
    · omega
  · rw [e1] at hy; exact (t0 y).mpr (Or.inl (w3 y hy))
  · rw [r5, e1]
    by_cases e : y = v
    · rw [e, fset_s]
      exact ⟨hx, fun z => absurd (w3 v z) hn, fun z => absurd ((t0 v).mpr (Or.inr rfl)) z⟩
    · rw [fset_o _ e]
      have := w4 y y0 y1
      exact ⟨this.1, this.2.1, fun z => this.2.2 (fun z2 => z ((t0 y).mpr (Or.inl z2)))⟩
  · rw [e2] at l1
    rw [o 6 (by decide) (by decide), o 7 (by decide) (by decide), o 8 (by decide) (by decide), o 9 (by decide) (by decide)]
    obtain ⟨⟨a1, a2, a3, a4, a5⟩, a6⟩ := w5 l l0 l1
    exact ⟨⟨a1, a2, a3, (t0 _).mpr (Or.inl a4), (t0 _).mpr (Or.inl a5)⟩, a6⟩
theorem pwf_feed {v : Int} (h : pwf P) (hv : 0 ≤ v ∧ v < 16) (hn : ¬ tbs (P 4 0) v) : pwf (zset (zset P 4 0 (zor (P 4 0) (zshl 1 v))) 4 1 (zor (P 4 1) (zshl 1 v))) := by
  generalize hP : zset (zset P 4 0 (zor (P 4 0) (zshl 1 v))) 4 1 (zor (P 4 1) (zshl 1 v)) = P'
  have r4 : P' 4 = fset (fset (P 4) 0 (zor (P 4 0) (zshl 1 v))) 1 (zor (P 4 1) (zshl 1 v)) := by rw [← hP, zrow_s, zrow_s]
  have o : ∀ a, a ≠ 4 → P' a = P a := fun a p => by rw [← hP, zrow_o _ p, zrow_o _ p]
  have e0 : P' 4 0 = zor (P 4 0) (zshl 1 v) := by rw [r4, fset_o _ (by decide), fset_s]
  have e1 : P' 4 1 = zor (P 4 1) (zshl 1 v) := by rw [r4, fset_s]
  have e2 : P' 4 2 = P 4 2 := by rw [r4, fset_o _ (by decide), fset_o _ (by decide)]
  have e3 : P' 4 3 = P 4 3 := by rw [r4, fset_o _ (by decide), fset_o _ (by decide)]
  have t0 : ∀ y, tbs (P' 4 0) y ↔ tbs (P 4 0) y ∨ y = v := fun y => by rw [e0, tbs_or1 (by omega)]
  have t1 : ∀ y, tbs (P' 4 1) y ↔ tbs (P 4 1) y ∨ y = v := fun y => by rw [e1, tbs_or1 (by omega)]
  obtain ⟨⟨w1, w2, w3, w4, w5⟩, w6, w7, w8⟩ := h
  refine ⟨⟨by rw [e2]; exact w1, fun y hy => ?_, fun y hy => ?_, fun y y0 y1 => ?_, fun l l0 l1 => ?_⟩, by rw [e2, e3]; exact w6, ⟨by rw [e0]; exact zor_r _ _, by rw [e1]; exact zor_r _ _, by rw [e3]; exact w7.2.2⟩, by rw [e2, o 20 (by decide)]; exact w8⟩
  · rcases (t0 y).mp hy with q | q
    · exact w2 y q
    · omega
  · rcases (t1 y).mp hy with q | q
    · exact (t0 y).mpr (Or.inl (w3 y q))
    · exact (t0 y).mpr (Or.inr q)
  · rw [o 5 (by decide)]
    have := w4 y y0 y1
    refine ⟨this.1, fun z => ?_, fun z => this.2.2 (fun z2 => z ((t0 y).mpr (Or.inl z2)))⟩
    rcases (t1 y).mp z with q | q
    · exact this.2.1 q
    · exact this.2.2 (by rw [q]; exact hn)
  · rw [e2] at l1
    rw [o 6 (by decide), o 7 (by decide), o 8 (by decide), o 9 (by decide)]
    obtain ⟨⟨a1, a2, a3, a4, a5⟩, a6⟩ := w5 l l0 l1
    exact ⟨⟨a1, a2, a3, (t0 _).mpr (Or.inl a4), (t0 _).mpr (Or.inl a5)⟩, a6⟩
theorem zra_cg {M' : zM} (h : zra M) (h3 : M' 3 = M 3) (h783 : M' 78 3 = M 78 3) (h784 : M' 78 4 = M 78 4) (h785 : M' 78 5 = M 78 5) : zra M' := by
  unfold zra; rw [h3, h783, h784, h785]; exact h
theorem c32 (h : zrd M P) (hp : M 78 5 < M 78 4) (h43 : ¬ pbt (M 3) (M 78 4) (M 78 5) = 43)
    (h0 : ∀ q, ppl (pbt (M 3) (M 78 4)) (M 78 5) P = (none, q) → (0 ≤ q ∧ q ≤ M 78 4) → Q 0 (zset M 78 5 q))
    (h1 : ∀ P' q M', ppl (pbt (M 3) (M 78 4)) (M 78 5) P = (some P', q) → zrd M' P' → M' 78 5 = q → M 78 5 + 2 ≤ q → zri M M' → Q 1 M') : zF 32 Q [(2, 78), (0, pbt (M 3) (M 78 4) (M 78 5) - 97)] M := by
  have e79 := zrd_79 h
  obtain ⟨hR, hP, hw, hg⟩ := h
  obtain ⟨r1, r2, r3, r4, r5⟩ := id hR
  generalize hb : pbt (M 3) (M 78 4) = b at *
  generalize hpp : M 78 5 = p at *
  have e0 : zset M 78 5 p = M := by rw [← hpp]; exact zset_id M 78 5
  have fail0 : ¬ ((0 ≤ b p - 97 ∧ b p - 97 < 16) ∧ ¬ tbs (P 4 0) (b p - 97)) → Q 0 M := fun z => by
    have := h0 p (by unfold ppl; rw [cif_t z]) (by omega)
    rw [e0] at this; exact this
  refine s32_0 ⟨fun q => fail0 (fun z => by omega), fun q => ⟨fun q2 => fail0 (fun z => by omega), fun q2 => c17 rfl (fun z => ⟨fun _ => ?_, fun y => absurd rfl y⟩) (fun z => ⟨fun y => absurd y (by decide), fun _ => fail0 (fun y => ?_)⟩)⟩⟩
  · rw [e79] at z
    have hv : (0 ≤ b p - 97 ∧ b p - 97 < 16) ∧ ¬ tbs (P 4 0) (b p - 97) := ⟨by omega, fun y => z ⟨by omega, y⟩⟩
    have hv' : ¬ ¬ ((0 ≤ b p - 97 ∧ b p - 97 < 16) ∧ ¬ tbs (P 4 0) (b p - 97)) := fun y => y hv
    rw [hpp, zw_id (by omega)]
    have hq1 : 0 ≤ p + 1 ∧ p + 1 ≤ M 78 4 := by omega
    refine n38 hR hq1 ?_
    rw [hb]
    refine ⟨fun q3 => ?_, fun q3 => ?_⟩
    · refine n36 (m := 2) hR hq1 (Or.inl rfl) (fun d => ⟨fun _ => ?_, fun y => absurd rfl y⟩) (fun d => ?_)
      · rw [hb] at d
        exact h0 (p + 1) (by unfold ppl; rw [cif_f hv', cif_f q3, cif_t d]) hq1
      · rw [hb] at d ⊢
        have fb := pfv_b (b := b) (m := 2) (p := p + 1) (v := 0) (by omega)
        have fn : (pfv b 2 (p + 1) 0).2 ≤ M 78 4 := by rw [← hb]; exact pfv_n hq1.2
        refine ⟨fun y => by omega, fun _ => n37 hR (by omega) (by omega) (fun d2 => ⟨fun y => absurd rfl y, fun _ => ?_⟩) (fun d2 d3 => ⟨fun _ => ⟨by omega, ?_⟩, fun y => absurd y (by decide)⟩)⟩
        · rw [hb] at d2
          exact h0 _ (by unfold ppl; rw [cif_f hv', cif_f q3, cif_f (fun y => y d), cif_f d2]) (by omega)
        · rw [hb] at d2
          generalize hx : (pfv b 2 (p + 1) 0).1 = x at *
          generalize hqq : (pfv b 2 (p + 1) 0).2 = qq at *
          have e790 : zset M 78 5 (qq + 1) 79 0 = P 4 0 := by rw [zrow_o _ (by decide), e79]
          rw [e790]
          generalize hM' : zset (zset (zset (zset M 78 5 (qq + 1)) 79 0 (zor (P 4 0) (zshl 1 (b p - 97)))) 80 (b p - 97) x) 87 (b p - 97) (b p - 97) = M'
          have r78 : M' 78 = fset (M 78) 5 (qq + 1) := by rw [← hM', zrow_o _ (by decide), zrow_o _ (by decide), zrow_o _ (by decide), zrow_s]
          have r87 : M' 87 = fset (M 87) (b p - 97) (b p - 97) := by rw [← hM', zrow_s, zrow_o _ (by decide), zrow_o _ (by decide), zrow_o _ (by decide)]
          have r3' : M' 3 = M 3 := by rw [← hM', zrow_o _ (by decide), zrow_o _ (by decide), zrow_o _ (by decide), zrow_o _ (by decide)]
          have fr : zfm 78 87 M M' := by rw [← hM']; exact zfm_s (zfm_s (zfm_s (zfm_s zfm_r (by omega)) (by omega)) (by omega)) (by omega)
          refine h1 _ (qq + 1) M' (by unfold ppl; rw [cif_f hv', cif_f q3, cif_f (fun y => y d), hqq, hx, cif_t d2]) ⟨?_, ?_, pwf_cust hw hv.1 hv.2 (by omega), ?_⟩ (by rw [r78, fset_s]) (by omega) ⟨fr, by rw [r78, fset_o _ (by decide)], by rw [r78, fset_o _ (by decide)], by rw [r78, fset_o _ (by decide)]⟩
          · refine zra_cg (zra_s (q := qq + 1) hR (by omega)) ?_ ?_ ?_ ?_
            · rw [r3', zrow_o _ (by decide)]
            · rw [r78, zrow_s]
            · rw [r78, zrow_s]
            · rw [r78, zrow_s]
          · rw [← hM']
            refine zrP_o (M := zset (zset (zset M 78 5 (qq + 1)) 79 0 (zor (P 4 0) (zshl 1 (b p - 97)))) 80 (b p - 97) x) ?_ (fun a p q => zrow_o _ (by omega))
            exact zrP_s (a := 5) (zrP_s (a := 4) (zrP_o hP (fun a p q => zrow_o _ (by omega))) (by omega)) (by omega)
          · rw [r87, r78, fset_o _ (by decide)]
            exact pgi_cust hw hg hv.1 hv.2
    · have r791 : zset M 78 5 (p + 1) 79 = P 4 := by rw [zrow_o _ (by decide), e79]
      refine c33 (by rw [r791]; exact pwf_mask hw) hv.1 (fun d => ⟨Or.inl rfl, ?_⟩) (fun d => ⟨Or.inr rfl, ?_⟩)
      · rw [r791] at d
        exact h0 (p + 1) (by unfold ppl; rw [cif_f hv', cif_t q3, cif_f d]) hq1
      · rw [r791] at d
        have hi := pbt_in (t := M 3) (n := M 78 4) (p := p + 1) (by rw [hb, q3]; decide)
        rw [r791, zra_5, zset_zset, zw_id (by omega)]
        generalize hM' : zset (zset (zset (zset M 78 5 (p + 1 + 1)) 79 0 (zor (P 4 0) (zshl 1 (b p - 97)))) 79 1 (zor (P 4 1) (zshl 1 (b p - 97)))) 87 (b p - 97) 16 = M'
        have r78 : M' 78 = fset (M 78) 5 (p + 1 + 1) := by rw [← hM', zrow_o _ (by decide), zrow_o _ (by decide), zrow_o _ (by decide), zrow_s]
        have r87 : M' 87 = fset (M 87) (b p - 97) 16 := by rw [← hM', zrow_s, zrow_o _ (by decide), zrow_o _ (by decide), zrow_o _ (by decide)]
        have r3' : M' 3 = M 3 := by rw [← hM', zrow_o _ (by decide), zrow_o _ (by decide), zrow_o _ (by decide), zrow_o _ (by decide)]
        have fr : zfm 78 87 M M' := by rw [← hM']; exact zfm_s (zfm_s (zfm_s (zfm_s zfm_r (by omega)) (by omega)) (by omega)) (by omega)
        refine h1 _ (p + 2) M' (by unfold ppl; rw [cif_f hv', cif_t q3, cif_t d]) ⟨?_, ?_, pwf_feed hw hv.1 hv.2, ?_⟩ (by rw [r78, fset_s]; omega) (by omega) ⟨fr, by rw [r78, fset_o _ (by decide)], by rw [r78, fset_o _ (by decide)], by rw [r78, fset_o _ (by decide)]⟩
        · refine zra_cg (zra_s (q := p + 1 + 1) hR (by omega)) ?_ ?_ ?_ ?_
          · rw [r3', zrow_o _ (by decide)]
          · rw [r78, zrow_s]
          · rw [r78, zrow_s]
          · rw [r78, zrow_s]
        · rw [← hM']
          refine zrP_o (M := zset (zset (zset M 78 5 (p + 1 + 1)) 79 0 (zor (P 4 0) (zshl 1 (b p - 97)))) 79 1 (zor (P 4 1) (zshl 1 (b p - 97)))) ?_ (fun a p q => zrow_o _ (by omega))
          exact zrP_s (a := 4) (zrP_s (a := 4) (zrP_o hP (fun a p q => zrow_o _ (by omega))) (by omega)) (by omega)
        · rw [r87, r78, fset_o _ (by decide)]
          exact pgi_feed hw hg hv.1 hv.2
  · rw [e79] at z
    exact y.2 z.2
end RI
