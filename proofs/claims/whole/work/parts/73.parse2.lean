/-! the class's reader: parse -/
def prn {α : Type} (r : Option zM × Int) (go : zM → Int → α) (fail : Int → α) : α := match r with
  | (some P, q) => go P q
  | (none, q) => fail q
noncomputable def prd (b : Int → Int) (n : Int) : Nat → Int → zM → Int → Int × zM × Int
  | 0, _, P, k => (-1, P, k)
  | f + 1, p, P, k => cif (p < n) (prn (pit b p P) (fun P' q => prd b n f q P' (k + 1)) (fun q => (q, P, k))) (-1, P, k)
theorem prd_s {b : Int → Int} {n p k : Int} {f : Nat} {P : zM} : prd b n (f + 1) p P k = cif (p < n) (prn (pit b p P) (fun P' q => prd b n f q P' (k + 1)) (fun q => (q, P, k))) (-1, P, k) := rfl
def pinit (P : zM) : Prop := P 4 0 = 0 ∧ P 4 1 = 0 ∧ P 4 2 = 0 ∧ P 4 3 = 0 ∧ ∀ v, 0 ≤ v → v < 16 → P 5 v = 0
theorem pinit_wf {P : zM} (h : pinit P) : pwf P ∧ ∀ G, pgi P G (-1) := by
  obtain ⟨h0, h1, h2, h3, h5⟩ := h
  have n0 : ∀ i, ¬ tbs (P 4 0) i := fun i => by rw [h0]; exact tbs_0 i
  have n1 : ∀ i, ¬ tbs (P 4 1) i := fun i => by rw [h1]; exact tbs_0 i
  have n3 : ∀ i, ¬ tbs (P 4 3) i := fun i => by rw [h3]; exact tbs_0 i
  refine ⟨⟨⟨by omega, fun v z => absurd z (n0 v), fun v z => absurd z (n1 v), fun v v0 v1 => ⟨by rw [h5 v v0 v1]; omega, fun _ => h5 v v0 v1, fun _ => h5 v v0 v1⟩, fun l l0 l1 => by omega⟩, fun l z => absurd z (n3 l), ⟨by rw [h0]; unfold r32; omega, by rw [h1]; unfold r32; omega, by rw [h3]; unfold r32; omega⟩, fun l l0 l1 => by omega⟩, fun G => ⟨fun x y hx => absurd hx.2 (n0 x), fun l hl => absurd hl (n3 l), fun f hf => absurd hf (n1 f), fun x hx => absurd hx.2 (n0 x), fun x hx => absurd hx.2 (n0 x), Or.inl ⟨rfl, fun l z => absurd z.1 (n3 l)⟩⟩⟩
section PR
variable {Q : Int → zM → Prop} {M : zM}
theorem c14 (h : ∀ M', (∀ a, a ≠ 79 → a ≠ 80 → M' a = M a) → (∀ j, 0 ≤ j → j ≤ 4 → M' 79 j = 0) → (∀ j, ¬ (0 ≤ j ∧ j ≤ 4) → M' 79 j = M 79 j) → (∀ v, 0 ≤ v → v < 16 → M' 80 v = 0) → Q 0 M') : zF 14 Q [(2, 79)] M := by
  refine s14_0 rfl ?_
  generalize hM1 : zset (zset (zset (zset (zset M 79 0 0) 79 1 0) 79 2 0) 79 3 0) 79 4 0 = M1
  have r : M1 79 = fset (fset (fset (fset (fset (M 79) 0 0) 1 0) 2 0) 3 0) 4 0 := by rw [← hM1, zrow_s, zrow_s, zrow_s, zrow_s, zrow_s]
  have o : ∀ a, a ≠ 79 → M1 a = M a := fun a ha => by rw [← hM1, zrow_o _ ha, zrow_o _ ha, zrow_o _ ha, zrow_o _ ha, zrow_o _ ha]
  refine c165 (t := 79 + 1) (l := 16) rfl (by decide) (fun M' g1 g2 => h M' (fun a p q => by rw [g1 a q, o a p]) (fun j j0 j1 => ?_) (fun j hj => ?_) (fun v v0 v1 => g2 v v0 (by omega)))
  · rw [g1 79 (by decide), r]
    have : j = 0 ∨ j = 1 ∨ j = 2 ∨ j = 3 ∨ j = 4 := by omega
    unfold fset
    rcases this with e | e | e | e | e <;> simp [e]
  · rw [g1 79 (by decide), r, fset_o _ (by omega), fset_o _ (by omega), fset_o _ (by omega), fset_o _ (by omega), fset_o _ (by omega)]
/-- what parse tells -/
def pftl (n f rg : Int) : Int := if 0 ≤ f ∧ f < n then f else if rg = -1 then f else rg
theorem c30 {n : Int} (hn : 0 ≤ n ∧ n ≤ 200) (ht : ∀ i, 0 ≤ i → i < n → 0 ≤ M 3 i ∧ M 3 i ≤ 127)
    (hQ : ∀ M' P0 f P k rg, pinit P0 → zfm 78 87 M M' → prd (pbt (M 3) n) n 201 0 P0 0 = (f, P, k) → (f = -1 ∨ (0 ≤ f ∧ f ≤ n)) → pwf P → zrP M' P → M' 79 4 = 0 → pring P rg → zTLw M' 79 → (f = -1 → M' 78 1 = k) → Q (pftl n f rg) M') : zF 30 Q [(2, 78), (2, 3), (0, n)] M := by
  refine s30_0 (c14 (fun M1 g1 g2 g3 g4 => ?_))
  generalize hM2 : zset (zset (zset (zset (zset M1 78 3 3) 78 4 n) 78 5 0) 78 1 0) 78 6 (-1) = M2
  have r78 : M2 78 = fset (fset (fset (fset (fset (M1 78) 3 3) 4 n) 5 0) 1 0) 6 (-1) := by rw [← hM2, zrow_s, zrow_s, zrow_s, zrow_s, zrow_s]
  have o2 : ∀ a, a ≠ 78 → M2 a = M1 a := fun a ha => by rw [← hM2, zrow_o _ ha, zrow_o _ ha, zrow_o _ ha, zrow_o _ ha, zrow_o _ ha]
  have v3 : M2 78 3 = 3 := by rw [r78, fset_o _ (by decide), fset_o _ (by decide), fset_o _ (by decide), fset_o _ (by decide), fset_s]
  have v4 : M2 78 4 = n := by rw [r78, fset_o _ (by decide), fset_o _ (by decide), fset_o _ (by decide), fset_s]
  have v5 : M2 78 5 = 0 := by rw [r78, fset_o _ (by decide), fset_o _ (by decide), fset_s]
  have v1 : M2 78 1 = 0 := by rw [r78, fset_o _ (by decide), fset_s]
  have v6 : M2 78 6 = -1 := by rw [r78, fset_s]
  have f2 : zfm 78 87 M M2 := fun a i p => by rw [o2 a (by omega), g1 a (by omega) (by omega)]
  have e3 : M2 3 = M 3 := zfm_row f2 (by omega)
  obtain ⟨P0, hP0⟩ : ∃ P0 : zM, P0 = fun a i => M2 (a + 75) i := ⟨_, rfl⟩
  have zP0 : zrP M2 P0 := fun a _ _ => by rw [hP0]
  have pi0 : pinit P0 := by
    have e : ∀ j, P0 4 j = M2 79 j := fun j => by rw [hP0]; rfl
    refine ⟨?_, ?_, ?_, ?_, fun v v0 v1 => ?_⟩
    · rw [e, o2 79 (by decide)]; exact g2 0 (by omega) (by omega)
    · rw [e, o2 79 (by decide)]; exact g2 1 (by omega) (by omega)
    · rw [e, o2 79 (by decide)]; exact g2 2 (by omega) (by omega)
    · rw [e, o2 79 (by decide)]; exact g2 3 (by omega) (by omega)
    · rw [show P0 5 v = M2 80 v by rw [hP0]; rfl, o2 80 (by decide)]; exact g4 v v0 v1
  obtain ⟨wf0, gi0⟩ := pinit_wf pi0
  have hR0 : zra M2 := ⟨v3, by rw [v4]; exact hn, by omega, by omega, by rw [v4, e3]; exact ht⟩
  have fin : ∀ (M' : zM) (P : zM) (f k : Int), zfm 78 87 M M' → zrP M' P → pwf P → pring P (M' 78 6) → M' 79 4 = 0 → M' 78 4 = n → (f = -1 ∨ (0 ≤ f ∧ f ≤ n)) → prd (pbt (M 3) n) n 201 0 P0 0 = (f, P, k) → (f = -1 → M' 78 1 = k) → ∀ Qz : zM → Prop, (∀ M3, zfm 78 87 M M3 → M3 78 = M' 78 → Q (pftl n f (M' 78 6)) M3 → Qz M3) → zF 16 (fun _ M3 => Qz M3) [(2, 79)] M' := fun M' P f k a1 a2 a3 a4 a5 a6 a7 a8 a9 Qz a10 => by
    have e79 : M' 79 = P 4 := a2 4 (by omega) (by omega)
    have e81 : M' 81 = P 6 := a2 6 (by omega) (by omega)
    have e82 : M' 82 = P 7 := a2 7 (by omega) (by omega)
    refine c16 (by rw [e79]; exact a3.1.1) (fun l l0 l1 => ?_) (fun M3 y1 y2 => ?_)
    · rw [e79] at l1
      rw [e81, e82]
      have := (a3.1.2.2.2.2 l l0 l1).1
      exact ⟨this.1, this.2.1, this.2.2.1⟩
    · have f3 : zfm 78 87 M M3 := fun a i p => by rw [y1 a (by omega) (by omega)]; exact a1 a i p
      refine a10 M3 f3 (y1 78 (by decide) (by decide)) (hQ M3 P0 f P k (M' 78 6) pi0 f3 a8 a7 a3 (fun a p q => by rw [y1 (a + 75) (by omega) (by omega)]; exact a2 a p q) (by rw [y1 79 (by decide) (by decide)]; exact a5) a4 y2 (fun z => by rw [y1 78 (by decide) (by decide)]; exact a9 z))
  have loop : ∀ (m : Nat) (M' : zM) (P : zM) (k : Int), zrd M' P → zfm 78 87 M M' → M' 78 4 = n → M' 79 4 = 0 → M' 78 1 = k → 0 ≤ k → 2 * k ≤ M' 78 5 → n - M' 78 5 < m → prd (pbt (M 3) n) n m (M' 78 5) P k = prd (pbt (M 3) n) n 201 0 P0 0 → zS 30 Q 34 [(2, 78), (2, 3), (0, n), (0, 1)] [] M' := by
    intro m
    induction m with
    | zero => intro M' P k h1 h2 h3 h4 h5 h6 h7 h8 h9; have := h1.1.2.2.2.1; omega
    | succ m ih =>
      intro M' P k h1 h2 h3 h4 h5 h6 h7 h8 h9
      have e3' : M' 3 = M 3 := zfm_row h2 (by omega)
      have hle := h1.1.2.2.2.1
      refine s30_34 ⟨fun z => absurd z (by decide), fun _ => ⟨fun q => ?_, fun q => ⟨fun q2 => by omega, fun q2 => ?_⟩⟩⟩
      · have e : prd (pbt (M 3) n) n 201 0 P0 0 = (-1, P, k) := by rw [← h9, prd_s, cif_f (by omega)]
        refine fin M' P (-1) k h2 h1.2.1 h1.2.2.1 h1.2.2.2.2.2.2.2.2 h4 h3 (Or.inl rfl) e (fun _ => h5) _ (fun M3 y1 y2 y3 => ?_)
        unfold pftl at y3
        rw [if_neg (by omega)] at y3
        rw [y2]
        refine ⟨fun z => ?_, fun z => ?_⟩
        · rw [if_pos z] at y3; exact y3
        · rw [if_neg z] at y3; exact y3
      · refine c31 h1 (by omega) (fun qq a1 a2 => ⟨fun _ => ?_, fun y => absurd rfl y⟩) (fun P' qq M4 a1 a2 a3 a4 a5 => ⟨fun y => absurd y (by decide), fun _ => ?_⟩)
        · rw [e3', h3] at a1
          have e : prd (pbt (M 3) n) n 201 0 P0 0 = (qq, P, k) := by rw [← h9, prd_s, cif_t (by omega), a1]; rfl
          generalize hM5 : zset M' 78 5 qq = M5
          have r5 : M5 78 = fset (M' 78) 5 qq := by rw [← hM5, zrow_s]
          have o5 : ∀ a, a ≠ 78 → M5 a = M' a := fun a ha => by rw [← hM5, zrow_o _ ha]
          refine s30_34 ⟨fun _ => fin M5 P qq k (zfm_t h2 (by rw [← hM5]; exact zfm_s zfm_r (by omega))) (zrP_o h1.2.1 (fun a p q => o5 a (by omega))) h1.2.2.1 ?_ (by rw [o5 79 (by decide)]; exact h4) (by rw [r5, fset_o _ (by decide)]; exact h3) (Or.inr ⟨a2.1, by omega⟩) e (fun z => by omega) _ (fun M3 y1 y2 y3 => ?_), fun z => absurd rfl z⟩
          · rw [r5, fset_o _ (by decide)]; exact h1.2.2.2.2.2.2.2.2
          · rw [y2, r5, fset_s, fset_o _ (by decide), fset_o _ (by decide), h3]
            unfold pftl at y3
            rw [r5, fset_o _ (by decide)] at y3
            refine ⟨fun z => ⟨fun z2 => ?_, fun z2 => ?_⟩, fun z => ?_⟩
            · rw [if_neg (by omega), if_pos z2] at y3
              rw [show n = qq by omega]; exact y3
            · rw [if_neg (by omega), if_neg z2] at y3; exact y3
            · rw [if_pos ⟨a2.1, z⟩] at y3; exact y3
        · rw [e3', h3] at a1
          obtain ⟨b1, b2, b3, b4⟩ := a5
          have hle4 := a2.1.2.2.2.1
          have h41 : M4 78 1 = k := by rw [b2]; exact h5
          rw [h41, zw_id (by omega)]
          generalize hM5 : zset M4 78 1 (k + 1) = M5
          have r5 : M5 78 = fset (M4 78) 1 (k + 1) := by rw [← hM5, zrow_s]
          have o5 : ∀ a, a ≠ 78 → M5 a = M4 a := fun a ha => by rw [← hM5, zrow_o _ ha]
          have e79 : M5 79 4 = 0 := by
            have e1 : M4 79 4 = P' 4 4 := by have := a2.2.1 4 (by omega) (by omega); exact congrFun this 4
            have e2 : M' 79 4 = P 4 4 := by have := h1.2.1 4 (by omega) (by omega); exact congrFun this 4
            have hp44 : P' 4 4 = P 4 4 := by
              have pl : ∀ c, pnl (pbt (M 3) n) (M' 78 5) P c = (some P', qq) → P' 4 4 = P 4 4 := fun c e => by
                unfold pnl at e
                by_cases z1 : ¬ P 4 2 < 24
                · rw [cif_t z1] at e; cases e
                · rw [cif_f z1] at e
                  by_cases z2 : ¬ php P (pbt (M 3) n (M' 78 5 + 1) - 97)
                  · rw [cif_t z2] at e; cases e
                  · rw [cif_f z2] at e
                    by_cases z3 : ¬ (php P (pbt (M 3) n (M' 78 5 + 2) - 97) ∧ ¬ pbt (M 3) n (M' 78 5 + 2) - 97 = pbt (M 3) n (M' 78 5 + 1) - 97 ∧ ¬ pjo P (pbt (M 3) n (M' 78 5 + 1) - 97) (pbt (M 3) n (M' 78 5 + 2) - 97))
                    · rw [cif_t z3] at e; cases e
                    · rw [cif_f z3] at e
                      by_cases z4 : pbt (M 3) n (M' 78 5 + 3) = 48 ∨ ¬ pdg (pbt (M 3) n (M' 78 5 + 3))
                      · rw [cif_t z4] at e; cases e
                      · rw [cif_f z4] at e
                        by_cases z5 : ¬ pbt (M 3) n (pfv (pbt (M 3) n) 2 (M' 78 5 + 3) 0).2 = 44
                        · rw [cif_t z5] at e; cases e
                        · rw [cif_f z5] at e
                          by_cases z6 : ¬ pdg (pbt (M 3) n ((pfv (pbt (M 3) n) 2 (M' 78 5 + 3) 0).2 + 1))
                          · rw [cif_t z6] at e; cases e
                          · rw [cif_f z6] at e
                            by_cases z7 : ¬ pbt (M 3) n (pfv (pbt (M 3) n) 3 ((pfv (pbt (M 3) n) 2 (M' 78 5 + 3) 0).2 + 1) 0).2 = 59
                            · rw [cif_t z7] at e; cases e
                            · rw [cif_f z7] at e
                              injection e with e1 e2
                              injection e1 with e1
                              rw [← e1, paL_4, fset_o _ (by decide), fset_o _ (by decide)]
              have a1' := a1
              unfold pit at a1'
              by_cases z1 : pbt (M 3) n (M' 78 5) = 43
              · rw [cif_t z1] at a1'; exact pl _ a1'
              · rw [cif_f z1] at a1'
                by_cases z2 : pbt (M 3) n (M' 78 5) = 45
                · rw [cif_t z2] at a1'; exact pl _ a1'
                · rw [cif_f z2] at a1'
                  unfold ppl at a1'
                  by_cases y1 : ¬ ((0 ≤ pbt (M 3) n (M' 78 5) - 97 ∧ pbt (M 3) n (M' 78 5) - 97 < 16) ∧ ¬ tbs (P 4 0) (pbt (M 3) n (M' 78 5) - 97))
                  · rw [cif_t y1] at a1'; cases a1'
                  · rw [cif_f y1] at a1'
                    by_cases y2 : pbt (M 3) n (M' 78 5 + 1) = 59
                    · rw [cif_t y2] at a1'
                      by_cases y3 : pcard (P 4 1) < 4
                      · rw [cif_t y3] at a1'
                        injection a1' with e1 e2
                        injection e1 with e1
                        rw [← e1, zrow_s, fset_o _ (by decide), zrow_s, fset_o _ (by decide)]
                      · rw [cif_f y3] at a1'; cases a1'
                    · rw [cif_f y2] at a1'
                      by_cases y3 : ¬ pdg (pbt (M 3) n (M' 78 5 + 1))
                      · rw [cif_t y3] at a1'; cases a1'
                      · rw [cif_f y3] at a1'
                        by_cases y4 : pbt (M 3) n (pfv (pbt (M 3) n) 2 (M' 78 5 + 1) 0).2 = 59
                        · rw [cif_t y4] at a1'
                          injection a1' with e1 e2
                          injection e1 with e1
                          rw [← e1, zrow_o _ (by decide), zrow_s, fset_o _ (by decide)]
                        · rw [cif_f y4] at a1'; cases a1'
            rw [o5 79 (by decide), e1, hp44, ← e2]; exact h4
          have e5 : M5 78 5 = qq := by rw [r5, fset_o _ (by decide)]; exact a3
          refine ih M5 P' (k + 1) ⟨zra_cg a2.1 (o5 3 (by decide)) (by rw [r5, fset_o _ (by decide)]) (by rw [r5, fset_o _ (by decide)]) (by rw [r5, fset_o _ (by decide)]), zrP_o a2.2.1 (fun a p q => o5 a (by omega)), a2.2.2.1, by rw [o5 87 (by decide), r5, fset_o _ (by decide)]; exact a2.2.2.2⟩ (zfm_t (zfm_t h2 b1) (by rw [← hM5]; exact zfm_s zfm_r (by omega))) (by rw [r5, fset_o _ (by decide), b4]; exact h3) e79 (by rw [r5, fset_s]) (by omega) (by omega) (by omega) ?_
          rw [← h9, prd_s (f := m), cif_t (by omega), a1, e5]
          rfl
  refine loop 201 M2 P0 0 ⟨hR0, zP0, wf0, by rw [v6]; exact gi0 _⟩ f2 v4 (by rw [o2 79 (by decide)]; exact g2 4 (by omega) (by omega)) v1 (by omega) (by omega) (by omega) (by rw [v5])
end PR
