/-! the reference's reader: firstRing, readsAll -/
theorem pnl_wf {b : Int → Int} {p q : Int} {P P' : zM} {c : Prop} (hw : pwf P) (hp : 0 ≤ p) (e : pnl b p P c = (some P', q)) : pwf P' ∧ p + 2 ≤ q := by
  unfold pnl at e
  by_cases z1 : ¬ P 4 2 < 24
  · rw [cif_t z1] at e; cases e
  · rw [cif_f z1] at e
    by_cases z2 : ¬ php P (b (p + 1) - 97)
    · rw [cif_t z2] at e; cases e
    · rw [cif_f z2] at e
      by_cases z3 : ¬ (php P (b (p + 2) - 97) ∧ ¬ b (p + 2) - 97 = b (p + 1) - 97 ∧ ¬ pjo P (b (p + 1) - 97) (b (p + 2) - 97))
      · rw [cif_t z3] at e; cases e
      · rw [cif_f z3] at e
        by_cases z4 : b (p + 3) = 48 ∨ ¬ pdg (b (p + 3))
        · rw [cif_t z4] at e; cases e
        · rw [cif_f z4] at e
          by_cases z5 : ¬ b (pfv b 2 (p + 3) 0).2 = 44
          · rw [cif_t z5] at e; cases e
          · rw [cif_f z5] at e
            by_cases z6 : ¬ pdg (b ((pfv b 2 (p + 3) 0).2 + 1))
            · rw [cif_t z6] at e; cases e
            · rw [cif_f z6] at e
              by_cases z7 : ¬ b (pfv b 3 ((pfv b 2 (p + 3) 0).2 + 1) 0).2 = 59
              · rw [cif_t z7] at e; cases e
              · rw [cif_f z7] at e
                injection e with e1 e2
                injection e1 with e1
                have d : pdg (b (p + 3)) := Classical.byContradiction fun y => z4 (Or.inr y)
                have d0 : ¬ b (p + 3) = 48 := fun y => z4 (Or.inl y)
                have fb := pfv_b (b := b) (m := 2) (p := p + 3) (v := 0) (by omega)
                have gb := pfv_b (b := b) (m := 3) (p := (pfv b 2 (p + 3) 0).2 + 1) (v := 0) (by omega)
                have fr1 : 1 ≤ (pfv b 2 (p + 3) 0).1 := by
                  rw [pfv_s, cif_t d]
                  unfold pdg at d
                  have := pfv_b (b := b) (m := 1) (p := p + 3 + 1) (v := 10 * 0 + b (p + 3) - 48) (by omega)
                  omega
                rw [← e1, ← e2]
                rw [Classical.not_not] at z1 z2 z3
                exact ⟨paL_wf hw z1 z2 z3.1 z3.2.1 (by omega) (by omega) hp, by omega⟩
theorem pit_wf {b : Int → Int} {p q : Int} {P P' : zM} (hw : pwf P) (hp : 0 ≤ p) (e : pit b p P = (some P', q)) : pwf P' ∧ p + 2 ≤ q := by
  unfold pit at e
  by_cases z1 : b p = 43
  · rw [cif_t z1] at e; exact pnl_wf hw hp e
  · rw [cif_f z1] at e
    by_cases z2 : b p = 45
    · rw [cif_t z2] at e; exact pnl_wf hw hp e
    · rw [cif_f z2] at e
      unfold ppl at e
      by_cases y1 : ¬ ((0 ≤ b p - 97 ∧ b p - 97 < 16) ∧ ¬ tbs (P 4 0) (b p - 97))
      · rw [cif_t y1] at e; cases e
      · rw [cif_f y1] at e
        rw [Classical.not_not] at y1
        by_cases y2 : b (p + 1) = 59
        · rw [cif_t y2] at e
          by_cases y3 : pcard (P 4 1) < 4
          · rw [cif_t y3] at e
            injection e with e1 e2
            injection e1 with e1
            rw [← e1, ← e2]
            exact ⟨pwf_feed hw y1.1 y1.2, by omega⟩
          · rw [cif_f y3] at e; cases e
        · rw [cif_f y2] at e
          by_cases y3 : ¬ pdg (b (p + 1))
          · rw [cif_t y3] at e; cases e
          · rw [cif_f y3] at e
            by_cases y4 : b (pfv b 2 (p + 1) 0).2 = 59
            · rw [cif_t y4] at e
              injection e with e1 e2
              injection e1 with e1
              have fb := pfv_b (b := b) (m := 2) (p := p + 1) (v := 0) (by omega)
              rw [← e1, ← e2]
              exact ⟨pwf_cust hw y1.1 y1.2 (by omega), by omega⟩
            · rw [cif_f y4] at e; cases e
theorem pit_pos {b : Int → Int} {p q : Int} {P : zM} (hw : pwf P) (hp : 0 ≤ p) (e : pit b p P = (none, q)) : p ≤ q := by
  have fb2 := fun x => pfv_b (b := b) (m := 2) (p := x) (v := 0) (by omega)
  have fb3 := fun x => pfv_b (b := b) (m := 3) (p := x) (v := 0) (by omega)
  have nl : ∀ c, pnl b p P c = (none, q) → p ≤ q := fun c e => by
    unfold pnl at e
    by_cases z1 : ¬ P 4 2 < 24
    · rw [cif_t z1] at e; injection e with _ e; omega
    · rw [cif_f z1] at e
      by_cases z2 : ¬ php P (b (p + 1) - 97)
      · rw [cif_t z2] at e; injection e with _ e; omega
      · rw [cif_f z2] at e
        by_cases z3 : ¬ (php P (b (p + 2) - 97) ∧ ¬ b (p + 2) - 97 = b (p + 1) - 97 ∧ ¬ pjo P (b (p + 1) - 97) (b (p + 2) - 97))
        · rw [cif_t z3] at e; injection e with _ e; omega
        · rw [cif_f z3] at e
          by_cases z4 : b (p + 3) = 48 ∨ ¬ pdg (b (p + 3))
          · rw [cif_t z4] at e; injection e with _ e; omega
          · rw [cif_f z4] at e
            have f1 := fb2 (p + 3)
            have f2 := fb3 ((pfv b 2 (p + 3) 0).2 + 1)
            by_cases z5 : ¬ b (pfv b 2 (p + 3) 0).2 = 44
            · rw [cif_t z5] at e; injection e with _ e; omega
            · rw [cif_f z5] at e
              by_cases z6 : ¬ pdg (b ((pfv b 2 (p + 3) 0).2 + 1))
              · rw [cif_t z6] at e; injection e with _ e; omega
              · rw [cif_f z6] at e
                by_cases z7 : ¬ b (pfv b 3 ((pfv b 2 (p + 3) 0).2 + 1) 0).2 = 59
                · rw [cif_t z7] at e; injection e with _ e; omega
                · rw [cif_f z7] at e; injection e with e _; cases e
  unfold pit at e
  by_cases z1 : b p = 43
  · rw [cif_t z1] at e; exact nl _ e
  · rw [cif_f z1] at e
    by_cases z2 : b p = 45
    · rw [cif_t z2] at e; exact nl _ e
    · rw [cif_f z2] at e
      unfold ppl at e
      have f1 := fb2 (p + 1)
      by_cases y1 : ¬ ((0 ≤ b p - 97 ∧ b p - 97 < 16) ∧ ¬ tbs (P 4 0) (b p - 97))
      · rw [cif_t y1] at e; injection e with _ e; omega
      · rw [cif_f y1] at e
        by_cases y2 : b (p + 1) = 59
        · rw [cif_t y2] at e
          by_cases y3 : pcard (P 4 1) < 4
          · rw [cif_t y3] at e; injection e with e _; cases e
          · rw [cif_f y3] at e; injection e with _ e; omega
        · rw [cif_f y2] at e
          by_cases y3 : ¬ pdg (b (p + 1))
          · rw [cif_t y3] at e; injection e with _ e; omega
          · rw [cif_f y3] at e
            by_cases y4 : b (pfv b 2 (p + 1) 0).2 = 59
            · rw [cif_t y4] at e; injection e with e _; cases e
            · rw [cif_f y4] at e; injection e with _ e; omega
/-- an item ends at most ten bytes on -/
theorem pit_le {t : Int → Int} {n p q : Int} {P P' : zM} (hw : pwf P) (hp : p < n) (e : pit (pbt t n) p P = (some P', q)) : q ≤ p + 20 := by
  have fb2 := fun x => pfv_b (b := pbt t n) (m := 2) (p := x) (v := 0) (by omega)
  have fb3 := fun x => pfv_b (b := pbt t n) (m := 3) (p := x) (v := 0) (by omega)
  have nl : ∀ c, pnl (pbt t n) p P c = (some P', q) → q ≤ p + 20 := fun c e => by
    unfold pnl at e
    by_cases z1 : ¬ P 4 2 < 24
    · rw [cif_t z1] at e; cases e
    · rw [cif_f z1] at e
      by_cases z2 : ¬ php P (pbt t n (p + 1) - 97)
      · rw [cif_t z2] at e; cases e
      · rw [cif_f z2] at e
        by_cases z3 : ¬ (php P (pbt t n (p + 2) - 97) ∧ ¬ pbt t n (p + 2) - 97 = pbt t n (p + 1) - 97 ∧ ¬ pjo P (pbt t n (p + 1) - 97) (pbt t n (p + 2) - 97))
        · rw [cif_t z3] at e; cases e
        · rw [cif_f z3] at e
          by_cases z4 : pbt t n (p + 3) = 48 ∨ ¬ pdg (pbt t n (p + 3))
          · rw [cif_t z4] at e; cases e
          · rw [cif_f z4] at e
            have f1 := fb2 (p + 3)
            have f2 := fb3 ((pfv (pbt t n) 2 (p + 3) 0).2 + 1)
            by_cases z5 : ¬ pbt t n (pfv (pbt t n) 2 (p + 3) 0).2 = 44
            · rw [cif_t z5] at e; cases e
            · rw [cif_f z5] at e
              by_cases z6 : ¬ pdg (pbt t n ((pfv (pbt t n) 2 (p + 3) 0).2 + 1))
              · rw [cif_t z6] at e; cases e
              · rw [cif_f z6] at e
                by_cases z7 : ¬ pbt t n (pfv (pbt t n) 3 ((pfv (pbt t n) 2 (p + 3) 0).2 + 1) 0).2 = 59
                · rw [cif_t z7] at e; cases e
                · rw [cif_f z7] at e; injection e with _ e; omega
  unfold pit at e
  by_cases z1 : pbt t n p = 43
  · rw [cif_t z1] at e; exact nl _ e
  · rw [cif_f z1] at e
    by_cases z2 : pbt t n p = 45
    · rw [cif_t z2] at e; exact nl _ e
    · rw [cif_f z2] at e
      unfold ppl at e
      have f1 := fb2 (p + 1)
      by_cases y1 : ¬ ((0 ≤ pbt t n p - 97 ∧ pbt t n p - 97 < 16) ∧ ¬ tbs (P 4 0) (pbt t n p - 97))
      · rw [cif_t y1] at e; cases e
      · rw [cif_f y1] at e
        by_cases y2 : pbt t n (p + 1) = 59
        · rw [cif_t y2] at e
          by_cases y3 : pcard (P 4 1) < 4
          · rw [cif_t y3] at e; injection e with _ e; omega
          · rw [cif_f y3] at e; cases e
        · rw [cif_f y2] at e
          by_cases y3 : ¬ pdg (pbt t n (p + 1))
          · rw [cif_t y3] at e; cases e
          · rw [cif_f y3] at e
            by_cases y4 : pbt t n (pfv (pbt t n) 2 (p + 1) 0).2 = 59
            · rw [cif_t y4] at e; injection e with _ e; omega
            · rw [cif_f y4] at e; cases e
theorem pring_u {P : zM} {r r' : Int} (h : pring P r) (g : pring P r') : r = r' := by
  rcases h with ⟨a, b⟩ | ⟨l, a, b, c, d⟩ <;> rcases g with ⟨a', b'⟩ | ⟨l', a', b', c', d'⟩
  · rw [a, a']
  · exact absurd a' (b l')
  · exact absurd a (b' l)
  · have : l = l' := by
      rcases Int.lt_trichotomy l l' with q | q | q
      · exact absurd a (d' l q)
      · exact q
      · exact absurd a' (d l' q)
    rw [b, b', this]
section FR
variable {Q : Int → zM → Prop} {M P : zM}
theorem c111 (hm : mR0 P M) (hw : pwf P) (hQ : ∀ M' r, (∀ a, a ≠ 153 → M' a = M a) → ((r = -1 ∧ ∀ l, ¬ prl P l) ∨ ((0 ≤ r ∧ r < P 4 2) ∧ prl P r ∧ ∀ l', l' < r → ¬ prl P l')) → Q r M') : zF 111 Q [(2, 123)] M := by
  obtain ⟨m1, m2, m3⟩ := hm
  have hl24 := hw.1.1
  have hfd : ∀ x, tbs (P 4 1) x → 0 ≤ x ∧ x < 16 := fun x z => by have := hw.1.2.1 x (hw.1.2.2.1 x z); have := z.1; omega
  have walk : ∀ (n : Nat) (M' : zM) (p : Int) (rep : Int → Int) (rk : Int → Nat), p + n = P 4 2 → 0 ≤ p → (∀ a, a ≠ 153 → M' a = M a) → zUF rep rk (M' 153) (tbs (P 4 1)) (P 6) (P 7) (fun l => tbs (P 4 3) l ∧ l < p) → (∀ l, l < p → ¬ prl P l) → zS 111 Q 44 [(2, 123), (0, p), (3, 0), (3, 0)] [] M' := by
    intro n
    induction n with
    | zero =>
      intro M' p rep rk hp h0 hM hU hn
      refine s111_44 ⟨fun _ => hQ M' (-1) hM (Or.inl ⟨rfl, fun l hl => hn l (by have := hw.2.1 l hl.1; omega) hl⟩), fun q => ?_⟩
      rw [hM 123 (by decide), m1] at q; omega
    | succ n ih =>
      intro M' p rep rk hp h0 hM hU hn
      have e := m3 p h0 (by omega)
      have hl := (hw.1.2.2.2.2 p h0 (by omega)).1
      refine s111_44 ⟨fun q => ?_, fun _ => ⟨by omega, fun q1 => ?_, fun q1 => ?_⟩⟩
      · rw [hM 123 (by decide), m1] at q; omega
      · rw [hM 140 (by decide)] at q1
        have nt : ¬ tbs (P 4 3) p := fun z => q1 (e.2.2.2.2.1.mp z)
        rw [zw_id (by omega)]
        refine ih M' (p + 1) rep rk (by omega) (by omega) hM (zUF_cg hU (fun l => ⟨fun z => ⟨z.1, ?_⟩, fun z => ⟨z.1, by omega⟩⟩)) (fun l z y => ?_)
        · by_cases ee : l = p
          · rw [ee] at z; exact absurd z.1 nt
          · omega
        · by_cases ee : l = p
          · rw [ee] at y; exact nt y.1
          · exact hn l (by omega) y
      · rw [hM 140 (by decide)] at q1
        have hcp : tbs (P 4 3) p := e.2.2.2.2.1.mpr q1
        rw [hM 136 (by decide), e.1]
        have hSS : ∀ l, (tbs (P 4 3) l ∧ l < p + 1) ↔ (tbs (P 4 3) l ∧ l < p) ∨ l = p := fun l => by
          constructor
          · intro z
            by_cases ee : l = p
            · exact Or.inr ee
            · exact Or.inl ⟨z.1, by omega⟩
          · rintro (z | z)
            · exact ⟨z.1, by omega⟩
            · subst z; exact ⟨hcp, by omega⟩
        have hra := hU.1 _ hl.1.1 (show P 6 p < 17 by omega)
        have hrb := hU.1 _ hl.2.1.1 (show P 7 p < 17 by omega)
        refine c110 hU ⟨hl.1.1, by omega⟩ ?_
        rw [hM 137 (by decide), e.2.1]
        refine c110 hU ⟨hl.2.1.1, by omega⟩ ⟨fun q2 => ?_, fun q2 => ?_⟩
        · have nop : ∀ l, l < p + 1 → ¬ prl P l := fun l z y => by
            by_cases ee : l = p
            · subst ee; exact q2 ((zUF_con hU hl.1 hl.2.1).mpr y.2)
            · exact hn l (by omega) y
          refine ⟨fun q3 => ⟨hra.2.1, hrb.2.1, ?_⟩, fun q3 => ⟨hra.2.1, hrb.2.1, ?_⟩⟩
          · rw [zw_id (by omega), zset_id]
            obtain ⟨rep', rk', hU'⟩ := zUF_link hU (S' := fun l => tbs (P 4 3) l ∧ l < p + 1) ⟨hl.1, hl.2.1⟩ (fun z => q2 z.symm) (Or.inr ⟨rfl, rfl⟩) hSS
            exact ih _ (p + 1) rep' rk' (by omega) (by omega) (fun a ha => by rw [zrow_o _ ha]; exact hM a ha) (by rw [zrow_s]; exact hU') nop
          · obtain ⟨rep', rk', hU'⟩ := zUF_link hU (S' := fun l => tbs (P 4 3) l ∧ l < p + 1) ⟨hl.1, hl.2.1⟩ q2 (Or.inl ⟨rfl, rfl⟩) hSS
            have ident : zset (zset M' 153 (rep (P 6 p)) (rep (P 7 p))) 153 (rep (P 7 p)) (rep (P 7 p)) = zset M' 153 (rep (P 6 p)) (rep (P 7 p)) := by
              have z := zset_id (zset M' 153 (rep (P 6 p)) (rep (P 7 p))) 153 (rep (P 7 p))
              have e2 : zset M' 153 (rep (P 6 p)) (rep (P 7 p)) 153 (rep (P 7 p)) = rep (P 7 p) := by rw [zrow_s, fset_o _ (fun y => q2 y.symm)]; exact hrb.2.2.1
              rw [e2] at z
              exact z
            rw [zw_id (by omega), ident]
            exact ih _ (p + 1) rep' rk' (by omega) (by omega) (fun a ha => by rw [zrow_o _ ha]; exact hM a ha) (by rw [zrow_s]; exact hU') nop
        · exact hQ M' p hM (Or.inr ⟨by omega, ⟨hcp, (zUF_con hU hl.1 hl.2.1).mp q2⟩, hn⟩)
  have start : ∀ (n : Nat) (M' : zM) (v : Int), v + n = 17 → 0 ≤ v → (∀ a, a ≠ 153 → M' a = M a) → (∀ x, 0 ≤ x → x < v → (tbs (P 4 1) x → M' 153 x = 16) ∧ (¬ tbs (P 4 1) x → M' 153 x = x)) → zS 111 Q 2 [(2, 123), (0, v), (3, 0), (3, 0)] [] M' := by
    intro n
    induction n with
    | zero =>
      intro M' v hv h0 hM hr
      refine s111_2 ⟨fun _ => ?_, fun q => by omega⟩
      obtain ⟨rep, rk, hU⟩ := zUF_0 (ro := M' 153) (fd := tbs (P 4 1)) (fi := P 6) (se := P 7) (S := fun l => tbs (P 4 3) l ∧ l < 0) (fun x x0 x1 => hr x x0 (by omega)) (fun z => by have := hfd _ z; omega) hfd (fun l z => by have := z.1.1; omega)
      exact walk (P 4 2).toNat M' 0 rep rk (by omega) (by omega) hM hU (fun l z y => by have := y.1.1; omega)
    | succ n ih =>
      intro M' v hv h0 hM hr
      have go : ∀ y, ((tbs (P 4 1) v → y = 16) ∧ (¬ tbs (P 4 1) v → y = v)) → zS 111 Q 2 [(2, 123), (0, zw (v + 1)), (3, 0), (3, 0)] [] (zset M' 153 v y) := fun y hy => by
        rw [zw_id (by omega)]
        refine ih _ (v + 1) (by omega) (by omega) (fun a ha => by rw [zrow_o _ ha]; exact hM a ha) (fun x x0 x1 => ?_)
        rw [zrow_s]
        by_cases e : x = v
        · rw [e, fset_s]; exact hy
        · rw [fset_o _ e]; exact hr x x0 (by omega)
      refine s111_2 ⟨fun q => by omega, fun _ => ⟨fun q => ⟨by omega, go v ⟨fun z => by have := hfd _ z; omega, fun _ => rfl⟩⟩, fun q => ⟨by omega, fun q1 => ⟨by omega, go v ⟨fun z => ?_, fun _ => rfl⟩⟩, fun q1 => ⟨by omega, go 16 ⟨fun _ => rfl, fun z => ?_⟩⟩⟩⟩⟩
      · rw [hM 134 (by decide)] at q1; exact absurd ((m2 v h0 q).1.mp z) q1
      · rw [hM 134 (by decide)] at q1; exact absurd ((m2 v h0 q).1.mpr q1) z
  exact s111_0 (start 17 M 0 (by omega) (by omega) (fun _ _ => rfl) (fun x a b => by omega))
def mrg (M M' : zM) : Prop := ∀ a i : Int, ¬ (134 ≤ a ∧ a ≤ 141) → a ≠ 153 → ¬ (a = 123 ∧ 13 ≤ i ∧ i ≤ 17) → M' a i = M a i
theorem c112 {f k rg : Int} {P0 Pf : zM} (hi : pinit P0) (hn : 0 ≤ M 123 2 ∧ M 123 2 ≤ 200) (ht : ∀ i, 0 ≤ i → i < M 123 2 → 0 ≤ M 125 i ∧ M 125 i ≤ 127) (hp : prd (pbt (M 125) (M 123 2)) (M 123 2) 201 0 P0 0 = (f, Pf, k)) (hf : f = -1 ∨ (0 ≤ f ∧ f ≤ M 123 2)) (hrg : pring Pf rg)
    (hQ : ∀ M', mrg M M' → M' 123 14 = pftl (M 123 2) f rg → (f = -1 → mR Pf M' ∧ M' 123 17 = k) → Q 0 M') : zF 112 Q [(2, 123)] M := by
  obtain ⟨wf0, _⟩ := pinit_wf hi
  have ring : ∀ (M' : zM), mR0 Pf M' → pwf Pf → mrg M M' → (M' 123 14 = f) → ¬ (0 ≤ f ∧ f < M 123 2) → (f = -1 → mR Pf M' ∧ M' 123 17 = k) → zF 111 (fun x3 M4 => ((¬ x3 = (-1) → (0 ≤ x3 ∧ x3 < 24) ∧ Q 0 (zset M4 123 14 (M4 141 x3))) ∧ (x3 = (-1) → Q 0 (zset M4 123 14 (M4 123 14))))) [(2, 123)] M' := fun M' a1 a2 a3 a4 a5 a6 => by
    have hl24 := a2.1.1
    refine c111 a1 a2 (fun M4 r y1 y2 => ?_)
    have fr : ∀ x, mrg M (zset M4 123 14 x) := fun x a i p q s => by
      unfold zset
      rw [if_neg (fun z => by omega), y1 a q]
      exact a3 a i p q s
    have g1 : ∀ x, (f = -1 → mR Pf (zset M4 123 14 x) ∧ zset M4 123 14 x 123 17 = k) := fun x z => by
      obtain ⟨b1, b2⟩ := a6 z
      refine ⟨⟨mR0_cg b1.1 ?_ (fun a p q s => ?_), ?_, ?_⟩, ?_⟩
      · rw [zrow_s, fset_o _ (by decide), y1 123 (by decide)]
      · rw [zrow_o _ (by omega), y1 a (by omega)]
      · rw [zrow_s, fset_o _ (by decide), y1 123 (by decide)]; exact b1.2.1
      · rw [zrow_o _ (by decide), y1 135 (by decide)]; exact b1.2.2
      · rw [zrow_s, fset_o _ (by decide), y1 123 (by decide)]; exact b2
    refine ⟨fun z => ?_, fun z => ?_⟩
    · rcases y2 with ⟨b1, _⟩ | ⟨b1, b2, b3⟩
      · exact absurd b1 z
      · have e141 := (a1.2.2 r b1.1 b1.2).2.2.2.2.2.2
        have h20 := a2.2.2.2 r b1.1 b1.2
        have er : rg = Pf 20 r := pring_u hrg (Or.inr ⟨r, b2, rfl, h20, b3⟩)
        refine ⟨by omega, hQ _ (fr _) ?_ (g1 _)⟩
        rw [zrow_s, fset_s, y1 141 (by decide), e141]
        unfold pftl
        rw [if_neg a5, if_neg (by omega), er]
    · rcases y2 with ⟨_, b1⟩ | ⟨b1, _⟩
      · have er : rg = -1 := pring_u hrg (Or.inl ⟨rfl, b1⟩)
        refine hQ _ (fr _) ?_ (g1 _)
        rw [zrow_s, fset_s, y1 123 (by decide), a4]
        unfold pftl
        rw [if_neg a5, if_pos er]
      · omega
  have loop : ∀ (m : Nat) (M' : zM) (P : zM) (p j v1 : Int), mra M' → mR P M' → pwf P → mrg M M' → M' 123 13 = p → 0 ≤ p → M' 123 17 = j → 0 ≤ j → 2 * j ≤ p → M 123 2 - p < m → p ≤ 300 → prd (pbt (M 125) (M 123 2)) (M 123 2) m p P j = (f, Pf, k) → zS 112 Q 53 [(2, 123), (0, v1)] [] M' := by
    intro m
    induction m with
    | zero =>
      intro M' P p j v1 h1 h2 h3 h4 h5 h6 h7 h8 h9 h10 h11 h12
      have e2 : M' 123 2 = M 123 2 := h4 123 2 (by omega) (by decide) (by omega)
      have e : (-1, P, j) = (f, Pf, k) := h12
      injection e with e1 e3
      injection e3 with e3 e4
      subst e3
      refine s112_53 ⟨fun q => ⟨fun _ => ring M' h2.1 h3 h4 (by rw [← e1]; exact h1.1) (by omega) (fun _ => ⟨h2, by rw [h7]; exact e4⟩), fun z => by have := h1.1; omega⟩, fun q => by rw [h5, e2] at q; omega⟩
    | succ m ih =>
      intro M' P p j v1 h1 h2 h3 h4 h5 h6 h7 h8 h9 h10 h11 h12
      have e2 : M' 123 2 = M 123 2 := h4 123 2 (by omega) (by decide) (by omega)
      have e125 : M' 125 = M 125 := funext fun i => h4 125 i (by omega) (by decide) (by omega)
      have h14 := h1.1
      by_cases q : p < M 123 2
      · rw [prd_s, cif_t q] at h12
        have b1 := pbt_b (t := M 125) (n := M 123 2) (p := p) ht
        have failed : ∀ (qq : Int) (M3 : zM), pit (pbt (M 125) (M 123 2)) p P = (none, qq) → mrf M' M3 → M3 123 14 = qq → mR0 P M3 → zS 112 Q 53 [(2, 123), (0, v1)] [] (zset M3 123 17 (zw (M3 123 17 + 1))) := fun qq M3 y1 y2 y3 y4 => by
          rw [y1] at h12
          have e : (qq, P, j) = (f, Pf, k) := h12
          injection e with e1 e3
          injection e3 with e3 e4
          subst e3
          rw [e1] at y3
          generalize hM4 : zset M3 123 17 (zw (M3 123 17 + 1)) = M4
          have r : ∀ i, i ≠ 17 → M4 123 i = M3 123 i := fun i hi => by rw [← hM4, zrow_s, fset_o _ hi]
          have o : ∀ a, a ≠ 123 → M4 a = M3 a := fun a ha => by rw [← hM4, zrow_o _ ha]
          have f4 : mrg M M4 := fun a i p q s => by
            by_cases z : a = 123
            · subst z; rw [r i (by omega), y2 123 i (by omega) (by omega)]; exact h4 123 i p q s
            · rw [o a z, y2 a i (by omega) (by omega)]; exact h4 a i p q s
          have e24 : M4 123 2 = M 123 2 := f4 123 2 (by omega) (by decide) (by omega)
          have m4 : mR0 P M4 := mR0_cg y4 (r 15 (by decide)) (fun a _ _ _ => o a (by omega))
          have fn1 : ¬ f = -1 := fun z => by
            have := pit_pos (b := pbt (M 125) (M 123 2)) h3 h6 (by rw [y1, e1])
            omega
          have fge : 0 ≤ f := by omega
          have stop : ((¬ (M4 123 14) = (M4 123 2) → Q 0 M4) ∧ ((M4 123 14) = (M4 123 2) → zF 111 (fun x8 M9 => ((¬ x8 = (-1) → (0 ≤ x8 ∧ x8 < 24) ∧ Q 0 (zset M9 123 14 (M9 141 x8))) ∧ (x8 = (-1) → Q 0 (zset M9 123 14 (M9 123 14))))) [(2, 123)] M4)) := by
            rw [r 14 (by decide), y3, e24]
            refine ⟨fun z => hQ M4 f4 ?_ (fun y => absurd y fn1), fun z => ring M4 m4 h3 f4 (by rw [r 14 (by decide)]; exact y3) (by omega) (fun y => absurd y fn1)⟩
            rw [r 14 (by decide), y3]
            unfold pftl
            rw [if_pos ⟨fge, by omega⟩]
          refine s112_53 ⟨fun _ => ⟨fun z => by rw [r 14 (by decide), y3] at z; omega, fun _ => stop⟩, fun _ => ⟨fun _ => stop, fun z => by rw [r 14 (by decide), y3] at z; omega⟩⟩
        have went : ∀ (P' : zM) (qq : Int) (M3 : zM), pit (pbt (M 125) (M 123 2)) p P = (some P', qq) → mrf M' M3 → M3 123 14 = -1 → M3 123 13 = qq → mR P' M3 → zS 112 Q 53 [(2, 123), (0, v1)] [] (zset M3 123 17 (zw (M3 123 17 + 1))) := fun P' qq M3 y1 y2 y3 y4 y5 => by
          rw [y1] at h12
          obtain ⟨w1, w2⟩ := pit_wf h3 h6 y1
          have hle := pit_le (t := M 125) h3 (by omega) y1
          have e17 : M3 123 17 = j := by rw [y2 123 17 (by omega) (by omega)]; exact h7
          rw [e17, zw_id (by omega)]
          generalize hM4 : zset M3 123 17 (j + 1) = M4
          have r : ∀ i, i ≠ 17 → M4 123 i = M3 123 i := fun i hi => by rw [← hM4, zrow_s, fset_o _ hi]
          have o : ∀ a, a ≠ 123 → M4 a = M3 a := fun a ha => by rw [← hM4, zrow_o _ ha]
          have f4 : mrg M M4 := fun a i p q s => by
            by_cases z : a = 123
            · subst z; rw [r i (by omega), y2 123 i (by omega) (by omega)]; exact h4 123 i p q s
            · rw [o a z, y2 a i (by omega) (by omega)]; exact h4 a i p q s
          refine ih M4 P' qq (j + 1) v1 ⟨by rw [r 14 (by decide)]; exact y3, by rw [f4 123 2 (by omega) (by decide) (by omega)]; exact hn, ?_⟩ ⟨mR0_cg y5.1 (r 15 (by decide)) (fun a _ _ _ => o a (by omega)), by rw [r 16 (by decide)]; exact y5.2.1, by rw [o 135 (by decide)]; exact y5.2.2⟩ w1 f4 (by rw [r 13 (by decide)]; exact y4) (by omega) (by rw [← hM4, zrow_s, fset_s]) (by omega) (by omega) (by omega) (by omega) h12
          rw [f4 123 2 (by omega) (by decide) (by omega), show M4 125 = M 125 from funext fun i => f4 125 i (by omega) (by decide) (by omega)]
          exact ht
        refine s112_53 ⟨fun z => by rw [h5, e2] at z; omega, fun _ => ⟨fun z => by omega, fun _ => ?_⟩⟩
        rw [h5]
        refine o102 h1 rfl rfl h6 ?_
        rw [e125, e2]
        have line : ∀ c : Prop, (c ↔ pbt (M 125) (M 123 2) p = 43) → pit (pbt (M 125) (M 123 2)) p P = pnl (pbt (M 125) (M 123 2)) p P c → zF 109 (fun _ M23 => zS 112 Q 53 [(2, 123), (0, v1)] [] (zset M23 123 17 (zw ((M23 123 17) + 1)))) [(2, 123)] M' := fun c hc e => by
          refine c109 (c := c) (p := p) (by rw [e125, e2]; exact hc) h1 h2 h3 (by rw [e2]; omega) h5 (fun qq M3 y1 y2 y3 y4 => ?_) (fun P' qq M3 y1 y2 y3 y4 y5 => ?_)
          · rw [e125, e2, ← e] at y1; exact failed qq M3 y1 y2 y3 y4
          · rw [e125, e2, ← e] at y1; exact went P' qq M3 y1 y2 y3 y4 y5
        refine ⟨fun z => line True ⟨fun _ => z, fun _ => trivial⟩ (by unfold pit; rw [cif_t z]), fun z => ?_⟩
        rw [h5]
        refine o102 h1 rfl rfl h6 ?_
        rw [e125, e2]
        refine ⟨fun z2 => ?_, fun z2 => line False ⟨fun y => y.elim, fun y => z y⟩ (by unfold pit; rw [cif_f z, cif_t z2])⟩
        have e : pit (pbt (M 125) (M 123 2)) p P = ppl (pbt (M 125) (M 123 2)) p P := by unfold pit; rw [cif_f z, cif_f z2]
        refine c106 (p := p) h1 h2 h3 (by rw [e2]; omega) h5 (fun qq M3 y1 y2 y3 y4 => ?_) (fun P' qq M3 y1 y2 y3 y4 y5 => ?_)
        · rw [e125, e2, ← e] at y1; exact failed qq M3 y1 y2 y3 y4
        · rw [e125, e2, ← e] at y1; exact went P' qq M3 y1 y2 y3 y4 y5
      · rw [prd_s, cif_f q] at h12
        injection h12 with e1 e3
        injection e3 with e3 e4
        subst e3
        exact s112_53 ⟨fun _ => ⟨fun _ => ring M' h2.1 h3 h4 (by rw [← e1]; exact h14) (by omega) (fun _ => ⟨h2, by rw [h7]; exact e4⟩), fun z => by omega⟩, fun z => by rw [h5, e2] at z; omega⟩
  have init : ∀ (n v : Nat) (M' : zM), v + n = 16 → mrg M M' → (M' 123 15 = 0 ∧ M' 123 16 = 0 ∧ M' 123 17 = 0) → (∀ u, 0 ≤ u → u < (v : Int) → M' 134 u = 0 ∧ M' 135 u = 0) → zS 112 Q 17 [(2, 123), (0, (v : Int))] [] M' := by
    intro n
    induction n with
    | zero =>
      intro v M' hv h1 h2 h3
      refine s112_17 ⟨fun _ => ?_, fun z => by omega⟩
      generalize hM2 : zset (zset M' 123 13 0) 123 14 (-1) = M2
      have r : M2 123 = fset (fset (M' 123) 13 0) 14 (-1) := by rw [← hM2, zrow_s, zrow_s]
      have o : ∀ a, a ≠ 123 → M2 a = M' a := fun a ha => by rw [← hM2, zrow_o _ ha, zrow_o _ ha]
      have f2 : mrg M M2 := fun a i p q s => by
        by_cases z : a = 123
        · subst z; rw [r, fset_o _ (by omega), fset_o _ (by omega)]; exact h1 123 i p q s
        · rw [o a z]; exact h1 a i p q s
      obtain ⟨i0, i1, i2, i3, i5⟩ := hi
      have n1 : ∀ x, ¬ tbs (P0 4 1) x := fun x => by rw [i1]; exact tbs_0 x
      have n0 : ∀ x, ¬ tbs (P0 4 0) x := fun x => by rw [i0]; exact tbs_0 x
      refine loop 201 M2 P0 0 0 _ ⟨by rw [r, fset_s], by rw [f2 123 2 (by omega) (by decide) (by omega)]; exact hn, ?_⟩ ⟨⟨?_, fun u u0 u1 => ?_, fun l l0 l1 => by omega⟩, ?_, fun u u0 u1 => ?_⟩ wf0 f2 ?_ (by omega) ?_ (by omega) (by omega) (by omega) (by omega) hp
      · rw [f2 123 2 (by omega) (by decide) (by omega), show M2 125 = M 125 from funext fun i => f2 125 i (by omega) (by decide) (by omega)]; exact ht
      · rw [r, fset_o _ (by decide), fset_o _ (by decide), i2]; exact h2.1
      · rw [o 134 (by decide), (h3 u u0 (by omega)).1]
        exact ⟨⟨fun z => absurd z (n1 u), fun z => absurd z (by decide)⟩, ⟨fun z => absurd z (n0 u), fun z => absurd rfl z⟩, by omega, by omega⟩
      · rw [r, fset_o _ (by decide), fset_o _ (by decide), h2.2.1, i1]; decide
      · rw [o 135 (by decide), (h3 u u0 (by omega)).2]; exact (i5 u u0 u1).symm
      · rw [r, fset_o _ (by decide), fset_s]
      · rw [r, fset_o _ (by decide), fset_o _ (by decide)]; exact h2.2.2
    | succ n ih =>
      intro v M' hv h1 h2 h3
      refine s112_17 ⟨fun z => by omega, fun _ => ⟨by omega, ?_⟩⟩
      rw [zw_id (by omega)]
      refine ih (v + 1) _ (by omega) (fun a i p q s => ?_) ?_ (fun u u0 u1 => ?_)
      · rw [zrow_o _ (by omega), zrow_o _ (by omega)]; exact h1 a i p q s
      · rw [zrow_o _ (by decide), zrow_o _ (by decide)]; exact h2
      · rw [zrow_o _ (show (134 : Int) ≠ 135 by decide), zrow_s, zrow_s, zrow_o _ (show (135 : Int) ≠ 134 by decide)]
        by_cases e : u = (v : Int)
        · rw [e, fset_s, fset_s]; exact ⟨rfl, rfl⟩
        · rw [fset_o _ e, fset_o _ e]; exact h3 u u0 (by omega)
  refine s112_0 (init 16 0 _ (by omega) (fun a i p q s => ?_) ?_ (fun u a b => by omega))
  · unfold zset; rw [if_neg (by omega), if_neg (by omega), if_neg (by omega)]
  · rw [zrow_s, zrow_s, zrow_s, fset_o (j := 15) _ (by decide), fset_o (j := 15) _ (by decide), fset_s, fset_o (j := 16) _ (by decide), fset_s, fset_s]; exact ⟨rfl, rfl, rfl⟩
end FR
