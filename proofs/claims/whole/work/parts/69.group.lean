/-! which places hang together while a text is read: labels -/
def prl (P : zM) (l : Int) : Prop := tbs (P 4 3) l ∧ kcon (tbs (P 4 1)) (P 6) (P 7) (fun l' => tbs (P 4 3) l' ∧ l' < l) (P 6 l) (P 7 l)
def pring (P : zM) (rg : Int) : Prop := (rg = -1 ∧ ∀ l, ¬ prl P l) ∨ (∃ l, prl P l ∧ rg = P 20 l ∧ 0 ≤ rg ∧ ∀ l', l' < l → ¬ prl P l')
def pgi (P : zM) (G : Int → Int) (rg : Int) : Prop :=
  (∀ x y, php P x → php P y → G x = G y → kcon (tbs (P 4 1)) (P 6) (P 7) (tbs (P 4 3)) x y)
  ∧ (∀ l, tbs (P 4 3) l → G (P 6 l) = G (P 7 l))
  ∧ (∀ f, tbs (P 4 1) f → G f = 16)
  ∧ (∀ x, php P x → G x = 16 ∨ php P (G x))
  ∧ (∀ x, php P x → G x = 16 → ∃ f, tbs (P 4 1) f)
  ∧ pring P rg
def pwf (P : zM) : Prop := pW P ∧ (∀ l, tbs (P 4 3) l → l < P 4 2) ∧ (r32 (P 4 0) ∧ r32 (P 4 1) ∧ r32 (P 4 3)) ∧ ∀ l, 0 ≤ l → l < P 4 2 → 0 ≤ P 20 l
theorem kcon_cg {fd : Int → Prop} {fi se fi' se' : Int → Int} {S : Int → Prop} (h : ∀ l, S l → fi' l = fi l ∧ se' l = se l) {x y : Int} (g : kcon fd fi se S x y) : kcon fd fi' se' S x y := fun c a b => g c a (fun l hl => by have := b l hl; rw [(h l hl).1, (h l hl).2] at this; exact this)
/-- labels tell apart what doesn't hang together -/
theorem pgi_con {P : zM} {G : Int → Int} {rg : Int} (h : pgi P G rg) {x y : Int} (g : kcon (tbs (P 4 1)) (P 6) (P 7) (tbs (P 4 3)) x y) : G x = G y := by
  have := g (fun z => decide (G z = G x)) (fun a b fa fb => by show decide (G a = G x) = decide (G b = G x); rw [h.2.2.1 a fa, h.2.2.1 b fb]) (fun l hl => by show decide (G (P 6 l) = G x) = decide (G (P 7 l) = G x); rw [h.2.1 l hl])
  have this : decide (G x = G x) = decide (G y = G x) := this
  rw [decide_eq_true rfl] at this
  exact (of_decide_eq_true this.symm).symm
theorem pW_php {P : zM} (h : pwf P) {l : Int} (h0 : 0 ≤ l) (h1 : l < P 4 2) : php P (P 6 l) ∧ php P (P 7 l) := by
  have := (h.1.2.2.2.2 l h0 h1).1
  exact ⟨⟨this.1, this.2.2.2.1⟩, ⟨this.2.1, this.2.2.2.2⟩⟩
/-- a customer more -/
theorem pgi_cust {P : zM} {G : Int → Int} {rg v x : Int} (hw : pwf P) (h : pgi P G rg) (hv : 0 ≤ v ∧ v < 16) (hn : ¬ tbs (P 4 0) v) : pgi (zset (zset P 4 0 (zor (P 4 0) (zshl 1 v))) 5 v x) (fset G v v) rg := by
  generalize hP : zset (zset P 4 0 (zor (P 4 0) (zshl 1 v))) 5 v x = P'
  have r4 : P' 4 = fset (P 4) 0 (zor (P 4 0) (zshl 1 v)) := by rw [← hP, zrow_o _ (by decide), zrow_s]
  have o : ∀ a, a ≠ 4 → a ≠ 5 → P' a = P a := fun a p q => by rw [← hP, zrow_o _ q, zrow_o _ p]
  have e0 : P' 4 0 = zor (P 4 0) (zshl 1 v) := by rw [r4, fset_s]
  have e1 : P' 4 1 = P 4 1 := by rw [r4, fset_o _ (by decide)]
  have e3 : P' 4 3 = P 4 3 := by rw [r4, fset_o _ (by decide)]
  have e6 : P' 6 = P 6 := o 6 (by decide) (by decide)
  have e7 : P' 7 = P 7 := o 7 (by decide) (by decide)
  have e20 : P' 20 = P 20 := o 20 (by decide) (by decide)
  have hp : ∀ y, php P' y ↔ php P y ∨ y = v := fun y => by
    unfold php
    rw [e0, tbs_or1 (by omega)]
    constructor
    · rintro ⟨a, b | b⟩
      · exact Or.inl ⟨a, b⟩
      · exact Or.inr b
    · rintro (⟨a, b⟩ | b)
      · exact ⟨a, Or.inl b⟩
      · exact ⟨by omega, Or.inr b⟩
  obtain ⟨g1, g2, g3, g4, g5, g6⟩ := h
  have ne : ∀ y, php P y → y ≠ v := fun y hy e => hn (by rw [← e]; exact hy.2)
  have lab : ∀ y, php P y → G y ≠ v := fun y hy e => by
    rcases g4 y hy with q | q
    · omega
    · exact ne _ q e
  have gs : fset G v v v = v := fset_s _ _ _
  have go : ∀ y, php P y → fset G v v y = G y := fun y hy => fset_o _ (ne y hy)
  refine ⟨fun a b ha hb e => ?_, fun l hl => ?_, fun f hf => ?_, fun a ha => ?_, fun a ha e => ?_, ?_⟩
  · rw [e1, e3, e6, e7]
    rcases (hp a).mp ha with qa | qa <;> rcases (hp b).mp hb with qb | qb
    · rw [go a qa, go b qb] at e; exact g1 a b qa qb e
    · rw [go a qa, qb, gs] at e; exact absurd e (lab a qa)
    · rw [go b qb, qa, gs] at e; exact absurd e.symm (lab b qb)
    · rw [qa, qb]; exact kcon_r _
  · rw [e3] at hl
    have := pW_php hw hl.1.1 (hw.2.1 l hl)
    rw [e6, e7, go _ this.1, go _ this.2]
    exact g2 l hl
  · rw [e1] at hf
    rw [fset_o _ (fun e => hn (by rw [← e]; exact hw.1.2.2.1 f hf))]
    exact g3 f hf
  · rcases (hp a).mp ha with qa | qa
    · rw [go a qa]
      rcases g4 a qa with q | q
      · exact Or.inl q
      · exact Or.inr ((hp _).mpr (Or.inl q))
    · rw [qa, gs]; exact Or.inr ((hp _).mpr (Or.inr rfl))
  · rw [e1]
    rcases (hp a).mp ha with qa | qa
    · rw [go a qa] at e; exact g5 a qa e
    · rw [qa, gs] at e; omega
  · have : ∀ l, prl P' l ↔ prl P l := fun l => by unfold prl; rw [e1, e3, e6, e7]
    unfold pring
    rw [e20]
    rcases g6 with ⟨a, b⟩ | ⟨l, a, b, c, d⟩
    · exact Or.inl ⟨a, fun l hl => b l ((this l).mp hl)⟩
    · exact Or.inr ⟨l, (this l).mpr a, b, c, fun l' hl' z => d l' hl' ((this l').mp z)⟩
/-- feeders more don't join what is there -/
theorem kcon_feed {fd fd' : Int → Prop} {fi se : Int → Int} {S : Int → Prop} {v x y : Int} (hf : ∀ z, fd' z ↔ fd z ∨ z = v) (hS : ∀ l, S l → fi l ≠ v ∧ se l ≠ v) (hx : x ≠ v) (hy : y ≠ v) : kcon fd' fi se S x y ↔ kcon fd fi se S x y := by
  constructor
  · intro h c hc hl
    by_cases q : ∃ f, fd f ∧ f ≠ v
    · obtain ⟨f, f1, f2⟩ := q
      have := h (fun z => if z = v then c f else c z) (fun a b fa fb => ?_) (fun l hl' => ?_)
      · simp only [hx, hy, if_false] at this; exact this
      · have one : ∀ a, fd' a → (if a = v then c f else c a) = c f := fun a ha => by
          by_cases e : a = v
          · rw [if_pos e]
          · rw [if_neg e]
            rcases (hf a).mp ha with w | w
            · exact hc a f w f1
            · exact absurd w e
        show (if a = v then c f else c a) = if b = v then c f else c b
        rw [one a fa, one b fb]
      · show (if fi l = v then c f else c (fi l)) = if se l = v then c f else c (se l)
        rw [if_neg (hS l hl').1, if_neg (hS l hl').2]
        exact hl l hl'
    · exact h c (fun a b fa fb => by
        have one : ∀ a, fd' a → a = v := fun a ha => Classical.byContradiction fun e => by
          rcases (hf a).mp ha with w | w
          · exact q ⟨a, w, e⟩
          · exact e w
        rw [one a fa, one b fb]) hl
  · intro h c hc hl
    exact h c (fun a b fa fb => hc a b ((hf a).mpr (Or.inl fa)) ((hf b).mpr (Or.inl fb))) hl
theorem pgi_feed {P : zM} {G : Int → Int} {rg v : Int} (hw : pwf P) (h : pgi P G rg) (hv : 0 ≤ v ∧ v < 16) (hn : ¬ tbs (P 4 0) v) : pgi (zset (zset P 4 0 (zor (P 4 0) (zshl 1 v))) 4 1 (zor (P 4 1) (zshl 1 v))) (fset G v 16) rg := by
  generalize hP : zset (zset P 4 0 (zor (P 4 0) (zshl 1 v))) 4 1 (zor (P 4 1) (zshl 1 v)) = P'
  have r4 : P' 4 = fset (fset (P 4) 0 (zor (P 4 0) (zshl 1 v))) 1 (zor (P 4 1) (zshl 1 v)) := by rw [← hP, zrow_s, zrow_s]
  have o : ∀ a, a ≠ 4 → P' a = P a := fun a p => by rw [← hP, zrow_o _ p, zrow_o _ p]
  have e0 : P' 4 0 = zor (P 4 0) (zshl 1 v) := by rw [r4, fset_o _ (by decide), fset_s]
  have e1 : P' 4 1 = zor (P 4 1) (zshl 1 v) := by rw [r4, fset_s]
  have e3 : P' 4 3 = P 4 3 := by rw [r4, fset_o _ (by decide), fset_o _ (by decide)]
  have e6 : P' 6 = P 6 := o 6 (by decide)
  have e7 : P' 7 = P 7 := o 7 (by decide)
  have e20 : P' 20 = P 20 := o 20 (by decide)
  have hp : ∀ y, php P' y ↔ php P y ∨ y = v := fun y => by
    unfold php
    rw [e0, tbs_or1 (by omega)]
    constructor
    · rintro ⟨a, b | b⟩
      · exact Or.inl ⟨a, b⟩
      · exact Or.inr b
    · rintro (⟨a, b⟩ | b)
      · exact ⟨a, Or.inl b⟩
      · exact ⟨by omega, Or.inr b⟩
  have hf : ∀ y, tbs (P' 4 1) y ↔ tbs (P 4 1) y ∨ y = v := fun y => by rw [e1, tbs_or1 (by omega)]
  obtain ⟨g1, g2, g3, g4, g5, g6⟩ := h
  have ne : ∀ y, php P y → y ≠ v := fun y hy e => hn (by rw [← e]; exact hy.2)
  have gs : fset G v 16 v = 16 := fset_s _ _ _
  have go : ∀ y, php P y → fset G v 16 y = G y := fun y hy => fset_o _ (ne y hy)
  have hS : ∀ l, tbs (P 4 3) l → P 6 l ≠ v ∧ P 7 l ≠ v := fun l hl => by
    have := pW_php hw hl.1.1 (hw.2.1 l hl)
    exact ⟨ne _ this.1, ne _ this.2⟩
  have conF : ∀ a, php P a → G a = 16 → kcon (tbs (P' 4 1)) (P 6) (P 7) (tbs (P 4 3)) a v := fun a ha e => by
    obtain ⟨f, f1⟩ := g5 a ha e
    have hfp : php P f := ⟨by have := hw.1.2.1 f (hw.1.2.2.1 f f1); have := f1.1; omega, hw.1.2.2.1 f f1⟩
    have k1 := (kcon_feed hf hS (ne a ha) (ne f hfp)).mpr (g1 a f ha hfp (by rw [e, g3 f f1]))
    exact kcon_t k1 (fun c hc _ => hc f v ((hf f).mpr (Or.inl f1)) ((hf v).mpr (Or.inr rfl)))
  refine ⟨fun a b ha hb e => ?_, fun l hl => ?_, fun f hff => ?_, fun a ha => ?_, fun a ha e => ⟨v, (hf v).mpr (Or.inr rfl)⟩, ?_⟩
  · rw [e3, e6, e7]
    rcases (hp a).mp ha with qa | qa <;> rcases (hp b).mp hb with qb | qb
    · rw [go a qa, go b qb] at e; exact (kcon_feed hf hS (ne a qa) (ne b qb)).mpr (g1 a b qa qb e)
    · rw [go a qa, qb, gs] at e; rw [qb]; exact conF a qa e
    · rw [go b qb, qa, gs] at e; rw [qa]; exact kcon_s (conF b qb e.symm)
    · rw [qa, qb]; exact kcon_r _
  · rw [e3] at hl
    have := pW_php hw hl.1.1 (hw.2.1 l hl)
    rw [e6, e7, go _ this.1, go _ this.2]
    exact g2 l hl
  · rcases (hf f).mp hff with q | q
    · rw [fset_o _ (fun e => hn (by rw [← e]; exact hw.1.2.2.1 f q))]; exact g3 f q
    · rw [q, gs]
  · rcases (hp a).mp ha with qa | qa
    · rw [go a qa]
      rcases g4 a qa with q | q
      · exact Or.inl q
      · exact Or.inr ((hp _).mpr (Or.inl q))
    · rw [qa, gs]; exact Or.inl rfl
  · have : ∀ l, prl P' l ↔ prl P l := fun l => by
      unfold prl
      rw [e3, e6, e7]
      constructor
      · rintro ⟨a, b⟩
        have := pW_php hw a.1.1 (hw.2.1 l a)
        exact ⟨a, (kcon_feed hf (fun l' hl' => hS l' hl'.1) (ne _ this.1) (ne _ this.2)).mp b⟩
      · rintro ⟨a, b⟩
        have := pW_php hw a.1.1 (hw.2.1 l a)
        exact ⟨a, (kcon_feed hf (fun l' hl' => hS l' hl'.1) (ne _ this.1) (ne _ this.2)).mpr b⟩
    unfold pring
    rw [e20]
    rcases g6 with ⟨a, b⟩ | ⟨l, a, b, c, d⟩
    · exact Or.inl ⟨a, fun l hl => b l ((this l).mp hl)⟩
    · exact Or.inr ⟨l, (this l).mpr a, b, c, fun l' hl' z => d l' hl' ((this l').mp z)⟩
/-! a line more -/
section PL
variable {P : zM} {v w r m s : Int} {c : Prop}
theorem paL_4 : paL P v w r m s c 4 = fset (fset (P 4) 3 (cif c (zor (P 4 3) (zshl 1 (P 4 2))) (P 4 3))) 2 (P 4 2 + 1) := by
  unfold paL; rw [zrow_s, zrow_s, zrow_o _ (by decide), zrow_o _ (by decide), zrow_o _ (by decide), zrow_o _ (by decide), zrow_o _ (by decide)]
theorem paL_5 : paL P v w r m s c 5 = P 5 := by
  unfold paL; rw [zrow_o _ (by decide), zrow_o _ (by decide), zrow_o _ (by decide), zrow_o _ (by decide), zrow_o _ (by decide), zrow_o _ (by decide), zrow_o _ (by decide)]
theorem paL_6 : paL P v w r m s c 6 = fset (P 6) (P 4 2) v := by
  unfold paL; rw [zrow_o _ (by decide), zrow_o _ (by decide), zrow_o _ (by decide), zrow_o _ (by decide), zrow_o _ (by decide), zrow_o _ (by decide), zrow_s]
theorem paL_7 : paL P v w r m s c 7 = fset (P 7) (P 4 2) w := by
  unfold paL; rw [zrow_o _ (by decide), zrow_o _ (by decide), zrow_o _ (by decide), zrow_o _ (by decide), zrow_o _ (by decide), zrow_s, zrow_o _ (by decide)]
theorem paL_8 : paL P v w r m s c 8 = fset (P 8) (P 4 2) r := by
  unfold paL; rw [zrow_o _ (by decide), zrow_o _ (by decide), zrow_o _ (by decide), zrow_o _ (by decide), zrow_s, zrow_o _ (by decide), zrow_o _ (by decide)]
theorem paL_9 : paL P v w r m s c 9 = fset (P 9) (P 4 2) m := by
  unfold paL; rw [zrow_o _ (by decide), zrow_o _ (by decide), zrow_o _ (by decide), zrow_s, zrow_o _ (by decide), zrow_o _ (by decide), zrow_o _ (by decide)]
theorem paL_20 : paL P v w r m s c 20 = fset (P 20) (P 4 2) s := by
  unfold paL; rw [zrow_o _ (by decide), zrow_o _ (by decide), zrow_s, zrow_o _ (by decide), zrow_o _ (by decide), zrow_o _ (by decide), zrow_o _ (by decide)]
theorem paL_40 : paL P v w r m s c 4 0 = P 4 0 := by rw [paL_4, fset_o _ (by decide), fset_o _ (by decide)]
theorem paL_41 : paL P v w r m s c 4 1 = P 4 1 := by rw [paL_4, fset_o _ (by decide), fset_o _ (by decide)]
theorem paL_42 : paL P v w r m s c 4 2 = P 4 2 + 1 := by rw [paL_4, fset_s]
theorem paL_43 : paL P v w r m s c 4 3 = cif c (zor (P 4 3) (zshl 1 (P 4 2))) (P 4 3) := by rw [paL_4, fset_o _ (by decide), fset_s]
theorem paL_cl (hw : pwf P) (hl : P 4 2 < 24) (x : Int) : tbs (paL P v w r m s c 4 3) x ↔ tbs (P 4 3) x ∨ (c ∧ x = P 4 2) := by
  have h0 := hw.1.1
  rw [paL_43]
  by_cases q : c
  · rw [cif_t q, tbs_or1 (by omega)]; exact ⟨fun z => z.elim Or.inl (fun y => Or.inr ⟨q, y⟩), fun z => z.elim Or.inl (fun y => Or.inr y.2)⟩
  · rw [cif_f q]; exact ⟨Or.inl, fun z => z.elim id (fun y => absurd y.1 q)⟩
theorem paL_wf (hw : pwf P) (hl : P 4 2 < 24) (hv : php P v) (hw' : php P w) (hne : ¬ w = v) (hr : 1 ≤ r ∧ r ≤ 99) (hm : 0 ≤ m ∧ m ≤ 999) (hs : 0 ≤ s) : pwf (paL P v w r m s c) := by
  obtain ⟨⟨w1, w2, w3, w4, w5⟩, w6, w7, w8⟩ := hw
  have hw : pwf P := ⟨⟨w1, w2, w3, w4, w5⟩, w6, w7, w8⟩
  refine ⟨⟨by rw [paL_42]; omega, by rw [paL_40]; exact w2, by rw [paL_40, paL_41]; exact w3, by rw [paL_40, paL_41, paL_5]; exact w4, fun l l0 l1 => ?_⟩, fun l hl' => ?_, ⟨by rw [paL_40]; exact w7.1, by rw [paL_41]; exact w7.2.1, ?_⟩, fun l l0 l1 => ?_⟩
  · rw [paL_42] at l1
    rw [paL_40, paL_6, paL_7, paL_8, paL_9]
    by_cases e : l = P 4 2
    · rw [e, fset_s, fset_s, fset_s, fset_s]
      exact ⟨⟨hv.1, hw'.1, fun z => hne z.symm, hv.2, hw'.2⟩, hr, hm⟩
    · rw [fset_o _ e, fset_o _ e, fset_o _ e, fset_o _ e]
      exact w5 l l0 (by omega)
  · rw [paL_42]
    rcases (paL_cl hw hl l).mp hl' with q | q
    · have := w6 l q; omega
    · omega
  · rw [paL_43]
    by_cases q : c
    · rw [cif_t q]; exact zor_r _ _
    · rw [cif_f q]; exact w7.2.2
  · rw [paL_42] at l1
    rw [paL_20]
    by_cases e : l = P 4 2
    · rw [e, fset_s]; exact hs
    · rw [fset_o _ e]; exact w8 l l0 (by omega)
/-- all that is told of lines ahead -/
theorem paL_prl (hw : pwf P) (hl : P 4 2 < 24) {l : Int} (hll : l < P 4 2) : prl (paL P v w r m s c) l ↔ prl P l := by
  unfold prl
  rw [paL_cl hw hl, paL_41, paL_6, paL_7]
  have e1 : (fun l' => tbs (paL P v w r m s c 4 3) l' ∧ l' < l) = (fun l' => tbs (P 4 3) l' ∧ l' < l) := funext fun l' => propext (by
    rw [paL_cl hw hl]
    exact ⟨fun z => ⟨z.1.elim id (fun y => by omega), z.2⟩, fun z => ⟨Or.inl z.1, z.2⟩⟩)
  rw [e1, fset_o _ (show l ≠ P 4 2 by omega), fset_o _ (show l ≠ P 4 2 by omega)]
  have cg : ∀ l', (tbs (P 4 3) l' ∧ l' < l) → fset (P 6) (P 4 2) v l' = P 6 l' ∧ fset (P 7) (P 4 2) w l' = P 7 l' := fun l' h => ⟨fset_o _ (by omega), fset_o _ (by omega)⟩
  constructor
  · rintro ⟨a, b⟩
    exact ⟨a.elim id (fun y => by omega), kcon_cg (fun l' h => ⟨((cg l' h).1).symm, ((cg l' h).2).symm⟩) b⟩
  · rintro ⟨a, b⟩
    exact ⟨Or.inl a, kcon_cg cg b⟩
theorem paL_con (hw : pwf P) {x y : Int} : kcon (tbs (P 4 1)) (fset (P 6) (P 4 2) v) (fset (P 7) (P 4 2) w) (tbs (P 4 3)) x y ↔ kcon (tbs (P 4 1)) (P 6) (P 7) (tbs (P 4 3)) x y := by
  have cg : ∀ l', tbs (P 4 3) l' → fset (P 6) (P 4 2) v l' = P 6 l' ∧ fset (P 7) (P 4 2) w l' = P 7 l' := fun l' h => by
    have := hw.2.1 l' h
    exact ⟨fset_o _ (by omega), fset_o _ (by omega)⟩
  exact ⟨fun b => kcon_cg (fun l' h => ⟨((cg l' h).1).symm, ((cg l' h).2).symm⟩) b, fun b => kcon_cg cg b⟩
theorem paL_php (x : Int) : php (paL P v w r m s c) x ↔ php P x := by unfold php; rw [paL_40]
theorem pgi_open {G : Int → Int} {rg : Int} (hw : pwf P) (h : pgi P G rg) (hl : P 4 2 < 24) : pgi (paL P v w r m s False) G rg := by
  obtain ⟨g1, g2, g3, g4, g5, g6⟩ := h
  have e43 : paL P v w r m s False 4 3 = P 4 3 := by rw [paL_43, cif_f (fun z => z)]
  refine ⟨fun x y hx hy e => ?_, fun l hl' => ?_, fun f hf => ?_, fun x hx => ?_, fun x hx e => ?_, ?_⟩
  · rw [paL_41, e43, paL_6, paL_7]
    exact (paL_con hw).mpr (g1 x y ((paL_php x).mp hx) ((paL_php y).mp hy) e)
  · rw [e43] at hl'
    have := hw.2.1 l hl'
    rw [paL_6, paL_7, fset_o _ (by omega), fset_o _ (by omega)]
    exact g2 l hl'
  · rw [paL_41] at hf; exact g3 f hf
  · rw [paL_php]; exact g4 x ((paL_php x).mp hx)
  · rw [paL_41]; exact g5 x ((paL_php x).mp hx) e
  · have small : ∀ l, prl (paL P v w r m s False) l → l < P 4 2 := fun l z => by
      have := z.1; rw [e43] at this; exact hw.2.1 l this
    unfold pring
    rcases g6 with ⟨a, b⟩ | ⟨l, a, b, c, d⟩
    · exact Or.inl ⟨a, fun l z => b l ((paL_prl hw hl (small l z)).mp z)⟩
    · have hll := hw.2.1 l a.1
      refine Or.inr ⟨l, (paL_prl hw hl hll).mpr a, by rw [paL_20, fset_o _ (by omega)]; exact b, c, fun l' hl' z => d l' hl' ((paL_prl hw hl (by omega)).mp z)⟩
theorem pgi_ring {G : Int → Int} {rg : Int} (hw : pwf P) (h : pgi P G rg) (hl : P 4 2 < 24) (hv : php P v) (hw' : php P w) (hs : 0 ≤ s) (e : G v = G w) : pgi (paL P v w r m s True) G (if rg = -1 then s else rg) := by
  obtain ⟨g1, g2, g3, g4, g5, g6⟩ := h
  have cl := fun x => paL_cl (v := v) (w := w) (r := r) (m := m) (s := s) (c := True) hw hl x
  refine ⟨fun x y hx hy e => ?_, fun l hl' => ?_, fun f hf => ?_, fun x hx => ?_, fun x hx e => ?_, ?_⟩
  · rw [paL_41, paL_6, paL_7]
    exact kcon_m (fun l hl' => (cl l).mpr (Or.inl hl')) ((paL_con hw).mpr (g1 x y ((paL_php x).mp hx) ((paL_php y).mp hy) e))
  · rw [paL_6, paL_7]
    rcases (cl l).mp hl' with q | q
    · have := hw.2.1 l q
      rw [fset_o _ (by omega), fset_o _ (by omega)]
      exact g2 l q
    · rw [q.2, fset_s, fset_s]; exact e
  · rw [paL_41] at hf; exact g3 f hf
  · rw [paL_php]; exact g4 x ((paL_php x).mp hx)
  · rw [paL_41]; exact g5 x ((paL_php x).mp hx) e
  · have new : prl (paL P v w r m s True) (P 4 2) := by
      refine ⟨(cl _).mpr (Or.inr ⟨trivial, rfl⟩), ?_⟩
      rw [paL_41, paL_6, paL_7, fset_s, fset_s]
      refine kcon_m (fun l hl' => ?_) ((paL_con hw).mpr (g1 v w hv hw' e))
      exact ⟨(cl l).mpr (Or.inl hl'), hw.2.1 l hl'⟩
    unfold pring
    rcases g6 with ⟨a, b⟩ | ⟨l, a, b, c, d⟩
    · rw [if_pos a]
      exact Or.inr ⟨P 4 2, new, by rw [paL_20, fset_s], hs, fun l' hl' z => b l' ((paL_prl hw hl hl').mp z)⟩
    · have hll := hw.2.1 l a.1
      rw [if_neg (by omega)]
      exact Or.inr ⟨l, (paL_prl hw hl hll).mpr a, by rw [paL_20, fset_o _ (by omega)]; exact b, c, fun l' hl' z => d l' hl' ((paL_prl hw hl (by omega)).mp z)⟩
/-- two labels become one -/
theorem pgi_join {G G' : Int → Int} {rg ke lo : Int} (hw : pwf P) (h : pgi P G rg) (hl : P 4 2 < 24) (hv : php P v) (hw' : php P w) (hne : ¬ G v = G w) (hkl : (ke = G v ∧ lo = G w) ∨ (ke = G w ∧ lo = G v)) (hlo : lo ≠ 16) (hG : ∀ x, 0 ≤ x → x < 16 → G' x = if G x = lo then ke else G x) : pgi (paL P v w r m s True) G' rg := by
  have hpg := h
  obtain ⟨g1, g2, g3, g4, g5, g6⟩ := h
  have cl := fun x => paL_cl (v := v) (w := w) (r := r) (m := m) (s := s) (c := True) hw hl x
  have old : ∀ x y, kcon (tbs (P 4 1)) (P 6) (P 7) (tbs (P 4 3)) x y → kcon (tbs (P 4 1)) (fset (P 6) (P 4 2) v) (fset (P 7) (P 4 2) w) (tbs (paL P v w r m s True 4 3)) x y := fun x y z => kcon_m (fun l hl' => (cl l).mpr (Or.inl hl')) ((paL_con hw).mpr z)
  have vw : kcon (tbs (P 4 1)) (fset (P 6) (P 4 2) v) (fset (P 7) (P 4 2) w) (tbs (paL P v w r m s True 4 3)) v w := fun c _ hc => by
    have := hc (P 4 2) ((cl _).mpr (Or.inr ⟨trivial, rfl⟩))
    rw [fset_s, fset_s] at this; exact this
  have klo : ∀ x y, php P x → php P y → G x = lo → G y = ke → kcon (tbs (P 4 1)) (fset (P 6) (P 4 2) v) (fset (P 7) (P 4 2) w) (tbs (paL P v w r m s True 4 3)) x y := fun x y hx hy ex ey => by
    rcases hkl with ⟨a, b⟩ | ⟨a, b⟩
    · exact kcon_t (old x w (g1 x w hx hw' (by rw [ex, b]))) (kcon_t (kcon_s vw) (old v y (g1 v y hv hy (by rw [ey, a]))))
    · exact kcon_t (old x v (g1 x v hx hv (by rw [ex, b]))) (kcon_t vw (old w y (g1 w y hw' hy (by rw [ey, a]))))
  refine ⟨fun x y hx hy e => ?_, fun l hl' => ?_, fun f hf => ?_, fun x hx => ?_, fun x hx e => ?_, ?_⟩
  · rw [paL_41, paL_6, paL_7]
    rw [paL_php] at hx hy
    rw [hG x hx.1.1 hx.1.2, hG y hy.1.1 hy.1.2] at e
    by_cases qx : G x = lo <;> by_cases qy : G y = lo
    · exact old x y (g1 x y hx hy (by rw [qx, qy]))
    · rw [if_pos qx, if_neg qy] at e; exact klo x y hx hy qx e.symm
    · rw [if_neg qx, if_pos qy] at e; exact kcon_s (klo y x hy hx qy e)
    · rw [if_neg qx, if_neg qy] at e; exact old x y (g1 x y hx hy e)
  · rw [paL_6, paL_7]
    rcases (cl l).mp hl' with q | q
    · have := hw.2.1 l q
      have hp := pW_php hw q.1.1 this
      rw [fset_o _ (by omega), fset_o _ (by omega), hG _ hp.1.1.1 hp.1.1.2, hG _ hp.2.1.1 hp.2.1.2, g2 l q]
    · rw [q.2, fset_s, fset_s, hG v hv.1.1 hv.1.2, hG w hw'.1.1 hw'.1.2]
      rcases hkl with ⟨a, b⟩ | ⟨a, b⟩
      · rw [if_neg (by rw [b]; exact hne), if_pos b.symm, a]
      · rw [if_pos b.symm, if_neg (by rw [b]; exact fun z => hne z.symm), a]
  · rw [paL_41] at hf
    have hfp := hw.1.2.1 f (hw.1.2.2.1 f hf)
    rw [hG f hf.1.1 hfp, g3 f hf, if_neg (fun z => hlo z.symm)]
  · rw [paL_php]
    rw [paL_php] at hx
    rw [hG x hx.1.1 hx.1.2]
    by_cases q : G x = lo
    · rw [if_pos q]
      rcases hkl with ⟨a, b⟩ | ⟨a, b⟩
      · rw [a]; exact g4 v hv
      · rw [a]; exact g4 w hw'
    · rw [if_neg q]; exact g4 x hx
  · rw [paL_41]
    rw [paL_php] at hx
    rw [hG x hx.1.1 hx.1.2] at e
    by_cases q : G x = lo
    · rw [if_pos q] at e
      rcases hkl with ⟨a, b⟩ | ⟨a, b⟩
      · exact g5 v hv (by rw [← a]; exact e)
      · exact g5 w hw' (by rw [← a]; exact e)
    · rw [if_neg q] at e; exact g5 x hx e
  · have nol : ¬ prl (paL P v w r m s True) (P 4 2) := fun z => by
      have z2 := z.2
      rw [paL_41, paL_6, paL_7, fset_s, fset_s] at z2
      have e1 : (fun l' => tbs (paL P v w r m s True 4 3) l' ∧ l' < P 4 2) = tbs (P 4 3) := funext fun l' => propext (by
        rw [cl]
        exact ⟨fun y => y.1.elim id (fun x => by omega), fun y => ⟨Or.inl y, hw.2.1 l' y⟩⟩)
      rw [e1] at z2
      exact hne (pgi_con hpg ((paL_con hw).mp z2))
    have small : ∀ l, prl (paL P v w r m s True) l → l < P 4 2 := fun l z => by
      rcases (cl l).mp z.1 with q | q
      · exact hw.2.1 l q
      · rw [q.2] at z; exact absurd z nol
    unfold pring
    rcases g6 with ⟨a, b⟩ | ⟨l, a, b, c, d⟩
    · exact Or.inl ⟨a, fun l z => b l ((paL_prl hw hl (small l z)).mp z)⟩
    · have hll := hw.2.1 l a.1
      exact Or.inr ⟨l, (paL_prl hw hl hll).mpr a, by rw [paL_20, fset_o _ (by omega)]; exact b, c, fun l' hl' z => d l' hl' ((paL_prl hw hl (by omega)).mp z)⟩
end PL
