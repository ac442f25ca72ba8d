/-! joined by lines; the reference's roots: rootOf, isRadial, firstRing -/
def kcon (fd : Int → Prop) (fi se : Int → Int) (S : Int → Prop) (x y : Int) : Prop := ∀ c : Int → Bool, kfc fd c → (∀ l, S l → c (fi l) = c (se l)) → c x = c y
theorem kcon_r {fd : Int → Prop} {fi se : Int → Int} {S : Int → Prop} (x : Int) : kcon fd fi se S x x := fun _ _ _ => rfl
theorem kcon_s {fd : Int → Prop} {fi se : Int → Int} {S : Int → Prop} {x y : Int} (h : kcon fd fi se S x y) : kcon fd fi se S y x := fun c a b => (h c a b).symm
theorem kcon_t {fd : Int → Prop} {fi se : Int → Int} {S : Int → Prop} {x y z : Int} (h : kcon fd fi se S x y) (g : kcon fd fi se S y z) : kcon fd fi se S x z := fun c a b => (h c a b).trans (g c a b)
theorem kcon_m {fd : Int → Prop} {fi se : Int → Int} {S S' : Int → Prop} (hs : ∀ l, S l → S' l) {x y : Int} (h : kcon fd fi se S x y) : kcon fd fi se S' x y := fun c a b => h c a (fun l hl => b l (hs l hl))
/-- no line joins what those below it join: radial -/
theorem kcon_rad {fd : Int → Prop} {fi se : Int → Int} {S : Int → Prop} (hS : ∀ l, S l → 0 ≤ l ∧ l < 24) (h : ∀ l, S l → ¬ kcon fd fi se (fun l' => S l' ∧ l' < l) (fi l) (se l)) : kRad fd fi se S := by
  refine kRad_rank (fun l => l.toNat) 24 (fun l hl => by have := hS l hl; omega) (fun l l' hl hl' e => by have := hS l hl; have := hS l' hl'; omega) (fun l hl => ?_)
  refine Classical.byContradiction fun z => h l hl (fun c a b => Classical.byContradiction fun y => z ⟨c, a, y, fun l' hl' q => b l' ⟨hl', by have := hS l hl; have := hS l' hl'; omega⟩⟩)
theorem kcon_nrad {fd : Int → Prop} {fi se : Int → Int} {S : Int → Prop} {l : Int} (hl : S l) (h : kcon fd fi se (fun l' => S l' ∧ l' < l) (fi l) (se l)) : ¬ kRad fd fi se S := fun hr => by
  obtain ⟨c, c1, c2, c3⟩ := hr l hl
  exact c2 (h c c1 (fun l' hl' => c3 l' hl'.1 (by omega)))
def zUF (rep : Int → Int) (rk : Int → Nat) (ro : Int → Int) (fd : Int → Prop) (fi se : Int → Int) (S : Int → Prop) : Prop :=
  (∀ x, 0 ≤ x → x < 17 → (0 ≤ ro x ∧ ro x < 17) ∧ (0 ≤ rep x ∧ rep x < 17) ∧ ro (rep x) = rep x ∧ rep (ro x) = rep x ∧ (ro x = x → rep x = x) ∧ (¬ ro x = x → rk (ro x) < rk x))
  ∧ (∀ x, fd x → rep x = rep 16)
  ∧ (∀ l, S l → rep (fi l) = rep (se l))
  ∧ (∀ x y, 0 ≤ x → x < 16 → 0 ≤ y → y < 16 → rep x = rep y → kcon fd fi se S x y)
section UF
variable {rep : Int → Int} {rk : Int → Nat} {ro fi se : Int → Int} {fd S S' : Int → Prop}
/-- one root is joined below another -/
theorem zUF_link (h : zUF rep rk ro fd fi se S) {p a b : Int} (hp : (0 ≤ fi p ∧ fi p < 16) ∧ (0 ≤ se p ∧ se p < 16)) (hab : a ≠ b) (hr : (rep (fi p) = a ∧ rep (se p) = b) ∨ (rep (fi p) = b ∧ rep (se p) = a)) (hS : ∀ l, S' l ↔ S l ∨ l = p) : ∃ rep' rk', zUF rep' rk' (fset ro a b) fd fi se S' := by
  obtain ⟨h1, h2, h3, h4⟩ := h
  have hu := h1 (fi p) hp.1.1 (by omega)
  have hw := h1 (se p) hp.2.1 (by omega)
  have ha : (0 ≤ a ∧ a < 17) ∧ ro a = a ∧ rep a = a := by
    rcases hr with ⟨e, _⟩ | ⟨_, e⟩
    · rw [← e]; exact ⟨hu.2.1, hu.2.2.1, (h1 _ hu.2.1.1 hu.2.1.2).2.2.2.2.1 hu.2.2.1⟩
    · rw [← e]; exact ⟨hw.2.1, hw.2.2.1, (h1 _ hw.2.1.1 hw.2.1.2).2.2.2.2.1 hw.2.2.1⟩
  have hb : (0 ≤ b ∧ b < 17) ∧ ro b = b ∧ rep b = b := by
    rcases hr with ⟨_, e⟩ | ⟨e, _⟩
    · rw [← e]; exact ⟨hw.2.1, hw.2.2.1, (h1 _ hw.2.1.1 hw.2.1.2).2.2.2.2.1 hw.2.2.1⟩
    · rw [← e]; exact ⟨hu.2.1, hu.2.2.1, (h1 _ hu.2.1.1 hu.2.1.2).2.2.2.2.1 hu.2.2.1⟩
  have hS1 : ∀ l, S l → S' l := fun l q => (hS l).mpr (Or.inl q)
  have hpc : kcon fd fi se S' (fi p) (se p) := fun c _ d => d p ((hS p).mpr (Or.inr rfl))
  have P : ∀ x, ∃ y, y = (if rep x = a then b else rep x) := fun x => ⟨_, rfl⟩
  have rN : ∀ {x}, ¬ rep x = a → (if rep x = a then b else rep x) = rep x := fun q => if_neg q
  have rY : ∀ {x}, rep x = a → (if rep x = a then b else rep x) = b := fun q => if_pos q
  refine ⟨fun x => if rep x = a then b else rep x, fun x => if rep x = a then rk x + rk b + 1 else rk x, fun x x0 x1 => ?_, fun x hx => ?_, fun l hl => ?_, fun x y x0 x1 y0 y1 e => ?_⟩
  · obtain ⟨k1, k2, k3, k4, k5, k6⟩ := h1 x x0 x1
    by_cases xa : x = a
    · rw [xa, fset_s]
      dsimp only
      rw [rY ha.2.2, hb.2.2, if_neg (Ne.symm hab), if_pos ha.2.2, fset_o _ (Ne.symm hab), if_neg (Ne.symm hab)]
      exact ⟨hb.1, hb.1, hb.2.1, rfl, fun z => absurd z.symm hab, fun _ => by omega⟩
    · rw [fset_o _ xa]
      dsimp only
      by_cases ra : rep x = a
      · rw [rY ra, k4, if_pos ra, if_pos ra, fset_o _ (Ne.symm hab)]
        refine ⟨k1, hb.1, hb.2.1, rfl, fun z => absurd ((k5 z).symm.trans ra) xa, fun z => by rw [if_pos ra]; have := k6 z; omega⟩
      · rw [rN ra, k4, if_neg ra, if_neg ra, fset_o _ ra]
        exact ⟨k1, k2, k3, rfl, k5, fun z => by rw [if_neg ra]; exact k6 z⟩
  · dsimp only; rw [h2 x hx]
  · dsimp only
    rcases (hS l).mp hl with q | q
    · rw [h3 l q]
    · subst q
      rcases hr with ⟨e1, e2⟩ | ⟨e1, e2⟩
      · rw [e1, e2, if_pos rfl, if_neg (Ne.symm hab)]
      · rw [e1, e2, if_pos rfl, if_neg (Ne.symm hab)]
  · dsimp only at e
    have old : rep x = rep y → kcon fd fi se S' x y := fun q => kcon_m hS1 (h4 x y x0 x1 y0 y1 q)
    have ab : ∀ {z w}, 0 ≤ z → z < 16 → 0 ≤ w → w < 16 → rep z = a → rep w = b → kcon fd fi se S' z w := fun {z w} z0 z1 w0 w1 p1 p2 => by
      rcases hr with ⟨e1, e2⟩ | ⟨e1, e2⟩
      · exact kcon_t (kcon_m hS1 (h4 z (fi p) z0 z1 hp.1.1 hp.1.2 (p1.trans e1.symm))) (kcon_t hpc (kcon_m hS1 (h4 (se p) w hp.2.1 hp.2.2 w0 w1 (e2.trans p2.symm))))
      · exact kcon_t (kcon_m hS1 (h4 z (se p) z0 z1 hp.2.1 hp.2.2 (p1.trans e2.symm))) (kcon_t (kcon_s hpc) (kcon_m hS1 (h4 (fi p) w hp.1.1 hp.1.2 w0 w1 (e1.trans p2.symm))))
    by_cases xa : rep x = a
    · by_cases ya : rep y = a
      · exact old (xa.trans ya.symm)
      · rw [rY xa, rN ya] at e
        exact ab x0 x1 y0 y1 xa e.symm
    · by_cases ya : rep y = a
      · rw [rN xa, rY ya] at e
        exact kcon_s (ab y0 y1 x0 x1 ya e)
      · rw [rN xa, rN ya] at e
        exact old e
theorem zUF_same (h : zUF rep rk ro fd fi se S) {p : Int} (hr : rep (fi p) = rep (se p)) (hS : ∀ l, S' l ↔ S l ∨ l = p) : zUF rep rk ro fd fi se S' := by
  obtain ⟨h1, h2, h3, h4⟩ := h
  refine ⟨h1, h2, fun l hl => ?_, fun x y x0 x1 y0 y1 e => kcon_m (fun l q => (hS l).mpr (Or.inl q)) (h4 x y x0 x1 y0 y1 e)⟩
  rcases (hS l).mp hl with q | q
  · exact h3 l q
  · rw [q]; exact hr
theorem zUF_con (h : zUF rep rk ro fd fi se S) {x y : Int} (hx : 0 ≤ x ∧ x < 16) (hy : 0 ≤ y ∧ y < 16) : rep x = rep y ↔ kcon fd fi se S x y := by
  obtain ⟨h1, h2, h3, h4⟩ := h
  refine ⟨h4 x y hx.1 hx.2 hy.1 hy.2, fun q => ?_⟩
  have := q (fun v => decide (rep v = rep x)) (fun a b ha hb => by
    show decide (rep a = rep x) = decide (rep b = rep x)
    rw [h2 a ha, h2 b hb]) (fun l hl => by
    show decide (rep (fi l) = rep x) = decide (rep (se l) = rep x)
    rw [h3 l hl])
  exact ((decide_eq_decide.mp this).mp rfl).symm
theorem zUF_cg (h : zUF rep rk ro fd fi se S) (hS : ∀ l, S' l ↔ S l) : zUF rep rk ro fd fi se S' := by
  have : S' = S := funext fun l => propext (hS l)
  rw [this]; exact h
/-- the start -/
theorem zUF_0 (hr : ∀ x, 0 ≤ x → x < 17 → (fd x → ro x = 16) ∧ (¬ fd x → ro x = x)) (h16 : ¬ fd 16) (hf : ∀ x, fd x → 0 ≤ x ∧ x < 16) (hS : ∀ l, ¬ S l) : ∃ rep rk, zUF rep rk ro fd fi se S := by
  refine ⟨ro, fun x => if x = 16 then 0 else 1, fun x x0 x1 => ?_, fun x hx => ?_, fun l hl => absurd hl (hS l), fun x y x0 x1 y0 y1 e => ?_⟩
  · have e16 := (hr 16 (by omega) (by omega)).2 h16
    by_cases q : fd x
    · have e := (hr x x0 x1).1 q
      have := hf x q
      rw [e, e16]
      refine ⟨by omega, by omega, rfl, rfl, id, fun z => ?_⟩
      dsimp only
      rw [if_pos rfl, if_neg (by omega)]; omega
    · have e := (hr x x0 x1).2 q
      rw [e, e]
      exact ⟨⟨x0, x1⟩, ⟨x0, x1⟩, rfl, rfl, id, fun z => absurd rfl z⟩
  · have := hf x hx
    rw [(hr x this.1 (by omega)).1 hx, (hr 16 (by omega) (by omega)).2 h16]
  · by_cases q : fd x
    · have e1 := (hr x x0 (by omega)).1 q
      by_cases q2 : fd y
      · exact fun c a _ => a x y q q2
      · have e2 := (hr y y0 (by omega)).2 q2; omega
    · have e1 := (hr x x0 (by omega)).2 q
      by_cases q2 : fd y
      · have e2 := (hr y y0 (by omega)).1 q2; omega
      · have e2 := (hr y y0 (by omega)).2 q2
        rw [e1, e2] at e; rw [e]; exact kcon_r _
end UF
section UF2
variable {Q : Int → zM → Prop} {M : zM}
theorem c110 {rep : Int → Int} {rk : Int → Nat} {fd S : Int → Prop} {fi se : Int → Int} (hU : zUF rep rk (M 153) fd fi se S) {v : Int} (hv : 0 ≤ v ∧ v < 17) (h : Q (rep v) M) : zF 110 Q [(2, 123), (0, v)] M := by
  have key : ∀ (n : Nat) (x : Int), rk x < n → (0 ≤ x ∧ x < 17) → rep x = rep v → zS 110 Q 2 [(2, 123), (0, v), (0, x)] [] M := by
    intro n
    induction n with
    | zero => intro x hx; omega
    | succ n ih =>
      intro x hx h0 h1
      obtain ⟨k1, k2, k3, k4, k5, k6⟩ := hU.1 x h0.1 h0.2
      refine s110_2 ⟨h0, fun q => ?_, fun q => ih _ (by have := k6 q; omega) k1 (k4.trans h1)⟩
      rw [← k5 q, h1]; exact h
  exact s110_0 (key (rk v + 1) v (by omega) hv rfl)
theorem zset_id (M : zM) (a i : Int) : zset M a i (M a i) = M := by
  funext x t
  unfold zset
  split
  · rename_i z; rw [z.1, z.2]
  · rfl
/-- all but the roots -/
theorem c130 (hW : zWN M) (hQ : ∀ M' r, (∀ a, a ≠ 153 → M' a = M a) → ((r = 1 ∧ kRad (mfd M) (M 128) (M 129) (mcl M)) ∨ (r = 0 ∧ ¬ kRad (mfd M) (M 128) (M 129) (mcl M))) → Q r M') : zF 130 Q [(2, 123)] M := by
  obtain ⟨W1, W2, W3⟩ := id hW
  have hmc : ∀ l, mcl M l → 0 ≤ l ∧ l < 24 := fun l q => by have := q.1; omega
  have walk : ∀ (n : Nat) (M' : zM) (p : Int) (rep : Int → Int) (rk : Int → Nat), p + n = M 123 3 → 0 ≤ p → (∀ a, a ≠ 153 → M' a = M a) → zUF rep rk (M' 153) (mfd M) (M 128) (M 129) (fun l => mcl M l ∧ l < p) → (∀ l, mcl M l → l < p → ¬ kcon (mfd M) (M 128) (M 129) (fun l' => mcl M l' ∧ l' < l) (M 128 l) (M 129 l)) → zS 130 Q 46 [(2, 123), (0, 1), (0, p), (3, 0), (3, 0)] [] M' := by
    intro n
    induction n with
    | zero =>
      intro M' p rep rk hp h0 hM hU hn
      refine s130_46 ⟨fun _ => ⟨Or.inr rfl, hQ M' 1 hM (Or.inl ⟨rfl, kcon_rad hmc (fun l hl => hn l hl (by have := hl.1; omega))⟩)⟩, fun q => ?_⟩
      rw [hM 123 (by decide)] at q; omega
    | succ n ih =>
      intro M' p rep rk hp h0 hM hU hn
      refine s130_46 ⟨fun q => ?_, fun q => ⟨fun z => absurd z (by decide), fun _ => ⟨by omega, fun q1 => ?_, fun q1 => ?_⟩⟩⟩
      · rw [hM 123 (by decide)] at q; omega
      · rw [zw_id (by omega)]
        rw [hM 132 (by decide)] at q1
        refine ih M' (p + 1) rep rk (by omega) (by omega) hM (zUF_cg hU (fun l => ⟨fun z => ⟨z.1, ?_⟩, fun z => ⟨z.1, by omega⟩⟩)) (fun l hl z => hn l hl ?_)
        · by_cases e : l = p
          · rw [e] at z; exact absurd z.1.2 q1
          · omega
        · by_cases e : l = p
          · rw [e] at hl; exact absurd hl.2 q1
          · omega
      · rw [hM 132 (by decide)] at q1
        have hl := (W3 p h0 (by omega)).1
        have hcp : mcl M p := ⟨⟨h0, by omega⟩, q1⟩
        rw [hM 128 (by decide)]
        have hSS : ∀ l, (mcl M l ∧ l < p + 1) ↔ (mcl M l ∧ l < p) ∨ l = p := fun l => by
          constructor
          · intro z
            by_cases e : l = p
            · exact Or.inr e
            · exact Or.inl ⟨z.1, by omega⟩
          · rintro (z | z)
            · exact ⟨z.1, by omega⟩
            · subst z; exact ⟨hcp, by omega⟩
        have hra := hU.1 _ hl.1.1 (show M 128 p < 17 by omega)
        have hrb := hU.1 _ hl.2.1.1 (show M 129 p < 17 by omega)
        refine c110 hU ⟨hl.1.1, by omega⟩ ?_
        rw [hM 129 (by decide)]
        refine c110 hU ⟨hl.2.1.1, by omega⟩ ⟨fun q2 => ⟨hra.2.1, ?_⟩, fun q2 => ⟨hra.2.1, ?_⟩⟩
        · have hnr : ¬ kRad (mfd M) (M 128) (M 129) (mcl M) := kcon_nrad hcp ((zUF_con hU hl.1 hl.2.1).mp q2)
          have fin : ∀ M'', (∀ a, a ≠ 153 → M'' a = M a) → ∀ v, zS 130 Q 46 [(2, 123), (0, 0), (0, v), (3, 0), (3, 0)] [] M'' := fun M'' hM'' v => s130_46 ⟨fun _ => ⟨Or.inl rfl, hQ M'' 0 hM'' (Or.inr ⟨rfl, hnr⟩)⟩, fun _ => ⟨fun _ => ⟨Or.inl rfl, hQ M'' 0 hM'' (Or.inr ⟨rfl, hnr⟩)⟩, fun z => absurd rfl z⟩⟩
          exact fin _ (fun a ha => by rw [zrow_o _ ha]; exact hM a ha) _
        · rw [zw_id (by omega)]
          obtain ⟨rep', rk', hU'⟩ := zUF_link hU ⟨hl.1, hl.2.1⟩ q2 (Or.inl ⟨rfl, rfl⟩) hSS
          refine ih _ (p + 1) rep' rk' (by omega) (by omega) (fun a ha => by rw [zrow_o _ ha]; exact hM a ha) (by rw [zrow_s]; exact hU') (fun l hl' z => ?_)
          by_cases e : l = p
          · subst e; exact fun y => q2 ((zUF_con hU hl.1 hl.2.1).mpr y)
          · exact hn l hl' (by omega)
  have start : ∀ (n : Nat) (M' : zM) (v : Int), v + n = 17 → 0 ≤ v → (∀ a, a ≠ 153 → M' a = M a) → (∀ x, 0 ≤ x → x < v → (mfd M x → M' 153 x = 16) ∧ (¬ mfd M x → M' 153 x = x)) → zS 130 Q 2 [(2, 123), (0, v), (3, 0), (3, 0), (3, 0)] [] M' := by
    intro n
    induction n with
    | zero =>
      intro M' v hv h0 hM hr
      refine s130_2 ⟨fun _ => ?_, fun q => by omega⟩
      obtain ⟨rep, rk, hU⟩ := zUF_0 (ro := M' 153) (fd := mfd M) (fi := M 128) (se := M 129) (S := fun l => mcl M l ∧ l < 0) (fun x x0 x1 => hr x x0 (by omega)) (fun z => by have := z.1; omega) (fun x z => z.1) (fun l z => by have := z.1.1; omega)
      exact walk (M 123 3).toNat M' 0 rep rk (by omega) (by omega) hM hU (fun l hl z => by have := hl.1; omega)
    | succ n ih =>
      intro M' v hv h0 hM hr
      have go : ∀ y, ((mfd M v → y = 16) ∧ (¬ mfd M v → y = v)) → zS 130 Q 2 [(2, 123), (0, zw (v + 1)), (3, 0), (3, 0), (3, 0)] [] (zset M' 153 v y) := fun y hy => by
        rw [zw_id (by omega)]
        refine ih _ (v + 1) (by omega) (by omega) (fun a ha => by rw [zrow_o _ ha]; exact hM a ha) (fun x x0 x1 => ?_)
        rw [zrow_s]
        by_cases e : x = v
        · rw [e, fset_s]; exact hy
        · rw [fset_o _ e]; exact hr x x0 (by omega)
      refine s130_2 ⟨fun q => by omega, fun _ => ⟨fun q => ⟨by omega, go v ⟨fun z => by have := z.1; omega, fun _ => rfl⟩⟩, fun q => ⟨by omega, fun q1 => ⟨by omega, go v ⟨fun z => ?_, fun _ => rfl⟩⟩, fun q1 => ⟨by omega, go 16 ⟨fun _ => rfl, fun z => ?_⟩⟩⟩⟩⟩
      · rw [hM 126 (by decide)] at q1; exact absurd z.2 q1
      · rw [hM 126 (by decide)] at q1; exact absurd ⟨⟨h0, q⟩, q1⟩ z
  exact s130_0 (start 17 M 0 (by omega) (by omega) (fun _ _ => rfl) (fun x a b => by omega))
end UF2
