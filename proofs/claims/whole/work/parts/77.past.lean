/-! states: the net as a whole, copies of it, the class's past -/
def shn (M : zM) (w : Int) : zM := fun a => M (a - 4 + w)
def nst (M : zM) : Prop := zWC M ∧ psx (pnet M) (M 4 3) ∧ (∀ l, tbs (M 4 4) l → l < M 4 2) ∧ r32 (M 4 0) ∧ r32 (M 4 1) ∧ r32 (M 4 4)
def neq (M M' : zM) : Prop := (∀ j, 0 ≤ j → j ≤ 4 → M' 4 j = M 4 j) ∧ (∀ v, 0 ≤ v → v < 16 → M' 5 v = M 5 v) ∧ (∀ l, 0 ≤ l → l < 24 → M' 6 l = M 6 l ∧ M' 7 l = M 7 l ∧ M' 8 l = M 8 l ∧ M' 9 l = M 9 l) ∧ (∀ i, 0 ≤ i → i < 17 → M' 10 i = M 10 i) ∧ (∀ i, 0 ≤ i → i < 48 → M' 11 i = M 11 i)
theorem neq_r {M : zM} : neq M M := ⟨fun _ _ _ => rfl, fun _ _ _ => rfl, fun _ _ _ => ⟨rfl, rfl, rfl, rfl⟩, fun _ _ _ => rfl, fun _ _ _ => rfl⟩
theorem neq_t {M M' M'' : zM} (h : neq M M') (g : neq M' M'') : neq M M'' := by
  obtain ⟨h1, h2, h3, h4, h5⟩ := h
  obtain ⟨g1, g2, g3, g4, g5⟩ := g
  refine ⟨fun j a b => (g1 j a b).trans (h1 j a b), fun j a b => (g2 j a b).trans (h2 j a b), fun l a b => ?_, fun j a b => (g4 j a b).trans (h4 j a b), fun j a b => (g5 j a b).trans (h5 j a b)⟩
  have x := h3 l a b
  have y := g3 l a b
  exact ⟨y.1.trans x.1, y.2.1.trans x.2.1, y.2.2.1.trans x.2.2.1, y.2.2.2.trans x.2.2.2⟩
theorem neq_cg {M M' M'' : zM} (h : neq M M') (hr : ∀ a, 4 ≤ a → a ≤ 11 → M'' a = M' a) : neq M M'' := by
  unfold neq
  rw [hr 4 (by omega) (by omega), hr 5 (by omega) (by omega), hr 6 (by omega) (by omega), hr 7 (by omega) (by omega), hr 8 (by omega) (by omega), hr 9 (by omega) (by omega), hr 10 (by omega) (by omega), hr 11 (by omega) (by omega)]
  exact h
theorem zWC_neq {M M' : zM} (h : zWC M) (g : neq M M') : zWC M' := by
  obtain ⟨w1, w2, w3, w4, w5, w6⟩ := h
  obtain ⟨g1, g2, g3, g4, g5⟩ := g
  have e0 := g1 0 (by omega) (by omega)
  have e1 := g1 1 (by omega) (by omega)
  have e2 := g1 2 (by omega) (by omega)
  refine ⟨by rw [e2]; exact w1, by rw [e0]; exact w2, by rw [e0, e1]; exact w3, fun v v0 v1 => by rw [e0, e1, g2 v v0 v1]; exact w4 v v0 v1, fun l l0 l1 => ?_, fun v v0 v1 => ?_⟩
  · rw [e2] at l1
    have := g3 l l0 (by omega)
    rw [e0, this.1, this.2.1, this.2.2.1, this.2.2.2]
    exact w5 l l0 l1
  · obtain ⟨t1, t2, t3, t4⟩ := w6 v v0 v1
    rw [g4 v v0 (by omega), g4 (v + 1) (by omega) (by omega), e2]
    refine ⟨t1, fun i i0 i1 => ?_, fun i j i0 i1 j0 j1 e => ?_, fun l l0 l1 hl => ?_⟩
    · rw [g5 i (by omega) (by omega)]
      have := t2 i i0 i1
      have e6 := g3 (M 11 i) this.1.1 (by omega)
      rw [e6.1, e6.2.1]
      exact this
    · rw [g5 i (by omega) (by omega), g5 j (by omega) (by omega)] at e
      exact t3 i j i0 i1 j0 j1 e
    · have e6 := g3 l l0 (by omega)
      rw [e6.1, e6.2.1] at hl
      obtain ⟨i, a, b, c⟩ := t4 l l0 l1 hl
      exact ⟨i, a, b, by rw [g5 i (by omega) (by omega)]; exact c⟩
theorem nst_neq {M M' : zM} (h : nst M) (g : neq M M') : nst M' := by
  have hW := h.1
  have hW' := zWC_neq hW g
  obtain ⟨_, ⟨⟨p1, p2⟩, p3, p4⟩, h3, h4, h5, h6⟩ := h
  obtain ⟨g1, g2, g3, g4, g5⟩ := g
  have e0 := g1 0 (by omega) (by omega)
  have e1 := g1 1 (by omega) (by omega)
  have e2 := g1 2 (by omega) (by omega)
  have e3 := g1 3 (by omega) (by omega)
  have e4 := g1 4 (by omega) (by omega)
  have hm := hW.1
  rw [pnet_42] at p1
  refine ⟨hW', ⟨⟨fun l hl => ?_, ?_⟩, fun l hl => ?_, by rw [e3]; exact p4⟩, by rw [e4, e2]; exact h3, by rw [e0]; exact h4, by rw [e1]; exact h5, by rw [e4]; exact h6⟩
  · rw [pnet_42, e2]; rw [e3] at hl; exact p1 l hl
  · unfold prad at p2 ⊢
    rw [pnet_41, pnet_6, pnet_7] at p2 ⊢
    rw [e1, e3]
    refine kRad_cg (fun l hl => ?_) p2
    have := g3 l hl.1.1 (by have := p1 l hl; omega)
    exact ⟨this.1.symm, this.2.1.symm⟩
  · rw [pnet_44, e4]; rw [e3] at hl
    have := p3 l hl
    rw [pnet_44] at this; exact this
theorem mN_neq {M M' V : zM} (hW : zWC M) (h : mN (pnet M) (M 4 3) V) (g : neq M M') : mN (pnet M') (M' 4 3) V := by
  obtain ⟨g1, g2, g3, g4, g5⟩ := g
  have e0 := g1 0 (by omega) (by omega)
  have e1 := g1 1 (by omega) (by omega)
  have e2 := g1 2 (by omega) (by omega)
  have e3 := g1 3 (by omega) (by omega)
  have e4 := g1 4 (by omega) (by omega)
  have hm := hW.1
  obtain ⟨h1, h2, h3⟩ := h
  rw [pnet_42] at h1
  refine ⟨by rw [pnet_42, e2]; exact h1, fun v v0 v1 => ?_, fun l l0 l1 => ?_⟩
  · rw [pnet_40, pnet_41, pnet_5, e0, e1, g2 v v0 v1]
    have := h2 v v0 v1
    rw [pnet_40, pnet_41, pnet_5] at this
    exact this
  · rw [pnet_42, e2] at l1
    have := h3 l l0 (by rw [pnet_42]; exact l1)
    rw [pnet_6, pnet_7, pnet_8, pnet_9, pnet_44] at this ⊢
    have e := g3 l l0 (by omega)
    rw [e.1, e.2.1, e.2.2.1, e.2.2.2, e3, e4]
    exact this
section CP
variable {Q : Int → zM → Prop} {M : zM}
theorem c15 {w o : Int} (kw : zKT w = (2, 1)) (ko : zKT o = (2, 1)) (hwo : w ≠ o) (hQ : ∀ M', (∀ a, ¬ (w ≤ a ∧ a ≤ w + 7) → M' a = M a) → (∀ j, ¬ (0 ≤ j ∧ j ≤ 4) → M' w j = M w j) → neq (shn M o) (shn M' w) → Q 0 M') : zF 15 Q [(2, w), (2, o)] M := by
  have iw := zin_1 kw
  have io := zin_1 ko
  have far : w + 8 ≤ o ∨ o + 8 ≤ w := by omega
  clear iw io
  refine s15_0 ko kw ?_
  have q1 : (zset M w 0 (M o 0)) o 1 = M o 1 := by rw [zrow_o _ (by omega)]
  rw [q1]
  have q2 : (zset (zset M w 0 (M o 0)) w 1 (M o 1)) o 2 = M o 2 := by rw [zrow_o _ (by omega), zrow_o _ (by omega)]
  rw [q2]
  have q3 : (zset (zset (zset M w 0 (M o 0)) w 1 (M o 1)) w 2 (M o 2)) o 3 = M o 3 := by rw [zrow_o _ (by omega), zrow_o _ (by omega), zrow_o _ (by omega)]
  rw [q3]
  have q4 : (zset (zset (zset (zset M w 0 (M o 0)) w 1 (M o 1)) w 2 (M o 2)) w 3 (M o 3)) o 4 = M o 4 := by rw [zrow_o _ (by omega), zrow_o _ (by omega), zrow_o _ (by omega), zrow_o _ (by omega)]
  rw [q4]
  generalize hM1 : zset (zset (zset (zset (zset M w 0 (M o 0)) w 1 (M o 1)) w 2 (M o 2)) w 3 (M o 3)) w 4 (M o 4) = M1
  have r1 : M1 w = fset (fset (fset (fset (fset (M w) 0 (M o 0)) 1 (M o 1)) 2 (M o 2)) 3 (M o 3)) 4 (M o 4) := by rw [← hM1, zrow_s, zrow_s, zrow_s, zrow_s, zrow_s]
  have o1 : ∀ a, a ≠ w → M1 a = M a := fun a ha => by rw [← hM1, zrow_o _ ha, zrow_o _ ha, zrow_o _ ha, zrow_o _ ha, zrow_o _ ha]
  generalize hM2 : zcopy (zcopy (zcopy (zcopy (zcopy (zcopy (zcopy M1 (o + 1) 0 (w + 1) 0 16) (o + 2) 0 (w + 2) 0 24) (o + 3) 0 (w + 3) 0 24) (o + 4) 0 (w + 4) 0 24) (o + 5) 0 (w + 5) 0 24) (o + 6) 0 (w + 6) 0 17) (o + 7) 0 (w + 7) 0 48 = M2
  have fr : ∀ a, ¬ (w + 1 ≤ a ∧ a ≤ w + 7) → M2 a = M1 a := fun a ha => by
    rw [← hM2, zcopy_o _ (by omega), zcopy_o _ (by omega), zcopy_o _ (by omega), zcopy_o _ (by omega), zcopy_o _ (by omega), zcopy_o _ (by omega), zcopy_o _ (by omega)]
  have c1 : ∀ j, 0 ≤ j → j < 16 → M2 (w + 1) j = M (o + 1) j := fun j a b => by
    rw [← hM2, zcopy_o _ (by omega), zcopy_o _ (by omega), zcopy_o _ (by omega), zcopy_o _ (by omega), zcopy_o _ (by omega), zcopy_o _ (by omega), zcopy_d _ a b, o1 (o + 1) (by omega)]
  have c2 : ∀ j, 0 ≤ j → j < 24 → M2 (w + 2) j = M (o + 2) j := fun j a b => by
    rw [← hM2, zcopy_o _ (by omega), zcopy_o _ (by omega), zcopy_o _ (by omega), zcopy_o _ (by omega), zcopy_o _ (by omega), zcopy_d _ a b, zcopy_o _ (by omega), o1 (o + 2) (by omega)]
  have c3 : ∀ j, 0 ≤ j → j < 24 → M2 (w + 3) j = M (o + 3) j := fun j a b => by
    rw [← hM2, zcopy_o _ (by omega), zcopy_o _ (by omega), zcopy_o _ (by omega), zcopy_o _ (by omega), zcopy_d _ a b, zcopy_o _ (by omega), zcopy_o _ (by omega), o1 (o + 3) (by omega)]
  have c4 : ∀ j, 0 ≤ j → j < 24 → M2 (w + 4) j = M (o + 4) j := fun j a b => by
    rw [← hM2, zcopy_o _ (by omega), zcopy_o _ (by omega), zcopy_o _ (by omega), zcopy_d _ a b, zcopy_o _ (by omega), zcopy_o _ (by omega), zcopy_o _ (by omega), o1 (o + 4) (by omega)]
  have c5 : ∀ j, 0 ≤ j → j < 24 → M2 (w + 5) j = M (o + 5) j := fun j a b => by
    rw [← hM2, zcopy_o _ (by omega), zcopy_o _ (by omega), zcopy_d _ a b, zcopy_o _ (by omega), zcopy_o _ (by omega), zcopy_o _ (by omega), zcopy_o _ (by omega), o1 (o + 5) (by omega)]
  have c6 : ∀ j, 0 ≤ j → j < 17 → M2 (w + 6) j = M (o + 6) j := fun j a b => by
    rw [← hM2, zcopy_o _ (by omega), zcopy_d _ a b, zcopy_o _ (by omega), zcopy_o _ (by omega), zcopy_o _ (by omega), zcopy_o _ (by omega), zcopy_o _ (by omega), o1 (o + 6) (by omega)]
  have c7 : ∀ j, 0 ≤ j → j < 48 → M2 (w + 7) j = M (o + 7) j := fun j a b => by
    rw [← hM2, zcopy_d _ a b, zcopy_o _ (by omega), zcopy_o _ (by omega), zcopy_o _ (by omega), zcopy_o _ (by omega), zcopy_o _ (by omega), zcopy_o _ (by omega), o1 (o + 7) (by omega)]
  have sh : ∀ (X : zM) (u k : Int), shn X u (4 + k) = X (u + k) := fun X u k => by unfold shn; congr 1; omega
  refine hQ M2 (fun a ha => ?_) (fun j hj => ?_) ⟨fun j a b => ?_, fun v a b => ?_, fun l a b => ?_, fun i a b => ?_, fun i a b => ?_⟩
  · rw [fr a (by omega), o1 a (by omega)]
  · rw [fr w (by omega), r1, fset_o _ (by omega), fset_o _ (by omega), fset_o _ (by omega), fset_o _ (by omega), fset_o _ (by omega)]
  · rw [show shn M2 w 4 = M2 w by unfold shn; congr 1; omega, show shn M o 4 = M o by unfold shn; congr 1; omega, fr w (by omega), r1]
    have : j = 0 ∨ j = 1 ∨ j = 2 ∨ j = 3 ∨ j = 4 := by omega
    unfold fset
    rcases this with e | e | e | e | e <;> simp [e]
  · rw [show shn M2 w 5 = M2 (w + 1) from sh M2 w 1, show shn M o 5 = M (o + 1) from sh M o 1]; exact c1 v a b
  · rw [show shn M2 w 6 = M2 (w + 2) from sh M2 w 2, show shn M o 6 = M (o + 2) from sh M o 2, show shn M2 w 7 = M2 (w + 3) from sh M2 w 3, show shn M o 7 = M (o + 3) from sh M o 3, show shn M2 w 8 = M2 (w + 4) from sh M2 w 4, show shn M o 8 = M (o + 4) from sh M o 4, show shn M2 w 9 = M2 (w + 5) from sh M2 w 5, show shn M o 9 = M (o + 5) from sh M o 5]
    exact ⟨c2 l a b, c3 l a b, c4 l a b, c5 l a b⟩
  · rw [show shn M2 w 10 = M2 (w + 6) from sh M2 w 6, show shn M o 10 = M (o + 6) from sh M o 6]; exact c6 i a b
  · rw [show shn M2 w 11 = M2 (w + 7) from sh M2 w 7, show shn M o 11 = M (o + 7) from sh M o 7]; exact c7 i a b
theorem shn_4 (M : zM) : shn M 4 = M := by
  funext a
  unfold shn
  congr 1
  omega
/-- the rows that keep states -/
def zkr (w : Int) : Prop := w = 30 ∨ w = 38 ∨ w = 46 ∨ w = 54 ∨ w = 62 ∨ w = 70
theorem zkr_k {w : Int} (h : zkr w) : zKT w = (2, 1) := by
  rcases h with e | e | e | e | e | e <;> subst e <;> rfl
def cP (M : zM) (A : List zM) : Prop := (M 28 1 = (A.length : Int) ∧ A.length ≤ 6) ∧ (∀ k, 0 ≤ k → k < 6 → zkr (M 29 k)) ∧ (∀ k k', 0 ≤ k → k < 6 → 0 ≤ k' → k' < 6 → M 29 k = M 29 k' → k = k') ∧ ∀ k : Nat, (h : k < A.length) → neq A[k] (shn M (M 29 k))
def ppush (A : List zM) (X : zM) : List zM := (if A.length = 6 then A.tail else A) ++ [X]
theorem shn_cg {M M' : zM} {w : Int} (h : ∀ a, w ≤ a → a ≤ w + 7 → M' a = M a) {X : zM} (g : neq X (shn M w)) : neq X (shn M' w) := neq_cg g (fun a p q => by unfold shn; exact h _ (by omega) (by omega))
/-- room for one more, then the net is put there -/
theorem c26_b {A : List zM} (h28 : M 28 1 = (A.length : Int)) (hl : A.length < 6) (hr : ∀ k, 0 ≤ k → k < 6 → zkr (M 29 k)) (hi : ∀ k k', 0 ≤ k → k < 6 → 0 ≤ k' → k' < 6 → M 29 k = M 29 k' → k = k') (hA : ∀ k : Nat, (h : k < A.length) → neq A[k] (shn M (M 29 k)))
    (hQ : ∀ M', (∀ a, ¬ (28 ≤ a ∧ a ≤ 77) → M' a = M a) → cP M' (A ++ [M]) → Q 0 M') : zF 15 (fun _ M4 => Q 0 (zset M4 28 1 (zw ((M4 28 1) + 1)))) [(2, (M 29 (M 28 1))), (2, 4)] M := by
  have hw := hr (M 28 1) (by omega) (by omega)
  have hwr : 30 ≤ M 29 (M 28 1) ∧ M 29 (M 28 1) + 7 ≤ 77 := by unfold zkr at hw; omega
  refine c15 (zkr_k hw) rfl (by omega) (fun M1 g1 g2 g3 => ?_)
  rw [shn_4] at g3
  have e28 : M1 28 = M 28 := g1 28 (by omega)
  have e29 : M1 29 = M 29 := g1 29 (by omega)
  rw [e28, h28, zw_id (by omega)]
  rw [h28] at g1 g3 hwr
  generalize hM2 : zset M1 28 1 ((A.length : Int) + 1) = M2
  have r2 : M2 28 = fset (M1 28) 1 ((A.length : Int) + 1) := by rw [← hM2, zrow_s]
  have o2 : ∀ a, a ≠ 28 → M2 a = M1 a := fun a ha => by rw [← hM2, zrow_o _ ha]
  have f29 : M2 29 = M 29 := by rw [o2 29 (by decide), e29]
  refine hQ M2 (fun a ha => by rw [o2 a (by omega), g1 a (by omega)]) ⟨⟨by rw [r2, fset_s, List.length_append, List.length_singleton]; omega, by rw [List.length_append, List.length_singleton]; omega⟩, by rw [f29]; exact hr, by rw [f29]; exact hi, fun k hk => ?_⟩
  rw [f29]
  by_cases e : k < A.length
  · rw [List.getElem_append_left e]
    have hk1 := hr k (by omega) (by omega)
    have hne : M 29 k ≠ M 29 (A.length : Int) := fun z => by have := hi k (A.length : Int) (by omega) (by omega) (by omega) (by omega) z; omega
    have hw' := hr (A.length : Int) (by omega) (by omega)
    refine shn_cg (M := M) (fun a p q => ?_) (hA k e)
    unfold zkr at hk1 hw'
    rw [o2 a (by omega), g1 a (by omega)]
  · have ek : k = A.length := by rw [List.length_append, List.length_singleton] at hk; omega
    subst ek
    have es : (A ++ [M])[A.length] = M := by simp
    rw [es]
    refine shn_cg (M := M1) (fun a p q => o2 a (by omega)) g3
theorem c28 (hr : ∀ k, 0 ≤ k → k < 6 → zkr (M 29 k)) (hQ : ∀ M', (∀ a, a ≠ 28 → a ≠ 29 → M' a = M a) → (∀ j, j ≠ 1 → M' 28 j = M 28 j) → M' 28 1 = 5 → (∀ k, 0 ≤ k → k < 5 → M' 29 k = M 29 (k + 1)) → M' 29 5 = M 29 0 → Q 0 M') : zF 28 Q [(2, 28)] M := by
  have h0 := hr 0 (by omega) (by omega)
  have p0 : 0 < M 29 0 := by unfold zkr at h0; omega
  have key : ∀ (n k : Nat) (M' : zM), k + n = 6 → 1 ≤ k → (∀ a, a ≠ 29 → M' a = M a) → (∀ i, 0 ≤ i → i < (k : Int) - 1 → M' 29 i = M 29 (i + 1)) → (∀ i, (k : Int) - 1 < i → i < 6 → M' 29 i = M 29 i) → zS 28 Q 9 [(2, 28), (2, M 29 0), (0, (k : Int))] [] M' := by
    intro n
    induction n with
    | zero =>
      intro k M' hk hk1 hM h1 h2
      refine s28_9 ⟨fun _ => ⟨p0, zkr_k h0, hQ _ (fun a x y => by rw [zrow_o _ x, zrow_o _ y]; exact hM a y) (fun j hj => by rw [zrow_s, fset_o _ hj, zrow_o _ (by decide), hM 28 (by decide)]) (by rw [zrow_s, fset_s]) (fun i i0 i1 => ?_) ?_⟩, fun q => by omega⟩
      · rw [zrow_o _ (by decide), zrow_s, fset_o _ (by omega)]; exact h1 i i0 (by omega)
      · rw [zrow_o _ (by decide), zrow_s, fset_s]
    | succ n ih =>
      intro k M' hk hk1 hM h1 h2
      have e := h2 k (by omega) (by omega)
      have hkr := hr k (by omega) (by omega)
      refine s28_9 ⟨fun q => by omega, fun _ => ⟨by omega, by rw [zw_id (by omega)]; omega, by rw [e]; exact zkr_k hkr, ?_⟩⟩
      rw [zw_id (x := (k : Int) + 1) (by omega), zw_id (x := (k : Int) - 1) (by omega), e]
      refine ih (k + 1) _ (by omega) (by omega) (fun a ha => by rw [zrow_o _ ha]; exact hM a ha) (fun i i0 i1 => ?_) (fun i i0 i1 => ?_)
      · rw [zrow_s]
        by_cases z : i = (k : Int) - 1
        · rw [z, fset_s]; congr 1; omega
        · rw [fset_o _ z]; exact h1 i i0 (by omega)
      · rw [zrow_s, fset_o _ (by omega)]; exact h2 i (by omega) i1
  exact s28_0 ⟨p0, key 5 1 M (by omega) (by omega) (fun _ _ => rfl) (fun i a b => by omega) (fun i _ _ => rfl)⟩
theorem c26 {A : List zM} (h : cP M A) (hQ : ∀ M', (∀ a, ¬ (28 ≤ a ∧ a ≤ 77) → M' a = M a) → (∃ X, neq M X ∧ cP M' (ppush A X)) → Q 0 M') : zF 26 Q [(2, 28), (2, 4)] M := by
  obtain ⟨⟨h1, h2⟩, h3, h4, h5⟩ := h
  refine s26_0 ⟨fun q => ?_, fun q => ?_⟩
  · have hk := h3 (M 28 1) (by omega) (by omega)
    have hpos : 0 < M 29 (M 28 1) := by unfold zkr at hk; omega
    refine ⟨by omega, hpos, fun z => by omega, fun _ => ⟨zkr_k hk, c26_b h1 (by omega) h3 h4 h5 (fun M' a b => hQ M' a ⟨M, neq_r, ?_⟩)⟩⟩
    unfold ppush
    rw [if_neg (by omega)]; exact b
  · have hl : A.length = 6 := by omega
    refine c28 h3 (fun M1 g1 g2 g3 g4 g5 => ?_)
    have r3 : ∀ k, 0 ≤ k → k < 6 → zkr (M1 29 k) := fun k k0 k1 => by
      by_cases z : k = 5
      · rw [z, g5]; exact h3 0 (by omega) (by omega)
      · rw [g4 k k0 (by omega)]; exact h3 (k + 1) (by omega) (by omega)
    have r4 : ∀ k k', 0 ≤ k → k < 6 → 0 ≤ k' → k' < 6 → M1 29 k = M1 29 k' → k = k' := fun k k' k0 k1 k0' k1' e => by
      by_cases z : k = 5 <;> by_cases z' : k' = 5
      · omega
      · rw [z, g5, g4 k' k0' (by omega)] at e
        have := h4 0 (k' + 1) (by omega) (by omega) (by omega) (by omega) e; omega
      · rw [z', g5, g4 k k0 (by omega)] at e
        have := h4 (k + 1) 0 (by omega) (by omega) (by omega) (by omega) e; omega
      · rw [g4 k k0 (by omega), g4 k' k0' (by omega)] at e
        have := h4 (k + 1) (k' + 1) (by omega) (by omega) (by omega) (by omega) e; omega
    have hk := r3 (M1 28 1) (by omega) (by omega)
    have hpos : 0 < M1 29 (M1 28 1) := by unfold zkr at hk; omega
    have lt : A.tail.length = 5 := by rw [List.length_tail]; omega
    refine ⟨by omega, hpos, fun z => by omega, fun _ => ⟨zkr_k hk, c26_b (A := A.tail) (by rw [g3, lt]; rfl) (by omega) r3 r4 (fun k hk' => ?_) (fun M' a b => hQ M' (fun x hx => by rw [a x hx, g1 x (by omega) (by omega)]) ⟨M1, neq_cg neq_r (fun x p q => g1 x (by omega) (by omega)), ?_⟩)⟩⟩
    · rw [List.getElem_tail, g4 k (by omega) (by omega)]
      have := h5 (k + 1) (by omega)
      rw [show ((k + 1 : Nat) : Int) = (k : Int) + 1 by omega] at this
      have hkr := h3 ((k : Int) + 1) (by omega) (by omega)
      exact shn_cg (M := M) (fun x p q => g1 x (by unfold zkr at hkr; omega) (by unfold zkr at hkr; omega)) this
    · unfold ppush
      rw [if_pos hl]; exact b
theorem c27 {A : List zM} {X : zM} (h : cP M (A ++ [X])) (hQ : ∀ M', (∀ a, ¬ (4 ≤ a ∧ a ≤ 11) → a ≠ 28 → M' a = M a) → M' 28 1 = (A.length : Int) → neq X M' → cP M' A → Q 0 M') : zF 27 Q [(2, 28), (2, 4)] M := by
  obtain ⟨⟨h1, h2⟩, h3, h4, h5⟩ := h
  rw [List.length_append, List.length_singleton] at h1 h2
  refine s27_0 ⟨fun q => ?_, fun q => by omega⟩
  rw [zw_id (by omega), show M 28 1 - 1 = (A.length : Int) by omega]
  have hk := h3 (A.length : Int) (by omega) (by omega)
  have hkr := hk
  unfold zkr at hkr
  refine ⟨by omega, by omega, fun z => by omega, fun _ => ?_⟩
  generalize hM1 : zset M 28 1 (A.length : Int) = M1
  have o1 : ∀ a, a ≠ 28 → M1 a = M a := fun a ha => by rw [← hM1, zrow_o _ ha]
  have e1 : M1 28 1 = (A.length : Int) := by rw [← hM1, zrow_s, fset_s]
  refine c15 rfl (zkr_k hk) (by omega) (fun M2 g1 g2 g3 => ?_)
  rw [shn_4] at g3
  have last := h5 A.length (by simp)
  have es : (A ++ [X])[A.length] = X := by simp
  rw [es] at last
  have last' : neq X (shn M1 (M 29 (A.length : Int))) := shn_cg (M := M) (fun a p q => o1 a (by omega)) last
  refine hQ M2 (fun a p q => by rw [g1 a (by omega), o1 a q]) (by rw [g1 28 (by omega)]; exact e1) (neq_t last' g3) ⟨⟨by rw [g1 28 (by omega)]; exact e1, by omega⟩, by rw [g1 29 (by omega), o1 29 (by decide)]; exact h3, by rw [g1 29 (by omega), o1 29 (by decide)]; exact h4, fun k hk' => ?_⟩
  rw [g1 29 (by omega), o1 29 (by decide)]
  have := h5 k (by rw [List.length_append]; omega)
  rw [List.getElem_append_left hk'] at this
  have hkk := h3 k (by omega) (by omega)
  unfold zkr at hkk
  exact shn_cg (M := M) (fun a p q => by rw [g1 a (by omega), o1 a (by omega)]) this
end CP
