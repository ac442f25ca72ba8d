/-! the reference's past: writes, notes, back -/
def mvw (M : zM) (o : Int) : zM := fun a i => if a = 123 then M 133 (o + 56) else if a = 126 then M 133 (o + i) else if a = 127 then M 133 (o + 16 + i) else if a = 132 then M 133 (o + 32 + i) else if a = 128 then M 133 (o + 57 + i) else if a = 129 then M 133 (o + 57 + 24 + i) else if a = 130 then M 133 (o + 57 + 48 + i) else M 133 (o + 57 + 72 + i)
theorem mvw_r (M : zM) (o i : Int) : mvw M o 123 i = M 133 (o + 56) ∧ mvw M o 126 i = M 133 (o + i) ∧ mvw M o 127 i = M 133 (o + 16 + i) ∧ mvw M o 132 i = M 133 (o + 32 + i) ∧ mvw M o 128 i = M 133 (o + 57 + i) ∧ mvw M o 129 i = M 133 (o + 57 + 24 + i) ∧ mvw M o 130 i = M 133 (o + 57 + 48 + i) ∧ mvw M o 131 i = M 133 (o + 57 + 72 + i) := ⟨rfl, rfl, rfl, rfl, rfl, rfl, rfl, rfl⟩
theorem mN_mv {N V V' : zM} {S : Int} (hm : N 4 2 ≤ 24) (h : mN N S V) (h3 : V' 123 3 = V 123 3) (hv : ∀ v, 0 ≤ v → v < 16 → V' 126 v = V 126 v ∧ V' 127 v = V 127 v) (hl : ∀ l, 0 ≤ l → l < 24 → V' 128 l = V 128 l ∧ V' 129 l = V 129 l ∧ V' 130 l = V 130 l ∧ V' 131 l = V 131 l ∧ V' 132 l = V 132 l) : mN N S V' := by
  refine ⟨by rw [h3]; exact h.1, fun v v0 v1 => ?_, fun l l0 l1 => ?_⟩
  · rw [(hv v v0 v1).1, (hv v v0 v1).2]; exact h.2.1 v v0 v1
  · have e := hl l l0 (by omega)
    rw [e.1, e.2.1, e.2.2.1, e.2.2.2.1, e.2.2.2.2]; exact h.2.2 l l0 l1
theorem mvw_cg {N M M' : zM} {S o o' : Int} (hm : N 4 2 ≤ 24) (h : mN N S (mvw M o)) (g : ∀ j, 0 ≤ j → j < 153 → M' 133 (o' + j) = M 133 (o + j)) : mN N S (mvw M' o') := by
  have r := mvw_r M o
  have r' := mvw_r M' o'
  refine mN_mv hm h ?_ (fun v v0 v1 => ⟨?_, ?_⟩) (fun l l0 l1 => ⟨?_, ?_, ?_, ?_, ?_⟩)
  · rw [(r 3).1, (r' 3).1]; exact g 56 (by omega) (by omega)
  · rw [(r v).2.1, (r' v).2.1]; exact g v v0 (by omega)
  · rw [(r v).2.2.1, (r' v).2.2.1, Int.add_assoc, Int.add_assoc]; exact g (16 + v) (by omega) (by omega)
  · rw [(r l).2.2.2.2.1, (r' l).2.2.2.2.1, Int.add_assoc, Int.add_assoc]; exact g (57 + l) (by omega) (by omega)
  · rw [(r l).2.2.2.2.2.1, (r' l).2.2.2.2.2.1, show o' + 57 + 24 + l = o' + (81 + l) by omega, show o + 57 + 24 + l = o + (81 + l) by omega]; exact g (81 + l) (by omega) (by omega)
  · rw [(r l).2.2.2.2.2.2.1, (r' l).2.2.2.2.2.2.1, show o' + 57 + 48 + l = o' + (105 + l) by omega, show o + 57 + 48 + l = o + (105 + l) by omega]; exact g (105 + l) (by omega) (by omega)
  · rw [(r l).2.2.2.2.2.2.2, (r' l).2.2.2.2.2.2.2, show o' + 57 + 72 + l = o' + (129 + l) by omega, show o + 57 + 72 + l = o + (129 + l) by omega]; exact g (129 + l) (by omega) (by omega)
  · rw [(r l).2.2.2.1, (r' l).2.2.2.1, Int.add_assoc, Int.add_assoc]; exact g (32 + l) (by omega) (by omega)
def mP (M : zM) (A : List zM) : Prop := M 123 11 = (A.length : Int) ∧ A.length ≤ 6 ∧ ∀ k : Nat, (h : k < A.length) → mN (pnet A[k]) (A[k] 4 3) (mvw M (153 * (k : Int)))
section MPA
variable {Q : Int → zM → Prop} {M : zM}
theorem c114 {o : Int} (ho : 0 ≤ o ∧ o + 153 ≤ 918) (hQ : ∀ M', (∀ a, a ≠ 133 → M' a = M a) → (∀ i, ¬ (o ≤ i ∧ i < o + 153) → M' 133 i = M 133 i) → M' 133 (o + 56) = M 123 3 → (∀ v, 0 ≤ v → v < 16 → M' 133 (o + v) = M 126 v ∧ M' 133 (o + 16 + v) = M 127 v) → (∀ l, 0 ≤ l → l < 24 → M' 133 (o + 57 + l) = M 128 l ∧ M' 133 (o + 57 + 24 + l) = M 129 l ∧ M' 133 (o + 57 + 48 + l) = M 130 l ∧ M' 133 (o + 57 + 72 + l) = M 131 l ∧ M' 133 (o + 32 + l) = M 132 l) → Q 0 M') : zF 114 Q [(2, 123), (0, o)] M := by
  have second : ∀ (n k : Nat) (M' : zM), k + n = 24 → (∀ a, a ≠ 133 → M' a = M a) → (∀ i, ¬ (o ≤ i ∧ i < o + 153) → M' 133 i = M 133 i) → M' 133 (o + 56) = M 123 3 → (∀ v, 0 ≤ v → v < 16 → M' 133 (o + v) = M 126 v ∧ M' 133 (o + 16 + v) = M 127 v) → (∀ l, 0 ≤ l → l < (k : Int) → M' 133 (o + 57 + l) = M 128 l ∧ M' 133 (o + 57 + 24 + l) = M 129 l ∧ M' 133 (o + 57 + 48 + l) = M 130 l ∧ M' 133 (o + 57 + 72 + l) = M 131 l ∧ M' 133 (o + 32 + l) = M 132 l) → zS 114 Q 60 [(2, 123), (0, o), (0, (k : Int))] [] M' := by
    intro n
    induction n with
    | zero =>
      intro k M' hk h1 h2 h3 h4 h5
      exact s114_60 ⟨fun _ => hQ M' h1 h2 h3 h4 (fun l l0 l1 => h5 l l0 (by omega)), fun q => by omega⟩
    | succ n ih =>
      intro k M' hk h1 h2 h3 h4 h5
      refine s114_60 ⟨fun q => by omega, fun _ => ⟨by omega, ?_⟩⟩
      rw [zw_id (x := o + 32) (by omega), zw_id (x := o + 57) (by omega), zw_id (x := o + 57 + 24) (by omega), zw_id (x := o + 57 + 48) (by omega), zw_id (x := o + 57 + 72) (by omega), zw_id (x := o + 32 + (k : Int)) (by omega), zw_id (x := o + 57 + (k : Int)) (by omega), zw_id (x := o + 57 + 24 + (k : Int)) (by omega), zw_id (x := o + 57 + 48 + (k : Int)) (by omega), zw_id (x := o + 57 + 72 + (k : Int)) (by omega), zw_id (x := (k : Int) + 1) (by omega)]
      refine ⟨by omega, by omega, by omega, by omega, by omega, ?_⟩
      rw [h1 128 (by decide), h1 129 (by decide), h1 130 (by decide), h1 131 (by decide), h1 132 (by decide)]
      generalize hM2 : zset (zset (zset (zset (zset M' 133 (o + 32 + (k : Int)) (M 132 k)) 133 (o + 57 + (k : Int)) (M 128 k)) 133 (o + 57 + 24 + (k : Int)) (M 129 k)) 133 (o + 57 + 48 + (k : Int)) (M 130 k)) 133 (o + 57 + 72 + (k : Int)) (M 131 k) = M2
      have r2 : M2 133 = fset (fset (fset (fset (fset (M' 133) (o + 32 + (k : Int)) (M 132 k)) (o + 57 + (k : Int)) (M 128 k)) (o + 57 + 24 + (k : Int)) (M 129 k)) (o + 57 + 48 + (k : Int)) (M 130 k)) (o + 57 + 72 + (k : Int)) (M 131 k) := by rw [← hM2, zrow_s, zrow_s, zrow_s, zrow_s, zrow_s]
      have o2 : ∀ a, a ≠ 133 → M2 a = M' a := fun a ha => by rw [← hM2, zrow_o _ ha, zrow_o _ ha, zrow_o _ ha, zrow_o _ ha, zrow_o _ ha]
      have same : ∀ i, i ≠ o + 32 + (k : Int) → i ≠ o + 57 + (k : Int) → i ≠ o + 57 + 24 + (k : Int) → i ≠ o + 57 + 48 + (k : Int) → i ≠ o + 57 + 72 + (k : Int) → M2 133 i = M' 133 i := fun i a b c d e => by rw [r2, fset_o _ e, fset_o _ d, fset_o _ c, fset_o _ b, fset_o _ a]
      refine ih (k + 1) M2 (by omega) (fun a ha => by rw [o2 a ha, h1 a ha]) (fun i hi => by rw [same i (by omega) (by omega) (by omega) (by omega) (by omega)]; exact h2 i hi) (by rw [same _ (by omega) (by omega) (by omega) (by omega) (by omega)]; exact h3) (fun v v0 v1 => by rw [same _ (by omega) (by omega) (by omega) (by omega) (by omega), same _ (by omega) (by omega) (by omega) (by omega) (by omega)]; exact h4 v v0 v1) (fun l l0 l1 => ?_)
      by_cases e : l = (k : Int)
      · subst e
        refine ⟨?_, ?_, ?_, ?_, ?_⟩
        · rw [r2, fset_o _ (by omega), fset_o _ (by omega), fset_o _ (by omega), fset_s]
        · rw [r2, fset_o _ (by omega), fset_o _ (by omega), fset_s]
        · rw [r2, fset_o _ (by omega), fset_s]
        · rw [r2, fset_s]
        · rw [r2, fset_o _ (by omega), fset_o _ (by omega), fset_o _ (by omega), fset_o _ (by omega), fset_s]
      · rw [same _ (by omega) (by omega) (by omega) (by omega) (by omega), same _ (by omega) (by omega) (by omega) (by omega) (by omega), same _ (by omega) (by omega) (by omega) (by omega) (by omega), same _ (by omega) (by omega) (by omega) (by omega) (by omega), same _ (by omega) (by omega) (by omega) (by omega) (by omega)]
        exact h5 l l0 (by omega)
  have first : ∀ (n k : Nat) (M' : zM), k + n = 16 → (∀ a, a ≠ 133 → M' a = M a) → (∀ i, ¬ (o ≤ i ∧ i < o + 153) → M' 133 i = M 133 i) → (∀ v, 0 ≤ v → v < (k : Int) → M' 133 (o + v) = M 126 v ∧ M' 133 (o + 16 + v) = M 127 v) → zS 114 Q 2 [(2, 123), (0, o), (0, (k : Int))] [] M' := by
    intro n
    induction n with
    | zero =>
      intro k M' hk h1 h2 h3
      refine s114_2 ⟨fun _ => ?_, fun q => by omega⟩
      rw [zw_id (x := o + 56) (by omega), h1 123 (by decide)]
      refine ⟨by omega, second 24 0 _ (by omega) (fun a ha => by rw [zrow_o _ ha, h1 a ha]) (fun i hi => by rw [zrow_s, fset_o _ (by omega)]; exact h2 i hi) (by rw [zrow_s, fset_s]) (fun v v0 v1 => by rw [zrow_s, fset_o _ (by omega), fset_o _ (by omega)]; exact h3 v v0 (by omega)) (fun l a b => by omega)⟩
    | succ n ih =>
      intro k M' hk h1 h2 h3
      refine s114_2 ⟨fun q => by omega, fun _ => ⟨by omega, ?_⟩⟩
      rw [zw_id (x := o + (k : Int)) (by omega), zw_id (x := o + 16) (by omega), zw_id (x := o + 16 + (k : Int)) (by omega), zw_id (x := (k : Int) + 1) (by omega), h1 126 (by decide), h1 127 (by decide)]
      refine ⟨by omega, by omega, ih (k + 1) _ (by omega) (fun a ha => by rw [zrow_o _ ha, zrow_o _ ha, h1 a ha]) (fun i hi => by rw [zrow_s, zrow_s, fset_o _ (by omega), fset_o _ (by omega)]; exact h2 i hi) (fun v v0 v1 => ?_)⟩
      rw [zrow_s, zrow_s]
      by_cases e : v = (k : Int)
      · subst e
        rw [fset_o _ (by omega), fset_s, fset_s]; exact ⟨rfl, rfl⟩
      · rw [fset_o _ (by omega), fset_o _ (by omega), fset_o _ (by omega), fset_o _ (by omega)]; exact h3 v v0 (by omega)
  exact s114_0 (first 16 0 M (by omega) (fun _ _ => rfl) (fun _ _ => rfl) (fun v a b => by omega))
/-- one more state, where there is room -/
theorem c115_b {A : List zM} {X : zM} (h1 : A.length < 6) (h2 : ∀ k : Nat, (h : k < A.length) → mN (pnet A[k]) (A[k] 4 3) (mvw M (153 * (k : Int)))) (hA : ∀ Y, Y ∈ A → zWC Y) (hX : mN (pnet X) (X 4 3) M) (hXW : zWC X) (h11 : M 123 11 = (A.length : Int))
    (hQ : ∀ M', (∀ a i, a ≠ 133 → ¬ (a = 123 ∧ i = 11) → M' a i = M a i) → mP M' (A ++ [X]) → Q 0 M') : zF 114 (fun _ M3 => Q 0 (zset M3 123 11 (zw ((M3 123 11) + 1)))) [(2, 123), (0, 153 * (A.length : Int))] M := by
  have hm := hXW.1
  refine c114 (by omega) (fun M1 g1 g2 g3 g4 g5 => ?_)
  rw [g1 123 (by decide), h11, zw_id (by omega)]
  generalize hM2 : zset M1 123 11 ((A.length : Int) + 1) = M2
  have r2 : M2 123 = fset (M1 123) 11 ((A.length : Int) + 1) := by rw [← hM2, zrow_s]
  have e133 : M2 133 = M1 133 := by rw [← hM2, zrow_o _ (by decide)]
  have hlen : (A ++ [X]).length = A.length + 1 := by simp
  refine hQ M2 (fun a i p q => ?_) ⟨by rw [r2, fset_s, hlen]; omega, by omega, fun k hk => ?_⟩
  · rw [← hM2]; unfold zset; rw [if_neg q, g1 a p]
  · by_cases e : k < A.length
    · rw [List.getElem_append_left e]
      have hmk := (hA _ (List.getElem_mem e)).1
      refine mvw_cg (by rw [pnet_42]; exact hmk.2) (h2 k e) (fun j j0 j1 => ?_)
      rw [e133, g2 _ (by omega)]
    · have ek : k = A.length := by rw [hlen] at hk; omega
      subst ek
      have es : (A ++ [X])[A.length] = X := by simp
      rw [es]
      have r := mvw_r M2 (153 * (A.length : Int))
      refine mN_mv (by rw [pnet_42]; exact hm.2) hX ?_ (fun v v0 v1 => ⟨?_, ?_⟩) (fun l l0 l1 => ⟨?_, ?_, ?_, ?_, ?_⟩)
      · rw [(r 3).1, e133]; exact g3
      · rw [(r v).2.1, e133]; exact (g4 v v0 v1).1
      · rw [(r v).2.2.1, e133]; exact (g4 v v0 v1).2
      · rw [(r l).2.2.2.2.1, e133]; exact (g5 l l0 l1).1
      · rw [(r l).2.2.2.2.2.1, e133]; exact (g5 l l0 l1).2.1
      · rw [(r l).2.2.2.2.2.2.1, e133]; exact (g5 l l0 l1).2.2.1
      · rw [(r l).2.2.2.2.2.2.2, e133]; exact (g5 l l0 l1).2.2.2.1
      · rw [(r l).2.2.2.1, e133]; exact (g5 l l0 l1).2.2.2.2
theorem c115 {A : List zM} {X : zM} (h : mP M A) (hA : ∀ Y, Y ∈ A → zWC Y) (hX : mN (pnet X) (X 4 3) M) (hXW : zWC X) (hQ : ∀ M', (∀ a i, a ≠ 133 → ¬ (a = 123 ∧ i = 11) → M' a i = M a i) → mP M' (ppush A X) → Q 0 M') : zF 115 Q [(2, 123)] M := by
  obtain ⟨h1, h2, h3⟩ := h
  refine s115_0 ⟨fun q => ?_, fun q => ?_⟩
  · rw [zw_id (by omega), h1]
    refine c115_b (by omega) h3 hA hX hXW h1 (fun M' a b => hQ M' a ?_)
    unfold ppush
    rw [if_neg (by omega)]; exact b
  · have hl : A.length = 6 := by omega
    have lt : A.tail.length = 5 := by rw [List.length_tail]; omega
    have loop : ∀ (n k : Nat) (M' : zM), k + n = 765 → (∀ a, a ≠ 133 → M' a = M a) → (∀ i, 0 ≤ i → i < (k : Int) → M' 133 i = M 133 (i + 153)) → (∀ i, (k : Int) ≤ i → M' 133 i = M 133 i) → zS 115 Q 11 [(2, 123), (0, (k : Int))] [] M' := by
      intro n
      induction n with
      | zero =>
        intro k M' hk a1 a2 a3
        refine s115_11 ⟨fun _ => ?_, fun z => by omega⟩
        have e11 : M' 123 11 = 6 := by rw [a1 123 (by decide)]; exact q
        rw [e11, zw_id (x := 6 - 1) (by omega), zw_id (x := 153 * (6 - 1)) (by omega)]
        generalize hM2 : zset M' 123 11 (6 - 1) = M2
        have r2 : M2 123 = fset (M' 123) 11 5 := by rw [← hM2, zrow_s]; rfl
        have o2 : ∀ a, a ≠ 123 → M2 a = M' a := fun a ha => by rw [← hM2, zrow_o _ ha]
        have key := c115_b (M := M2) (Q := Q) (A := A.tail) (X := X) (by omega) (fun k hk' => ?_) (fun Y hY => hA Y (List.mem_of_mem_tail hY)) ?_ hXW (by rw [r2, fset_s, lt]; rfl) (fun M3 b1 b2 => hQ M3 (fun a i p q => ?_) ?_)
        · rw [lt] at key; exact key
        · rw [List.getElem_tail]
          have := h3 (k + 1) (by omega)
          have hmk := (hA _ (List.getElem_mem (show k + 1 < A.length by omega))).1
          refine mvw_cg (by rw [pnet_42]; exact hmk.2) this (fun j j0 j1 => ?_)
          rw [o2 133 (by decide), a2 _ (by omega) (by omega)]
          congr 1; omega
        · have hm := hXW.1
          refine mN_mv (by rw [pnet_42]; exact hm.2) hX (by rw [r2, fset_o _ (by decide), a1 123 (by decide)]) (fun v _ _ => ?_) (fun l _ _ => ?_)
          · rw [o2 126 (by decide), o2 127 (by decide), a1 126 (by decide), a1 127 (by decide)]; exact ⟨rfl, rfl⟩
          · rw [o2 128 (by decide), o2 129 (by decide), o2 130 (by decide), o2 131 (by decide), o2 132 (by decide), a1 128 (by decide), a1 129 (by decide), a1 130 (by decide), a1 131 (by decide), a1 132 (by decide)]; exact ⟨rfl, rfl, rfl, rfl, rfl⟩
        · rw [b1 a i p q]
          by_cases z : a = 123
          · subst z; rw [r2, fset_o _ (by omega), a1 123 (by decide)]
          · rw [o2 a z, a1 a p]
        · unfold ppush
          rw [if_pos hl]; exact b2
      | succ n ih =>
        intro k M' hk a1 a2 a3
        refine s115_11 ⟨fun z => by omega, fun _ => ?_⟩
        rw [zw_id (x := (k : Int) + 153) (by omega), zw_id (x := (k : Int) + 1) (by omega)]
        refine ⟨by omega, by omega, ih (k + 1) _ (by omega) (fun a ha => by rw [zrow_o _ ha, a1 a ha]) (fun i i0 i1 => ?_) (fun i hi => by rw [zrow_s, fset_o _ (by omega)]; exact a3 i (by omega))⟩
        rw [zrow_s]
        by_cases e : i = (k : Int)
        · subst e; rw [fset_s]; exact a3 _ (by omega)
        · rw [fset_o _ e]; exact a2 i i0 (by omega)
    exact loop 765 0 M (by omega) (fun _ _ => rfl) (fun i a b => by omega) (fun _ _ => rfl)
theorem c116 {A : List zM} {X : zM} (h : mP M (A ++ [X])) (hA : ∀ Y, Y ∈ A → zWC Y) (hXW : zWC X) (hQ : ∀ M', (∀ a i, ¬ (126 ≤ a ∧ a ≤ 132) → ¬ (142 ≤ a ∧ a ≤ 148) → ¬ (a = 123 ∧ (i = 3 ∨ i = 11 ∨ i = 31)) → M' a i = M a i) → mN (pnet X) (X 4 3) M' → zLS M' → mP M' A → Q (A.length : Int) M') : zF 116 Q [(2, 123)] M := by
  obtain ⟨h1, h2, h3⟩ := h
  have hlen : (A ++ [X]).length = A.length + 1 := by simp
  rw [hlen] at h1 h2
  have hm := hXW.1
  have last := h3 A.length (by omega)
  have es : (A ++ [X])[A.length] = X := by simp
  rw [es] at last
  have r := mvw_r M (153 * (A.length : Int))
  obtain ⟨o, ho⟩ : ∃ o, o = 153 * (A.length : Int) := ⟨_, rfl⟩
  rw [← ho] at last r
  have second : ∀ (n k : Nat) (M' : zM), k + n = 24 → (∀ a i, ¬ (126 ≤ a ∧ a ≤ 132) → ¬ (a = 123 ∧ (i = 3 ∨ i = 11)) → M' a i = M a i) → M' 123 11 = (A.length : Int) → M' 123 3 = M 133 (o + 56) → (∀ v, 0 ≤ v → v < 16 → M' 126 v = M 133 (o + v) ∧ M' 127 v = M 133 (o + 16 + v)) → (∀ l, 0 ≤ l → l < (k : Int) → M' 128 l = M 133 (o + 57 + l) ∧ M' 129 l = M 133 (o + 57 + 24 + l) ∧ M' 130 l = M 133 (o + 57 + 48 + l) ∧ M' 131 l = M 133 (o + 57 + 72 + l) ∧ M' 132 l = M 133 (o + 32 + l)) → zS 116 Q 93 [(2, 123), (0, o), (0, (k : Int))] [] M' := by
    intro n
    induction n with
    | zero =>
      intro k M' hk a1 a2 a3 a4 a5
      have hmN : mN (pnet X) (X 4 3) M' := by
        refine mN_mv (by rw [pnet_42]; exact hm.2) last (by rw [(r 3).1]; exact a3) (fun v v0 v1 => ?_) (fun l l0 l1 => ?_)
        · rw [(r v).2.1, (r v).2.2.1]; exact a4 v v0 v1
        · rw [(r l).2.2.2.2.1, (r l).2.2.2.2.2.1, (r l).2.2.2.2.2.2.1, (r l).2.2.2.2.2.2.2, (r l).2.2.2.1]; exact a5 l l0 (by omega)
      refine s116_93 ⟨fun _ => c118' (pW_of hXW) hmN (fun M2 b1 b2 b3 => ?_), fun q => by omega⟩
      have e11 : M2 123 11 = (A.length : Int) := by rw [b1 123 11 (by omega) (by omega)]; exact a2
      rw [e11]
      refine hQ M2 (fun a i p q s => by rw [b1 a i q (by omega)]; exact a1 a i p (by omega)) b2 b3 ⟨e11, by omega, fun j hj => ?_⟩
      have := h3 j (by omega)
      rw [List.getElem_append_left hj] at this
      have hmk := (hA _ (List.getElem_mem hj)).1
      refine mvw_cg (by rw [pnet_42]; exact hmk.2) this (fun i i0 i1 => ?_)
      rw [b1 133 _ (by omega) (by omega)]
      exact a1 133 _ (by omega) (by omega)
    | succ n ih =>
      intro k M' hk a1 a2 a3 a4 a5
      have e133 : M' 133 = M 133 := funext fun i => a1 133 i (by omega) (by omega)
      refine s116_93 ⟨fun q => by omega, fun _ => ?_⟩
      rw [zw_id (x := o + 32) (by omega), zw_id (x := o + 57) (by omega), zw_id (x := o + 57 + 24) (by omega), zw_id (x := o + 57 + 48) (by omega), zw_id (x := o + 57 + 72) (by omega), zw_id (x := o + 32 + (k : Int)) (by omega), zw_id (x := o + 57 + (k : Int)) (by omega), zw_id (x := o + 57 + 24 + (k : Int)) (by omega), zw_id (x := o + 57 + 48 + (k : Int)) (by omega), zw_id (x := o + 57 + 72 + (k : Int)) (by omega), zw_id (x := (k : Int) + 1) (by omega), e133]
      refine ⟨by omega, by omega, by omega, by omega, by omega, by omega, ?_⟩
      generalize hM2 : zset (zset (zset (zset (zset M' 132 (k : Int) (M 133 (o + 32 + (k : Int)))) 128 (k : Int) (M 133 (o + 57 + (k : Int)))) 129 (k : Int) (M 133 (o + 57 + 24 + (k : Int)))) 130 (k : Int) (M 133 (o + 57 + 48 + (k : Int)))) 131 (k : Int) (M 133 (o + 57 + 72 + (k : Int))) = M2
      have oth : ∀ a, ¬ (128 ≤ a ∧ a ≤ 132) → M2 a = M' a := fun a ha => by rw [← hM2, zrow_o _ (by omega), zrow_o _ (by omega), zrow_o _ (by omega), zrow_o _ (by omega), zrow_o _ (by omega)]
      have t128 : M2 128 = fset (M' 128) (k : Int) (M 133 (o + 57 + (k : Int))) := by rw [← hM2, zrow_o _ (by decide), zrow_o _ (by decide), zrow_o _ (by decide), zrow_s, zrow_o _ (by decide)]
      have t129 : M2 129 = fset (M' 129) (k : Int) (M 133 (o + 57 + 24 + (k : Int))) := by rw [← hM2, zrow_o _ (by decide), zrow_o _ (by decide), zrow_s, zrow_o _ (by decide), zrow_o _ (by decide)]
      have t130 : M2 130 = fset (M' 130) (k : Int) (M 133 (o + 57 + 48 + (k : Int))) := by rw [← hM2, zrow_o _ (by decide), zrow_s, zrow_o _ (by decide), zrow_o _ (by decide), zrow_o _ (by decide)]
      have t131 : M2 131 = fset (M' 131) (k : Int) (M 133 (o + 57 + 72 + (k : Int))) := by rw [← hM2, zrow_s, zrow_o _ (by decide), zrow_o _ (by decide), zrow_o _ (by decide), zrow_o _ (by decide)]
      have t132 : M2 132 = fset (M' 132) (k : Int) (M 133 (o + 32 + (k : Int))) := by rw [← hM2, zrow_o _ (by decide), zrow_o _ (by decide), zrow_o _ (by decide), zrow_o _ (by decide), zrow_s]
      refine ih (k + 1) M2 (by omega) (fun a i p q => by rw [oth a (by omega)]; exact a1 a i p q) (by rw [oth 123 (by omega)]; exact a2) (by rw [oth 123 (by omega)]; exact a3) (by rw [oth 126 (by omega), oth 127 (by omega)]; exact a4) (fun l l0 l1 => ?_)
      rw [t128, t129, t130, t131, t132]
      by_cases e : l = (k : Int)
      · subst e; rw [fset_s, fset_s, fset_s, fset_s, fset_s]; exact ⟨rfl, rfl, rfl, rfl, rfl⟩
      · rw [fset_o _ e, fset_o _ e, fset_o _ e, fset_o _ e, fset_o _ e]; exact a5 l l0 (by omega)
  have first : ∀ (n k : Nat) (M' : zM), k + n = 16 → (∀ a i, ¬ (126 ≤ a ∧ a ≤ 132) → ¬ (a = 123 ∧ (i = 3 ∨ i = 11)) → M' a i = M a i) → M' 123 11 = (A.length : Int) → (∀ v, 0 ≤ v → v < (k : Int) → M' 126 v = M 133 (o + v) ∧ M' 127 v = M 133 (o + 16 + v)) → zS 116 Q 35 [(2, 123), (0, o), (0, (k : Int))] [] M' := by
    intro n
    induction n with
    | zero =>
      intro k M' hk a1 a2 a3
      have e133 : M' 133 = M 133 := funext fun i => a1 133 i (by omega) (by omega)
      refine s116_35 ⟨fun _ => ?_, fun q => by omega⟩
      rw [zw_id (x := o + 56) (by omega), e133]
      refine ⟨by omega, second 24 0 _ (by omega) (fun a i p q => ?_) (by rw [zrow_s, fset_o _ (by decide)]; exact a2) (by rw [zrow_s, fset_s]) (fun v v0 v1 => by rw [zrow_o _ (by decide), zrow_o _ (by decide)]; exact a3 v v0 (by omega)) (fun l a b => by omega)⟩
      unfold zset
      rw [if_neg (fun z => q ⟨z.1, Or.inl z.2⟩)]; exact a1 a i p q
    | succ n ih =>
      intro k M' hk a1 a2 a3
      have e133 : M' 133 = M 133 := funext fun i => a1 133 i (by omega) (by omega)
      refine s116_35 ⟨fun q => by omega, fun _ => ?_⟩
      rw [zw_id (x := o + (k : Int)) (by omega), zw_id (x := o + 16) (by omega), zw_id (x := o + 16 + (k : Int)) (by omega), zw_id (x := (k : Int) + 1) (by omega), e133]
      refine ⟨by omega, by omega, by omega, ih (k + 1) _ (by omega) (fun a i p q => by rw [zrow_o _ (by omega), zrow_o _ (by omega)]; exact a1 a i p q) (by rw [zrow_o _ (by decide), zrow_o _ (by decide)]; exact a2) (fun v v0 v1 => ?_)⟩
      rw [zrow_o _ (show (126 : Int) ≠ 127 by decide), zrow_s, zrow_s, zrow_o _ (show (127 : Int) ≠ 126 by decide)]
      by_cases e : v = (k : Int)
      · subst e; rw [fset_s, fset_s]; exact ⟨rfl, rfl⟩
      · rw [fset_o _ e, fset_o _ e]; exact a3 v v0 (by omega)
  refine s116_0 ⟨fun q => ?_, fun q => by omega⟩
  rw [zw_id (x := M 123 11 - 1) (by omega), show M 123 11 - 1 = (A.length : Int) by omega, zw_id (x := 153 * (A.length : Int)) (by omega), ← ho]
  refine first 16 0 _ (by omega) (fun a i p q => ?_) (by rw [zrow_s, fset_s]) (fun v a b => by omega)
  unfold zset
  rw [if_neg (fun z => q ⟨z.1, Or.inr z.2⟩)]
end MPA
