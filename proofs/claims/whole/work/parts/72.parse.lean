/-! the class's reader: wipe, listTouching, parse -/
def zTLw (M : zM) (w : Int) : Prop := ∀ v, 0 ≤ v → v < 16 → (0 ≤ M (w + 6) v ∧ M (w + 6) v ≤ M (w + 6) (v + 1) ∧ M (w + 6) (v + 1) ≤ 48)
  ∧ (∀ i, M (w + 6) v ≤ i → i < M (w + 6) (v + 1) → (0 ≤ M (w + 7) i ∧ M (w + 7) i < M w 2) ∧ (M (w + 2) (M (w + 7) i) = v ∨ M (w + 3) (M (w + 7) i) = v))
  ∧ (∀ i j, M (w + 6) v ≤ i → i < M (w + 6) (v + 1) → M (w + 6) v ≤ j → j < M (w + 6) (v + 1) → M (w + 7) i = M (w + 7) j → i = j)
  ∧ (∀ l, 0 ≤ l → l < M w 2 → (M (w + 2) l = v ∨ M (w + 3) l = v) → ∃ i, M (w + 6) v ≤ i ∧ i < M (w + 6) (v + 1) ∧ M (w + 7) i = l)
def ptl (fi se : Int → Int) (v : Int) : Nat → List Int
  | 0 => []
  | n + 1 => if fi n = v ∨ se n = v then ptl fi se v n ++ [(n : Int)] else ptl fi se v n
theorem ptl_s {fi se : Int → Int} {v : Int} (n : Nat) : ptl fi se v (n + 1) = if fi n = v ∨ se n = v then ptl fi se v n ++ [(n : Int)] else ptl fi se v n := rfl
theorem ptl_m {fi se : Int → Int} {v : Int} : ∀ n x, x ∈ ptl fi se v n ↔ (0 ≤ x ∧ x < (n : Int)) ∧ (fi x = v ∨ se x = v)
  | 0, x => ⟨fun h => by simp [ptl] at h, fun h => by omega⟩
  | n + 1, x => by
    have ih := ptl_m (fi := fi) (se := se) (v := v) n x
    unfold ptl
    by_cases q : fi n = v ∨ se n = v
    · rw [if_pos q, List.mem_append, List.mem_singleton, ih]
      constructor
      · rintro (⟨a, b⟩ | a)
        · exact ⟨by omega, b⟩
        · rw [a]; exact ⟨by omega, q⟩
      · rintro ⟨a, b⟩
        by_cases e : x = (n : Int)
        · exact Or.inr e
        · exact Or.inl ⟨by omega, b⟩
    · rw [if_neg q, ih]
      constructor
      · rintro ⟨a, b⟩; exact ⟨by omega, b⟩
      · rintro ⟨a, b⟩
        refine ⟨?_, b⟩
        by_cases e : x = (n : Int)
        · rw [e] at b; exact absurd b q
        · omega
theorem ptl_n {fi se : Int → Int} {v : Int} : ∀ n, (ptl fi se v n).Nodup
  | 0 => List.nodup_nil
  | n + 1 => by
    have ih := ptl_n (fi := fi) (se := se) (v := v) n
    unfold ptl
    split
    · rw [List.nodup_append]
      refine ⟨ih, by simp, fun a ha b hb e => ?_⟩
      rw [List.mem_singleton] at hb
      have := ((ptl_m n a).mp ha).1
      omega
    · exact ih
def tch (fi se : Int → Int) (v l : Int) : Int := (if fi l = v then 1 else 0) + (if se l = v then 1 else 0)
theorem ptl_len {fi se : Int → Int} {v : Int} : ∀ n : Nat, (∀ i : Nat, i < n → ¬ fi i = se i) → ((ptl fi se v n).length : Int) = zsum (tch fi se v) n
  | 0, _ => rfl
  | n + 1, h => by
    have ih := ptl_len (fi := fi) (se := se) (v := v) n (fun i hi => h i (by omega))
    have hn := h n (by omega)
    show ((ptl fi se v (n + 1)).length : Int) = zsum (tch fi se v) n + tch fi se v n
    rw [← ih, ptl_s]
    unfold tch
    by_cases q1 : fi n = v
    · rw [if_pos (Or.inl q1), if_pos q1, if_neg (fun z => hn (by rw [q1, z])), List.length_append, List.length_singleton]; omega
    · by_cases q2 : se n = v
      · rw [if_pos (Or.inr q2), if_neg q1, if_pos q2, List.length_append, List.length_singleton]; omega
      · rw [if_neg (fun z => z.elim q1 q2), if_neg q1, if_neg q2]; omega
theorem tch_all {fi se : Int → Int} {n : Nat} (h : ∀ i : Nat, i < n → (0 ≤ fi i ∧ fi i < 16) ∧ (0 ≤ se i ∧ se i < 16)) : zsum (fun v => zsum (tch fi se v) n) 16 = 2 * n := by
  rw [zsum_swap (f := fun v l => tch fi se v l) n 16]
  have e : zsum (fun l => zsum (fun v => tch fi se v l) 16) n = zsum (fun _ => 2) n := zsum_congr n (fun i hi => by
    have hh := h i hi
    have := zsum_add (f := fun v => if fi i = v then 1 else 0) (g := fun v => if se i = v then 1 else 0) 16
    show zsum (fun v => (if fi i = v then 1 else 0) + (if se i = v then 1 else 0)) 16 = 2
    rw [this, zsum_pick (h := fun _ => 1) 16 hh.1.1 (by omega), zsum_pick (h := fun _ => 1) 16 hh.2.1 (by omega)]
    rfl)
  rw [e]
  have : ∀ n : Nat, zsum (fun _ => 2) n = 2 * n := fun n => by
    induction n with
    | zero => rfl
    | succ n ih => show zsum (fun _ => 2) n + 2 = _; rw [ih]; omega
  exact this n
theorem zsum_mn {f : Int → Int} (h : ∀ i : Nat, 0 ≤ f i) : ∀ (n m : Nat), zsum f n ≤ zsum f (n + m)
  | n, 0 => Int.le_refl _
  | n, m + 1 => by
    have := zsum_mn h n m
    have := h (n + m)
    show zsum f n ≤ zsum f (n + m) + f ((n + m : Nat) : Int)
    omega
section PS
variable {Q : Int → zM → Prop} {M : zM}
theorem c16 (hm : 0 ≤ M 79 2 ∧ M 79 2 ≤ 24) (hl : ∀ l, 0 ≤ l → l < M 79 2 → (0 ≤ M 81 l ∧ M 81 l < 16) ∧ (0 ≤ M 82 l ∧ M 82 l < 16) ∧ ¬ M 81 l = M 82 l) (hQ : ∀ M', (∀ a, a ≠ 85 → a ≠ 86 → M' a = M a) → zTLw M' 79 → Q 0 M') : zF 16 Q [(2, 79)] M := by
  obtain ⟨n, hn⟩ : ∃ n : Nat, M 79 2 = n := ⟨(M 79 2).toNat, by omega⟩
  rw [hn] at hm hl
  have hne : ∀ i : Nat, i < n → ¬ M 81 i = M 82 i := fun i hi => (hl i (by omega) (by omega)).2.2
  have hlen := fun v => ptl_len (fi := M 81) (se := M 82) (v := v) n hne
  have hall := tch_all (fi := M 81) (se := M 82) (n := n) (fun i hi => by have := hl i (by omega) (by omega); exact ⟨this.1, this.2.1⟩)
  have hnn : ∀ v : Nat, 0 ≤ zsum (tch (M 81) (M 82) v) n := fun v => by rw [← hlen]; omega
  have cap : ∀ v : Nat, v < 16 → zsum (fun v => zsum (tch (M 81) (M 82) v) n) v + ((ptl (M 81) (M 82) v n).length : Int) ≤ 48 := fun v hv => by
    have := zsum_mn (f := fun v => zsum (tch (M 81) (M 82) v) n) hnn (v + 1) (16 - (v + 1))
    rw [show v + 1 + (16 - (v + 1)) = 16 by omega, hall] at this
    have e : zsum (fun v => zsum (tch (M 81) (M 82) v) n) (v + 1) = zsum (fun v => zsum (tch (M 81) (M 82) v) n) v + zsum (tch (M 81) (M 82) v) n := rfl
    rw [hlen]
    omega
  have hnn0 : ∀ v : Nat, 0 ≤ zsum (fun v => zsum (tch (M 81) (M 82) v) n) v := fun v => by
    have := zsum_mn (f := fun v => zsum (tch (M 81) (M 82) v) n) hnn 0 v
    rw [Nat.zero_add] at this
    exact this
  have outer : ∀ (m v : Nat) (M' : zM), v + m = 16 → (∀ a, a ≠ 85 → a ≠ 86 → M' a = M a) → (∀ u : Nat, u < v → M' 85 u = zsum (fun v => zsum (tch (M 81) (M 82) v) n) u) → (∀ u : Nat, u < v → kro (M' 86) (zsum (fun v => zsum (tch (M 81) (M 82) v) n) u) (ptl (M 81) (M 82) u n)) → zS 16 Q 4 [(2, 79), (0, zsum (fun v => zsum (tch (M 81) (M 82) v) n) v), (0, (v : Int)), (3, 0)] [] M' := by
    intro m
    induction m with
    | zero =>
      intro v M' hv hM h1 h2
      have ev : v = 16 := by omega
      subst ev
      refine s16_4 rfl ⟨fun _ => hQ _ (fun a p q => by rw [zrow_o _ (by omega)]; exact hM a p q) ?_, fun q => by omega⟩
      generalize hM2 : zset M' (79 + 6) 16 (zsum (fun v => zsum (tch (M 81) (M 82) v) n) 16) = M2
      have r85 : M2 85 = fset (M' 85) 16 (zsum (fun v => zsum (tch (M 81) (M 82) v) n) 16) := by rw [← hM2]; exact zrow_s _ _ _ _
      have r86 : M2 86 = M' 86 := by rw [← hM2]; exact zrow_o _ (by decide)
      have st : ∀ u : Nat, u < 17 → M2 85 u = zsum (fun v => zsum (tch (M 81) (M 82) v) n) u := fun u hu => by
        rw [r85]
        by_cases e : u = 16
        · subst e; exact fset_s _ _ _
        · rw [fset_o _ (by omega)]; exact h1 u (by omega)
      have oth : ∀ a, a ≠ 85 → a ≠ 86 → M2 a = M a := fun a p q => by rw [← hM2, zrow_o _ (by omega)]; exact hM a p q
      intro v v0 v1
      obtain ⟨u, rfl⟩ : ∃ u : Nat, v = u := ⟨v.toNat, by omega⟩
      show (0 ≤ M2 85 u ∧ M2 85 u ≤ M2 85 ((u : Int) + 1) ∧ M2 85 ((u : Int) + 1) ≤ 48) ∧ (∀ i, M2 85 u ≤ i → i < M2 85 ((u : Int) + 1) → (0 ≤ M2 86 i ∧ M2 86 i < M2 79 2) ∧ (M2 81 (M2 86 i) = u ∨ M2 82 (M2 86 i) = u)) ∧ (∀ i j, M2 85 u ≤ i → i < M2 85 ((u : Int) + 1) → M2 85 u ≤ j → j < M2 85 ((u : Int) + 1) → M2 86 i = M2 86 j → i = j) ∧ (∀ l, 0 ≤ l → l < M2 79 2 → (M2 81 l = u ∨ M2 82 l = u) → ∃ i, M2 85 u ≤ i ∧ i < M2 85 ((u : Int) + 1) ∧ M2 86 i = l)
      rw [oth 79 (by decide) (by decide), oth 81 (by decide) (by decide), oth 82 (by decide) (by decide), hn]
      have s1 := st u (by omega)
      have s2 := st (u + 1) (by omega)
      have eS : zsum (fun v => zsum (tch (M 81) (M 82) v) n) (u + 1) = zsum (fun v => zsum (tch (M 81) (M 82) v) n) u + zsum (tch (M 81) (M 82) u) n := rfl
      rw [show ((u + 1 : Nat) : Int) = (u : Int) + 1 by omega] at s2
      rw [s1, s2, eS, ← hlen, r86]
      have kr := h2 u (by omega)
      have z0 := hnn0 u
      have cp := cap u (by omega)
      generalize zsum (fun v => zsum (tch (M 81) (M 82) v) n) u = b at *
      have at' : ∀ i, b ≤ i → i < b + ((ptl (M 81) (M 82) u n).length : Int) → ∃ j : Nat, ∃ h : j < (ptl (M 81) (M 82) u n).length, i = b + j ∧ M' 86 i = (ptl (M 81) (M 82) u n)[j] := fun i i0 i1 => by
        refine ⟨(i - b).toNat, by omega, by omega, ?_⟩
        have := kro_at kr (i - b).toNat (by omega)
        rw [show b + ((i - b).toNat : Int) = i by omega] at this
        exact this
      refine ⟨by omega, fun i i0 i1 => ?_, fun i j i0 i1 j0 j1 e => ?_, fun l l0 l1 hl' => ?_⟩
      · obtain ⟨j, hj, _, e⟩ := at' i i0 i1
        rw [e]
        exact (ptl_m n _).mp (List.getElem_mem hj)
      · obtain ⟨a, ha, ea, e1⟩ := at' i i0 i1
        obtain ⟨c, hc, ec, e2⟩ := at' j j0 j1
        rw [e1, e2] at e
        have nd := List.pairwise_iff_getElem.mp (ptl_n (fi := M 81) (se := M 82) (v := (u : Int)) n)
        rcases Nat.lt_trichotomy a c with q | q | q
        · exact absurd e (nd a c ha hc q)
        · omega
        · exact absurd e.symm (nd c a hc ha q)
      · obtain ⟨j, hj, e⟩ := List.getElem_of_mem ((ptl_m n l).mpr ⟨⟨l0, l1⟩, hl'⟩)
        refine ⟨b + j, by omega, by omega, ?_⟩
        rw [kro_at kr j hj]; exact e
    | succ m ih =>
      intro v M' hv hM h1 h2
      have z0 := hnn0 v
      have cp := cap v (by omega)
      refine s16_4 rfl ⟨fun q => by omega, fun _ => ⟨by omega, ?_⟩⟩
      generalize hM2 : zset M' (79 + 6) (v : Int) (zsum (fun v => zsum (tch (M 81) (M 82) v) n) v) = M2
      have r85 : M2 85 = fset (M' 85) (v : Int) (zsum (fun v => zsum (tch (M 81) (M 82) v) n) v) := by rw [← hM2]; exact zrow_s _ _ _ _
      have r86 : M2 86 = M' 86 := by rw [← hM2]; exact zrow_o _ (by decide)
      have oth : ∀ a, a ≠ 85 → a ≠ 86 → M2 a = M a := fun a p q => by rw [← hM2, zrow_o _ (by omega)]; exact hM a p q
      have inner : ∀ (m' l : Nat) (M3 : zM), l + m' = n → (∀ a, a ≠ 86 → M3 a = M2 a) → (∀ i, i < zsum (fun v => zsum (tch (M 81) (M 82) v) n) v → M3 86 i = M' 86 i) → kro (M3 86) (zsum (fun v => zsum (tch (M 81) (M 82) v) n) v) (ptl (M 81) (M 82) v l) → zS 16 Q 19 [(2, 79), (0, zsum (fun v => zsum (tch (M 81) (M 82) v) n) v + ((ptl (M 81) (M 82) v l).length : Int)), (0, (v : Int)), (0, (l : Int))] [] M3 := by
        intro m'
        induction m' with
        | zero =>
          intro l M3 hl' hM3 hlo kr
          have el : l = n := by omega
          subst el
          have e792 : M3 79 2 = l := by rw [hM3 79 (by decide), oth 79 (by decide) (by decide)]; exact hn
          refine s16_19 rfl ⟨fun _ => ?_, fun q => by omega⟩
          rw [hlen, zw_id (by omega)]
          refine ih (v + 1) M3 (by omega) (fun a p q => by rw [hM3 a q, oth a p q]) (fun u hu => ?_) (fun u hu => ?_)
          · rw [hM3 85 (by decide), r85]
            by_cases e : u = v
            · subst e; exact fset_s _ _ _
            · rw [fset_o _ (by omega)]; exact h1 u (by omega)
          · by_cases e : u = v
            · subst e; exact kr
            · refine kro_cg (fun i i0 i1 => hlo i ?_) (h2 u (by omega))
              have e1 := zsum_mn (f := fun v => zsum (tch (M 81) (M 82) v) l) hnn (u + 1) (v - (u + 1))
              rw [show u + 1 + (v - (u + 1)) = v by omega] at e1
              have eS : zsum (fun v => zsum (tch (M 81) (M 82) v) l) (u + 1) = zsum (fun v => zsum (tch (M 81) (M 82) v) l) u + zsum (tch (M 81) (M 82) u) l := rfl
              rw [hlen] at i1
              omega
        | succ m' ih' =>
          intro l M3 hl' hM3 hlo kr
          have e792 : M3 79 2 = n := by rw [hM3 79 (by decide), oth 79 (by decide) (by decide)]; exact hn
          have e81 : M3 (79 + 2) = M 81 := by show M3 81 = _; rw [hM3 81 (by decide), oth 81 (by decide) (by decide)]
          have e82 : M3 (79 + 3) = M 82 := by show M3 82 = _; rw [hM3 82 (by decide), oth 82 (by decide) (by decide)]
          have ptls : ptl (M 81) (M 82) v (l + 1) = if M 81 l = v ∨ M 82 l = v then ptl (M 81) (M 82) v l ++ [(l : Int)] else ptl (M 81) (M 82) v l := rfl
          have lenle : (ptl (M 81) (M 82) v l).length ≤ (ptl (M 81) (M 82) v n).length ∧ ((M 81 l = v ∨ M 82 l = v) → (ptl (M 81) (M 82) v l).length < (ptl (M 81) (M 82) v n).length) := by
            have mono : ∀ k, (ptl (M 81) (M 82) v (l + 1)).length ≤ (ptl (M 81) (M 82) v (l + 1 + k)).length := fun k => by
              induction k with
              | zero => exact Nat.le_refl _
              | succ k ihk =>
                have e : ptl (M 81) (M 82) v (l + 1 + (k + 1)) = if M 81 ((l + 1 + k : Nat) : Int) = v ∨ M 82 ((l + 1 + k : Nat) : Int) = v then ptl (M 81) (M 82) v (l + 1 + k) ++ [((l + 1 + k : Nat) : Int)] else ptl (M 81) (M 82) v (l + 1 + k) := rfl
                rw [e]
                split
                · rw [List.length_append]; omega
                · exact ihk
            have := mono (n - (l + 1))
            rw [show l + 1 + (n - (l + 1)) = n by omega, ptls] at this
            constructor
            · split at this
              · rw [List.length_append] at this; omega
              · exact this
            · intro z; rw [if_pos z, List.length_append, List.length_singleton] at this; omega
          have skip : ¬ (M 81 l = v ∨ M 82 l = v) → zS 16 Q 19 [(2, 79), (0, zsum (fun v => zsum (tch (M 81) (M 82) v) n) v + ((ptl (M 81) (M 82) v l).length : Int)), (0, (v : Int)), (0, zw ((l : Int) + 1))] [] M3 := fun z => by
            rw [zw_id (by omega)]
            have := ih' (l + 1) M3 (by omega) hM3 hlo (by rw [ptls, if_neg z]; exact kr)
            rw [ptls, if_neg z] at this
            exact this
          have add : (M 81 l = v ∨ M 82 l = v) → ((¬ (zsum (fun v => zsum (tch (M 81) (M 82) v) n) v + ((ptl (M 81) (M 82) v l).length : Int)) < 48 → zS 16 Q 19 [(2, 79), (0, zsum (fun v => zsum (tch (M 81) (M 82) v) n) v + ((ptl (M 81) (M 82) v l).length : Int)), (0, (v : Int)), (0, zw ((l : Int) + 1))] [] M3) ∧ ((zsum (fun v => zsum (tch (M 81) (M 82) v) n) v + ((ptl (M 81) (M 82) v l).length : Int)) < 48 → (0 ≤ (zsum (fun v => zsum (tch (M 81) (M 82) v) n) v + ((ptl (M 81) (M 82) v l).length : Int)) ∧ (zsum (fun v => zsum (tch (M 81) (M 82) v) n) v + ((ptl (M 81) (M 82) v l).length : Int)) < 48) ∧ zS 16 Q 19 [(2, 79), (0, zw ((zsum (fun v => zsum (tch (M 81) (M 82) v) n) v + ((ptl (M 81) (M 82) v l).length : Int)) + 1)), (0, (v : Int)), (0, zw ((l : Int) + 1))] [] (zset M3 (79 + 7) (zsum (fun v => zsum (tch (M 81) (M 82) v) n) v + ((ptl (M 81) (M 82) v l).length : Int)) (l : Int)))) := fun z => by
            have lt := lenle.2 z
            refine ⟨fun y => by omega, fun y => ⟨by omega, ?_⟩⟩
            rw [zw_id (x := (l : Int) + 1) (by omega), zw_id (by omega)]
            have r : zset M3 (79 + 7) (zsum (fun v => zsum (tch (M 81) (M 82) v) n) v + ((ptl (M 81) (M 82) v l).length : Int)) (l : Int) 86 = fset (M3 86) (zsum (fun v => zsum (tch (M 81) (M 82) v) n) v + ((ptl (M 81) (M 82) v l).length : Int)) (l : Int) := zrow_s _ _ _ _
            have := ih' (l + 1) (zset M3 (79 + 7) (zsum (fun v => zsum (tch (M 81) (M 82) v) n) v + ((ptl (M 81) (M 82) v l).length : Int)) (l : Int)) (by omega) (fun a ha => by rw [zrow_o _ (by omega)]; exact hM3 a ha) (fun i hi => by rw [r, fset_o _ (by omega)]; exact hlo i hi) (by
              rw [ptls, if_pos z, r, kro_app]
              refine ⟨kro_cg (fun i i0 i1 => fset_o _ (by omega)) kr, fset_s _ _ _, trivial⟩)
            rw [ptls, if_pos z, List.length_append, List.length_singleton] at this
            rw [show zsum (fun v => zsum (tch (M 81) (M 82) v) n) v + ((ptl (M 81) (M 82) v l).length : Int) + 1 = zsum (fun v => zsum (tch (M 81) (M 82) v) n) v + (((ptl (M 81) (M 82) v l).length + 1 : Nat) : Int) by omega]
            exact this
          refine s16_19 rfl ⟨fun q => by omega, fun _ => ⟨by omega, fun q => ?_, fun q => ⟨fun q2 => skip ?_, fun q2 => ?_⟩⟩⟩
          · rw [e81] at q; exact add (Or.inl q)
          · rw [e81] at q; rw [e82] at q2
            exact fun z => z.elim q q2
          · rw [e82] at q2; exact add (Or.inr q2)
      have := inner n 0 M2 (by omega) (fun _ _ => rfl) (fun i _ => by rw [r86]) trivial
      rw [show zsum (fun v => zsum (tch (M 81) (M 82) v) n) v + ((ptl (M 81) (M 82) v 0).length : Int) = zsum (fun v => zsum (tch (M 81) (M 82) v) n) v by simp [ptl]] at this
      exact this
  exact s16_0 rfl (outer 16 0 M (by omega) (fun _ _ _ => rfl) (fun u h => by omega) (fun u h => by omega))
end PS
