/-! the reference's reach: the whole -/
theorem plevel_end {N : zM} {L : List Int} : ∀ n, plevel N n L.length L = L
  | 0 => rfl
  | n + 1 => by
    show plevel N n L.length (pall N (L.drop L.length) L) = L
    rw [List.drop_length]
    exact plevel_end n
theorem kLe_1 {N : zM} {s : Int} : kLe N ([] ++ [s]) (pls N s) s := ⟨by simp, rfl, fun x hx => by simp at hx; rw [hx]; omega⟩
section RM
variable {Q : Int → zM → Prop} {M N : zM} {S : Int}
theorem c151 {a1 a2 : Int} (hW : pW N) (h : mN N S M) (hp : psx N S) (hXX : pXX N)
    (hB : ¬ ((0 ≤ a1 ∧ a1 ≤ 9) ∧ 0 ≤ a2 ∧ a2 ≤ 2) → zF 99 Q [(2, 123), (0, -2)] M)
    (hF : ((0 ≤ a1 ∧ a1 ≤ 9) ∧ 0 ≤ a2 ∧ a2 ≤ 2) → 300 < (pre N S a1.toNat).length → ∀ M', mfx M M' → mN N S M' → zLS M' → zF 99 Q [(2, 123), (0, -5)] M')
    (hO : ((0 ≤ a1 ∧ a1 ≤ 9) ∧ 0 ≤ a2 ∧ a2 ≤ 2) → (pre N S a1.toNat).length ≤ 300 → ∀ M' x y, mfx M M' → mN N S M' → zLS M' → kLe N (pre N S a1.toNat) x y → Q (if a2 = 0 then ((pre N S a1.toNat).length : Int) else if a2 = 1 then x else y) M') : zF 151 Q [(2, 123), (0, a1), (0, a2)] M := by
  have hm := hW.1
  refine s151_0 (c98 ⟨fun q => hB (fun z => by rw [if_pos z.1] at q; cases q), fun q => c98 ⟨fun q2 => ?_, fun q2 => hB (fun z => by rw [if_pos z.2] at q2; cases q2)⟩⟩)
  have ha : (0 ≤ a1 ∧ a1 ≤ 9) ∧ 0 ≤ a2 ∧ a2 ≤ 2 := by
    refine ⟨Classical.byContradiction fun z => q (if_neg z), Classical.byContradiction fun z => q2 (if_neg z)⟩
  obtain ⟨n, rfl⟩ : ∃ n : Nat, a1 = n := ⟨a1.toNat, by omega⟩
  have hF := hF ha
  have hO := hO ha
  rw [show ((n : Int)).toNat = n from rfl] at hF hO
  have ends : ∀ (M' : zM) (x y : Int), mfx M M' → (∃ S', mN N S' M') → mse M' (pre N S n) → (¬ 300 < (pre N S n).length → kLe N (pre N S n) x y) → zF 148 (fun _ M3 => ((¬ 300 < (M3 123 40) → ((¬ a2 = 0 → ((¬ a2 = 1 → Q y M3) ∧ (a2 = 1 → Q x M3))) ∧ (a2 = 0 → Q (M3 123 40) M3))) ∧ (300 < (M3 123 40) → zF 99 (fun x8 M9 => Q x8 M9) [(2, 123), (0, (-5))] M3))) [(2, 123), (0, S)] M' := fun M' x y b1 b2 b3 b4 => by
    obtain ⟨S', b2⟩ := b2
    refine c148 hW b2 hp.1.1 hp.2.1 (fun M3 d1 d2 d3 => ?_)
    have e40 : M3 123 40 = ((pre N S n).length : Int) := by rw [d1 123 40 (by omega) (by omega) (by omega)]; exact b3.1
    have fx := mfx_t b1 (mbx_fx d1)
    rw [e40]
    refine ⟨fun z => ?_, fun z => hF (by omega) M3 fx d2 d3⟩
    have := hO (by omega) M3 x y fx d2 d3 (b4 (by omega))
    refine ⟨fun y1 => ⟨fun y2 => ?_, fun y2 => ?_⟩, fun y1 => ?_⟩
    · rwa [if_neg y1, if_neg y2] at this
    · rwa [if_neg y1, if_pos y2] at this
    · rwa [if_pos y1] at this
  have least : ∀ (m k : Nat) (M' : zM) (x y : Int), k + m = (pre N S n).length → (pre N S n).length ≤ 300 → (∀ s, s ∈ pre N S n → psx N s) → mfx M M' → (∃ S', mN N S' M') → mse M' (pre N S n) → ((k = 0 ∧ x = -1) ∨ kLe N ((pre N S n).take k) x y) → pre N S n ≠ [] → zS 151 Q 99 [(2, 123), (0, (n : Int)), (0, a2), (0, S), (1, x), (3, 0), (0, y), (0, (k : Int)), (3, 0), (3, 0)] [] M' := by
    intro m
    induction m with
    | zero =>
      intro k M' x y hk hl hx b1 b2 b3 b4 b5
      refine s151_99 ⟨fun _ => ends M' x y b1 b2 b3 (fun _ => ?_), fun z => by rw [b3.1] at z; omega⟩
      rcases b4 with ⟨z1, _⟩ | z
      · exact absurd (List.length_eq_zero_iff.mp (by omega)) b5
      · rw [List.take_of_length_le (by omega)] at z; exact z
    | succ m ih =>
      intro k M' x y hk hl hx b1 b2 b3 b4 b5
      obtain ⟨S', b2⟩ := b2
      have hkl : k < (pre N S n).length := by omega
      have hpx := hx _ (List.getElem_mem hkl)
      refine s151_99 ⟨fun z => by rw [b3.1] at z; omega, fun _ => ⟨fun z => by rw [b3.1] at z; omega, fun _ => ⟨by omega, ?_⟩⟩⟩
      rw [mse_at b3 hkl (by omega)]
      refine c148 hW b2 hpx.1.1 hpx.2.1 (fun M2 d1 d2 d3 => c120 hW d2 hpx.1 d3 ?_)
      have e154 : M2 154 k = (pre N S n)[k] := by rw [d1 154 k (by omega) (by omega) (by omega)]; exact mse_at b3 hkl (by omega)
      have ms2 : mse M2 (pre N S n) := by
        unfold mse
        rw [d1 123 40 (by omega) (by omega) (by omega), show M2 154 = M' 154 from funext fun i => d1 154 i (by omega) (by omega) (by omega)]
        exact b3
      have hlb := pls_b hW (mN_X hW d2 hpx.1.1 d3)
      have tk : (pre N S n).take (k + 1) = (pre N S n).take k ++ [(pre N S n)[k]] := List.take_succ_eq_append_getElem hkl
      rw [e154]
      have go : ∀ x' y', kLe N ((pre N S n).take (k + 1)) x' y' → zS 151 Q 99 [(2, 123), (0, (n : Int)), (0, a2), (0, S), (1, x'), (3, 0), (0, y'), (0, zw ((k : Int) + 1)), (3, 0), (3, 0)] [] M2 := fun x' y' z => by
        rw [zw_id (by omega)]
        exact ih (k + 1) M2 x' y' (by omega) hl hx (mfx_t b1 (mbx_fx d1)) ⟨_, d2⟩ ms2 (Or.inr z) b5
      rw [tk] at go
      rcases b4 with ⟨z1, z2⟩ | z
      · subst z1
        rw [z2]
        refine ⟨fun _ => go _ _ ?_, fun z => absurd (zlcmp_n.mpr (by omega)) z⟩
        rw [List.take_zero]; exact kLe_1
      · have hx0 : 0 ≤ x := by
          rw [z.2.1]
          obtain ⟨fl, ne, hX⟩ := hXX y ((hx y (List.mem_of_mem_take z.1)).1.1)
          exact (pls_b hW hX).1
        refine ⟨fun w => by rw [zlcmp_n] at w; omega, fun _ => ⟨fun w => ?_, fun w => ⟨fun w2 => ?_, fun w2 => ⟨fun w3 => ?_, fun w3 => ?_⟩⟩⟩⟩
        · rw [zlcmp_n] at w; exact go _ _ (kLe_lt z (by omega))
        · rw [zlcmp_n] at w; rw [zlcmp_0] at w2; exact go _ _ (kLe_ge z (by omega))
        · rw [zlcmp_0] at w2; exact go _ _ (kLe_ge z (by omega))
        · rw [zlcmp_0] at w2; exact go _ _ (kLe_lt z (by omega))
  have to99 : ∀ (M' : zM) (L : List Int), L = pre N S n → (∀ s, s ∈ L → psx N s) → mfx M M' → (∃ S', mN N S' M') → mse M' L → L ≠ [] → zS 151 Q 99 [(2, 123), (0, (n : Int)), (0, a2), (0, S), (1, (-1)), (3, 0), (0, 0), (0, 0), (3, 0), (3, 0)] [] M' := fun M' L e hx b1 b2 b3 b5 => by
    subst e
    by_cases z : 300 < (pre N S n).length
    · refine s151_99 ⟨fun w => by rw [b3.1] at w; omega, fun _ => ⟨fun _ => ends M' (-1) 0 b1 b2 b3 (fun w => absurd z w), fun w => by rw [b3.1] at w; omega⟩⟩
    · exact least (pre N S n).length 0 M' (-1) 0 (by omega) (by omega) hx b1 b2 b3 (Or.inl ⟨rfl, rfl⟩) b5
  have main : ∀ (m k : Nat) (M' : zM) (L : List Int) (d to : Nat), k + m = 301 → mfx M M' → (∃ S', mN N S' M') → mse M' L → (∀ s, s ∈ L → psx N s) → L ≠ [] → k ≤ to → to ≤ L.length → d ≤ n → (∀ i : Int, (k : Int) ≤ i → i < (to : Int) → i < 300 → M' 155 i = (d : Int)) → (∀ i : Int, (to : Int) ≤ i → i < (L.length : Int) → i < 300 → M' 155 i = (d : Int) + 1) → ((d < n ∧ plevel N (n - d - 1) to (pall N ((L.drop k).take (to - k)) L) = pre N S n) ∨ (d = n ∧ to = L.length ∧ L = pre N S n)) → zS 151 Q 46 [(2, 123), (0, (n : Int)), (0, a2), (0, S), (0, (k : Int)), (3, 0), (3, 0), (3, 0), (3, 0), (3, 0)] [] M' := by
    intro m
    induction m with
    | zero =>
      intro k M' L d to hk b1 b2 b3 hx b5 h1 h2 h3 l1 l2 hpu
      have hl := b3.2.1
      refine s151_46 ⟨fun _ => to99 M' L ?_ hx b1 b2 b3 b5, fun q => by rw [b3.1] at q; omega⟩
      rcases hpu with ⟨z1, z2⟩ | ⟨_, _, z⟩
      · rw [pall_full (by omega), plevel_full (by omega)] at z2; exact z2
      · exact z
    | succ m ih =>
      intro k M' L d to hk b1 b2 b3 hx b5 h1 h2 h3 l1 l2 hpu
      by_cases hkl : k < L.length
      · by_cases hfl : 300 < L.length
        · refine s151_46 ⟨fun q => by rw [b3.1] at q; omega, fun _ => ⟨fun _ => to99 M' L ?_ hx b1 b2 b3 b5, fun q => by rw [b3.1] at q; omega⟩⟩
          rcases hpu with ⟨z1, z2⟩ | ⟨_, _, z⟩
          · rw [pall_full (by omega), plevel_full (by omega)] at z2; exact z2
          · exact z
        · have stepC : ∀ (d to : Nat), k < to → to ≤ L.length → d ≤ n → (∀ i : Int, (k : Int) ≤ i → i < (to : Int) → i < 300 → M' 155 i = (d : Int)) → (∀ i : Int, (to : Int) ≤ i → i < (L.length : Int) → i < 300 → M' 155 i = (d : Int) + 1) → ((d < n ∧ plevel N (n - d - 1) to (pall N ((L.drop k).take (to - k)) L) = pre N S n) ∨ (d = n ∧ to = L.length ∧ L = pre N S n)) → zS 151 Q 46 [(2, 123), (0, (n : Int)), (0, a2), (0, S), (0, (k : Int)), (3, 0), (3, 0), (3, 0), (3, 0), (3, 0)] [] M' := by
            intro d to h1 h2 h3 l1 l2 hpu
            have elv := l1 k (by omega) (by omega) (by omega)
            refine s151_46 ⟨fun q => by rw [b3.1] at q; omega, fun _ => ⟨fun q => by rw [b3.1] at q; omega, fun _ => ⟨by omega, fun q => ?_, fun q => ?_⟩⟩⟩
            · rw [elv] at q
              rw [zw_id (by omega)]
              rcases hpu with ⟨z1, z2⟩ | ⟨z0, z1, z2⟩
              · omega
              · exact ih (k + 1) M' L d to (by omega) b1 b2 b3 hx b5 (by omega) h2 h3 (fun i i0 i1 i2 => l1 i (by omega) i1 i2) l2 (Or.inr ⟨z0, z1, z2⟩)
            · rw [elv] at q
              rcases hpu with ⟨z1, z2⟩ | ⟨z0, z1, z2⟩
              · obtain ⟨S', b2⟩ := b2
                have hpx := hx _ (List.getElem_mem hkl)
                refine c150 (f := (d : Int)) hW b2 b3 hkl (by omega) rfl hpx elv (by omega) (fun M2 g => ?_)
                obtain ⟨g1, g2, g3, ⟨R, g4⟩, g5, g6⟩ := g
                have hlen : (pgo N L[k] (N 4 2).toNat L).length = L.length + R.length := by rw [g4, List.length_append]
                rw [zw_id (by omega)]
                refine ih (k + 1) M2 _ d to (by omega) (mfx_t b1 g1) ⟨_, g2⟩ g3 (pgo_all hW hpx hx _) (fun z => ?_) (by omega) (by omega) h3 (fun i i0 i1 i2 => ?_) (fun i i0 i1 i2 => ?_) (Or.inl ⟨z1, ?_⟩)
                · rw [z] at hlen; simp at hlen; omega
                · rw [g5 i (by omega) (by omega)]; exact l1 i (by omega) i1 i2
                · by_cases w : i < (L.length : Int)
                  · rw [g5 i (by omega) w]; exact l2 i i0 w i2
                  · exact g6 i (by omega) i1 i2
                · have e1 : (L.drop k).take (to - k) = L[k] :: (L.drop (k + 1)).take (to - (k + 1)) := by
                    rw [List.drop_eq_getElem_cons hkl, show to - k = (to - (k + 1)) + 1 by omega, List.take_succ_cons]
                  rw [e1] at z2
                  have e2 : ((pgo N L[k] (N 4 2).toNat L).drop (k + 1)).take (to - (k + 1)) = (L.drop (k + 1)).take (to - (k + 1)) := by
                    rw [g4, List.drop_append_of_le_length (by omega), List.take_append_of_le_length (by rw [List.length_drop]; omega)]
                  rw [e2]
                  exact z2
              · omega
          by_cases hkt : k < to
          · exact stepC d to hkt h2 h3 l1 l2 hpu
          · have ekt : to = k := by omega
            subst ekt
            rcases hpu with ⟨z1, z2⟩ | ⟨z0, z1, z2⟩
            · rw [Nat.sub_self, List.take_zero] at z2
              have z2 : plevel N (n - d - 1) to L = pre N S n := z2
              refine stepC (d + 1) L.length hkl (Nat.le_refl _) (by omega) (fun i i0 i1 i2 => by rw [l2 i i0 i1 i2]; omega) (fun i i0 i1 i2 => by omega) ?_
              by_cases w : d + 1 < n
              · refine Or.inl ⟨w, ?_⟩
                rw [show n - d - 1 = (n - (d + 1) - 1) + 1 by omega] at z2
                rw [List.take_of_length_le (by rw [List.length_drop]; omega)]
                exact z2
              · refine Or.inr ⟨by omega, rfl, ?_⟩
                rw [show n - d - 1 = 0 by omega] at z2
                exact z2
            · omega
      · refine s151_46 ⟨fun _ => to99 M' L ?_ hx b1 b2 b3 b5, fun q => by rw [b3.1] at q; omega⟩
        rcases hpu with ⟨z1, z2⟩ | ⟨_, _, z⟩
        · rw [List.drop_of_length_le (by omega), List.take_nil, show to = L.length by omega] at z2
          have z2 : plevel N (n - d - 1) L.length L = pre N S n := z2
          rw [plevel_end] at z2
          exact z2
        · exact z
  refine c147' hW h hp.1.1 hp.2.2 ?_
  have fx0 : mfx M (zset M 123 40 0) := mfx_s mfx_r (by omega)
  refine c149 (L := []) ⟨by rw [zrow_s, fset_s]; rfl, by simp, trivial⟩ (fun M1 y1 y2 y3 y4 => ?_)
  have ep : padd [] S = [S] := by unfold padd; rw [if_neg (by simp)]; rfl
  rw [ep] at y2 y4
  have fx1 : mfx M M1 := mfx_t fx0 (fun a i p q r => y1 a i (by omega) (by omega) (by omega))
  have lv0 : M1 155 0 = 0 := y4 (by simp) (by simp)
  have mN1 : mN N S M1 := mN_fr h (fun a i p q => by rw [y1 a i (by omega) (by omega) (by omega)]; unfold zset; rw [if_neg (by omega)])
  refine main 301 0 M1 [S] 0 1 rfl fx1 ⟨_, mN1⟩ y2 (fun s hs => by rw [List.mem_singleton] at hs; rw [hs]; exact hp) (by simp) (by omega) (by simp) (by omega) (fun i i0 i1 i2 => by rw [show i = 0 by omega]; exact lv0) (fun i i0 i1 i2 => by simp at i1; omega) ?_
  by_cases w : 0 < n
  · refine Or.inl ⟨w, ?_⟩
    obtain ⟨n', rfl⟩ : ∃ n', n = n' + 1 := ⟨n - 1, by omega⟩
    rfl
  · refine Or.inr ⟨by omega, rfl, ?_⟩
    rw [show n = 0 by omega]
    rfl
end RM
