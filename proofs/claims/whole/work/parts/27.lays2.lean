/-! the reference's lays: the walk, the whole -/
theorem zsum_0 {f : Int → Int} : ∀ n : Nat, (∀ i : Nat, i < n → f i = 0) → zsum f n = 0
  | 0, _ => rfl
  | n + 1, h => by unfold zsum; rw [zsum_0 n (fun i hi => h i (by omega)), h n (by omega)]; rfl
def zBW (M : zM) (k p : Int) : Prop := zLB (M 126) (M 132) (M 128) (M 129) (M 123 3) (M 142) (M 143) (M 144) (M 146) (M 123 31) k p ∧ zNB (M 126) (M 128) (M 129) (M 143) (M 146) (M 148) (M 123 31) ∧ (∀ v, 0 ≤ v → v < 16 → M 145 v = 0) ∧ ∀ l, 0 ≤ l → l < 24 → M 147 l = 0
section LY2
variable {Q : Int → zM → Prop} {M0 : zM}
theorem c118_w (hQ : ∀ M', zL7 M0 M' → zLS M' → Q 0 M') (hW : zWN M0) : ∀ n : Nat,
    (∀ (M : zM) (k p : Int), (16 - k) * 32 + (24 - p) ≤ n → 0 ≤ p → p ≤ M 123 3 → k < M 123 31 → zL7 M0 M → zBW M k p → zS 118 Q 150 [(2, 123), (0, k), (0, M 146 k), (0, p), (3, 0)] [] M)
    ∧ (∀ (M : zM) (k : Int), (16 - k) * 32 + 25 ≤ n → zL7 M0 M → zBW M k 0 → zS 118 Q 133 [(2, 123), (0, k), (3, 0), (3, 0), (3, 0)] [] M) := by
  intro n
  induction n with
  | zero =>
    refine ⟨fun M k p hn h0 h1 h2 hL hB => ?_, fun M k hn hL hB => ?_⟩
    · have := hB.1.1
      have := (zWN_L7 hW hL).1
      omega
    · have := hB.1.1
      omega
  | succ n ih =>
    refine ⟨fun M k p hn h0 h1 h2 hL hB => ?_, fun M k hn hL hB => ?_⟩
    · have hW' := zWN_L7 hW hL
      have hm := hW'.1
      obtain ⟨hT, hN, hz5, hz7⟩ := id hB
      obtain ⟨⟨a1, a2, a3⟩, b, c, d, e, f, g, j⟩ := id hT
      have hv := b k a1 h2
      have skip : (M 132 p = 1 → ∀ u, zbt (M 128) (M 129) p (M 146 k) u → ¬ M 142 u = -1) → p < M 123 3 → zS 118 Q 150 [(2, 123), (0, k), (0, M 146 k), (0, zw (p + 1)), (3, 0)] [] M := by
        intro hs hp
        rw [zw_id (by omega)]
        exact ih.1 M k (p + 1) (by omega) (by omega) (by omega) h2 hL ⟨zLB_skip hT hs, hN, hz5, hz7⟩
      refine s118_150 ⟨fun q => ?_, fun q => ⟨by omega, fun q2 => ?_, fun q2 => ?_⟩⟩
      · rw [zw_id (by omega)]
        exact ih.2 M (k + 1) (by omega) hL ⟨zLB_next hT h2 (by omega), hN, hz5, hz7⟩
      · exact skip (fun z => absurd z q2) q
      · have hl := hW'.2.2 p h0 q
        refine c117 (by omega) ⟨fun q3 => ?_, fun q3 => ?_⟩
        · refine skip (fun _ u hu => ?_) q
          exfalso
          unfold zoth at q3
          unfold zbt at hu
          rcases hu with ⟨x1, x2⟩ | ⟨x1, x2⟩
          · rw [if_pos x1] at q3; omega
          · by_cases z : M 128 p = M 146 k
            · rw [if_pos z] at q3; omega
            · rw [if_neg z, if_pos x2] at q3; omega
        · have hx : zbt (M 128) (M 129) p (M 146 k) (zoth M p (M 146 k)) := by
            unfold zoth at q3 ⊢
            unfold zbt
            by_cases z : M 128 p = M 146 k
            · rw [if_pos z]; exact Or.inl ⟨z, rfl⟩
            · rw [if_neg z] at q3 ⊢
              by_cases z2 : M 129 p = M 146 k
              · rw [if_pos z2]; exact Or.inr ⟨rfl, z2⟩
              · rw [if_neg z2] at q3; exact absurd rfl q3
          generalize zoth M p (M 146 k) = w at q3 hx
          have hw : 0 ≤ w ∧ w < 16 := by
            unfold zbt at hx
            rcases hx with ⟨x1, x2⟩ | ⟨x1, x2⟩ <;> omega
          refine ⟨hw, fun q4 => ?_, fun q4 => ?_⟩
          · refine skip (fun _ u hu => ?_) q
            have : u = w := by
              unfold zbt at hu hx
              rcases hu with ⟨x1, x2⟩ | ⟨x1, x2⟩ <;> rcases hx with ⟨y1, y2⟩ | ⟨y1, y2⟩ <;> omega
            rw [this]; exact q4
          · obtain ⟨hon, hT'⟩ := zLB_add hT h2 ⟨h0, q⟩ q2 hw hx q4 hl.1.2.2
            have hN' := zNB_add hT hN h2 hw hx q4
            refine ⟨hv.1, by omega, ?_⟩
            rw [zw_id (x := p + 1) (by omega), zw_id (x := M 144 (M 146 k) + 1) (by omega), zw_id (x := M 123 31 + 1) (by omega)]
            generalize hM' : zset (zset (zset (zset (zset (zset M 142 w (M 142 (M 146 k))) 143 w p) 144 w (M 144 (M 146 k) + 1)) 148 p (M 146 k)) 146 (M 123 31) w) 123 31 (M 123 31 + 1) = M'
            have hL' : zL7 M0 M' := by rw [← hM']; exact zL7_s (zL7_s (zL7_s (zL7_s (zL7_s (zL7_s hL (by omega)) (by omega)) (by omega)) (by omega)) (by omega)) (by omega)
            have r : ∀ x : Int, x ≠ 142 → x ≠ 143 → x ≠ 144 → x ≠ 148 → x ≠ 146 → x ≠ 123 → M' x = M x := fun x g1 g2 g3 g4 g5 g6 => by
              rw [← hM', zrow_o _ g6, zrow_o _ g5, zrow_o _ g4, zrow_o _ g3, zrow_o _ g2, zrow_o _ g1]
            have s3 : M' 123 3 = M 123 3 := hL' 123 3 (by omega) (by omega) |>.trans (hL 123 3 (by omega) (by omega)).symm
            have s31 : M' 123 31 = M 123 31 + 1 := by rw [← hM', zrow_s, fset_s]
            have r2 : M' 142 = fset (M 142) w (M 142 (M 146 k)) := by rw [← hM', zrow_o _ (by decide), zrow_o _ (by decide), zrow_o _ (by decide), zrow_o _ (by decide), zrow_o _ (by decide), zrow_s]
            have r3 : M' 143 = fset (M 143) w p := by rw [← hM', zrow_o _ (by decide), zrow_o _ (by decide), zrow_o _ (by decide), zrow_o _ (by decide), zrow_s, zrow_o _ (by decide)]
            have r4 : M' 144 = fset (M 144) w (M 144 (M 146 k) + 1) := by rw [← hM', zrow_o _ (by decide), zrow_o _ (by decide), zrow_o _ (by decide), zrow_s, zrow_o _ (by decide), zrow_o _ (by decide)]
            have r8 : M' 148 = fset (M 148) p (M 146 k) := by rw [← hM', zrow_o _ (by decide), zrow_o _ (by decide), zrow_s, zrow_o _ (by decide), zrow_o _ (by decide), zrow_o _ (by decide)]
            have r6 : M' 146 = fset (M 146) (M 123 31) w := by rw [← hM', zrow_o _ (by decide), zrow_s, zrow_o _ (by decide), zrow_o _ (by decide), zrow_o _ (by decide), zrow_o _ (by decide)]
            have hbw : zBW M' k (p + 1) := by
              unfold zBW
              rw [s3, s31, r2, r3, r4, r8, r6, r 126 (by decide) (by decide) (by decide) (by decide) (by decide) (by decide), r 132 (by decide) (by decide) (by decide) (by decide) (by decide) (by decide), r 128 (by decide) (by decide) (by decide) (by decide) (by decide) (by decide), r 129 (by decide) (by decide) (by decide) (by decide) (by decide) (by decide), r 145 (by decide) (by decide) (by decide) (by decide) (by decide) (by decide), r 147 (by decide) (by decide) (by decide) (by decide) (by decide) (by decide)]
              exact ⟨hT', hN', hz5, hz7⟩
            have := ih.1 M' k (p + 1) (by omega) (by omega) (by rw [s3]; omega) (by rw [s31]; omega) hL' hbw
            rwa [r6, fset_o _ (by omega)] at this
    · have hW' := zWN_L7 hW hL
      have hm := hW'.1
      obtain ⟨hT, hN, hz5, hz7⟩ := id hB
      obtain ⟨⟨a1, a2, a3⟩, b, c, d, e, f, g, j⟩ := id hT
      refine s118_133 ⟨fun q => ?_, fun q => ⟨by omega, ?_⟩⟩
      · rw [zw_id (by omega)]
        have hke : k = M 123 31 := by omega
        rw [hke] at hT
        have z5 : ∀ t, 0 ≤ t → t < M 123 31 → M 145 (M 146 t) = 0 := fun t g1 g2 => hz5 _ (b t g1 g2).1.1 (b t g1 g2).1.2
        have zs : ∀ x, zsum (fun l => if M 148 l = x then M 147 l else 0) 24 = 0 := fun x => zsum_0 24 (fun t ht => by
          split
          · exact hz7 t (by omega) (by omega)
          · rfl)
        refine c118_d hQ hW (M 123 31).toNat M (M 123 31 - 1) (by omega) hL hT hN (by omega) ⟨fun t g1 g2 => ⟨by rw [z5 t g1 (by omega), zs], fun g3 => ?_⟩, fun t g1 g2 g3 => by omega, fun l g1 g2 _ => hz7 l g1 g2, fun v g1 g2 _ => hz5 v g1 g2, fun v g1 g2 => by rw [hz5 v g1 g2]; omega, fun l g1 g2 => by rw [hz7 l g1 g2]; omega, ?_⟩
        · have := (g t g1 (by omega) g3).1
          exact hz7 _ (by omega) (by omega)
        · rw [zsum_0 _ (fun t ht => z5 t (by omega) (by omega))]
          omega
      · exact ih.1 M k 0 (by omega) (by omega) (by omega) q hL hB
/-- the start: the feeders -/
def zB0 (M : zM) (v : Int) : Prop :=
  (0 ≤ M 123 31 ∧ M 123 31 ≤ v)
  ∧ (∀ i, 0 ≤ i → i < M 123 31 → (0 ≤ M 146 i ∧ M 146 i < v) ∧ M 126 (M 146 i) = 1)
  ∧ (∀ i j, 0 ≤ i → i < M 123 31 → 0 ≤ j → j < M 123 31 → M 146 i = M 146 j → i = j)
  ∧ (∀ x, 0 ≤ x → x < v → M 126 x = 1 → (M 142 x = x ∧ M 143 x = -1 ∧ M 144 x = 0) ∧ ∃ i, 0 ≤ i ∧ i < M 123 31 ∧ M 146 i = x)
  ∧ (∀ x, 0 ≤ x → x < v → ¬ M 126 x = 1 → M 142 x = -1 ∧ M 143 x = -1 ∧ M 144 x = -1)
  ∧ (∀ x, 0 ≤ x → x < v → M 145 x = 0)
theorem c118 (hW : zWN M0) (hQ : ∀ M', zL7 M0 M' → zLS M' → Q 0 M') : zF 118 Q [(2, 123)] M0 := by
  have loop2 : ∀ (n : Nat) (M : zM) (v : Int), v + n = 24 → 0 ≤ v → zL7 M0 M → zB0 M 16 → (∀ l, 0 ≤ l → l < v → M 147 l = 0 ∧ M 148 l = -1) → zS 118 Q 105 [(2, 123), (0, v), (3, 0), (3, 0), (3, 0)] [] M := by
    intro n
    induction n with
    | zero =>
      intro M v hn h0 hL hB hz
      refine s118_105 ⟨fun q => ?_, fun q => absurd q (by omega)⟩
      obtain ⟨b1, b2, b3, b4, b5, b6⟩ := hB
      refine (c118_w hQ hW 600).2 M 0 (by omega) hL ⟨⟨by omega, fun i g1 g2 => ?_, b3, fun x g1 g2 g3 => ?_, fun x g1 g2 g3 => (b4 x g1 g2 g3).1, fun x g1 g2 g3 _ => (b5 x g1 g2 g3).2, fun i g1 g2 g3 => absurd (b2 i g1 g2).2 g3, fun i l u g1 g2 g3 g4 g5 g6 => by omega⟩, ⟨fun i g1 g2 g3 => absurd (b2 i g1 g2).2 g3, fun l g1 g2 g3 => absurd (hz l g1 (by omega)).2 g3⟩, b6, fun l g1 g2 => (hz l g1 (by omega)).1⟩
      · have h1 := b2 i g1 g2
        have h2 := (b4 _ h1.1.1 h1.1.2 h1.2).1
        rw [h2.1, h2.2.2]
        exact ⟨h1.1, by omega, by omega, by omega⟩
      · by_cases z : M 126 x = 1
        · have h2 := b4 x g1 g2 z
          rw [h2.1.1]
          exact ⟨⟨g1, g2, z⟩, h2.2⟩
        · exact absurd (b5 x g1 g2 z).1 g3
    | succ n ih =>
      intro M v hn h0 hL hB hz
      refine s118_105 ⟨fun q => absurd q (by omega), fun q => ⟨⟨h0, q⟩, ?_⟩⟩
      rw [zw_id (by omega)]
      have r : ∀ x : Int, x ≠ 147 → x ≠ 148 → zset (zset M 147 v 0) 148 v (-1) x = M x := fun x g1 g2 => by rw [zrow_o _ g2, zrow_o _ g1]
      refine ih _ (v + 1) (by omega) (by omega) (zL7_s (zL7_s hL (by omega)) (by omega)) ?_ (fun l g1 g2 => ?_)
      · unfold zB0
        rw [r 123 (by decide) (by decide), r 126 (by decide) (by decide), r 142 (by decide) (by decide), r 143 (by decide) (by decide), r 144 (by decide) (by decide), r 145 (by decide) (by decide), r 146 (by decide) (by decide)]
        exact hB
      · rw [zrow_o _ (by decide), zrow_s, zrow_s, zrow_o _ (by decide)]
        by_cases z : l = v
        · rw [z, fset_s, fset_s]; exact ⟨rfl, rfl⟩
        · rw [fset_o _ z, fset_o _ z]; exact hz l g1 (by omega)
  have loop1 : ∀ (n : Nat) (M : zM) (v : Int), v + n = 16 → 0 ≤ v → zL7 M0 M → zB0 M v → zS 118 Q 7 [(2, 123), (0, v), (3, 0), (3, 0), (3, 0)] [] M := by
    intro n
    induction n with
    | zero =>
      intro M v hn h0 hL hB
      refine s118_7 ⟨fun q => ?_, fun q => absurd q (by omega)⟩
      have e : v = 16 := by omega
      rw [e] at hB
      exact loop2 24 M 0 (by omega) (by omega) hL hB (fun l g1 g2 => by omega)
    | succ n ih =>
      intro M v hn h0 hL hB
      obtain ⟨b1, b2, b3, b4, b5, b6⟩ := hB
      refine s118_7 ⟨fun q => absurd q (by omega), fun q => ⟨⟨h0, q⟩, fun q2 => ?_, fun q2 => ⟨by omega, ?_⟩⟩⟩
      · rw [zw_id (by omega)]
        generalize hM' : zset (zset (zset (zset M 142 v (-1)) 143 v (-1)) 144 v (-1)) 145 v 0 = M'
        have r : ∀ x : Int, x ≠ 142 → x ≠ 143 → x ≠ 144 → x ≠ 145 → M' x = M x := fun x g1 g2 g3 g4 => by rw [← hM', zrow_o _ g4, zrow_o _ g3, zrow_o _ g2, zrow_o _ g1]
        have r2 : M' 142 = fset (M 142) v (-1) := by rw [← hM', zrow_o _ (by decide), zrow_o _ (by decide), zrow_o _ (by decide), zrow_s]
        have r3 : M' 143 = fset (M 143) v (-1) := by rw [← hM', zrow_o _ (by decide), zrow_o _ (by decide), zrow_s, zrow_o _ (by decide)]
        have r4 : M' 144 = fset (M 144) v (-1) := by rw [← hM', zrow_o _ (by decide), zrow_s, zrow_o _ (by decide), zrow_o _ (by decide)]
        have r5 : M' 145 = fset (M 145) v 0 := by rw [← hM', zrow_s, zrow_o _ (by decide), zrow_o _ (by decide), zrow_o _ (by decide)]
        refine ih M' (v + 1) (by omega) (by omega) (by rw [← hM']; exact zL7_s (zL7_s (zL7_s (zL7_s hL (by omega)) (by omega)) (by omega)) (by omega)) ?_
        unfold zB0
        rw [r2, r3, r4, r5, r 123 (by decide) (by decide) (by decide) (by decide), r 126 (by decide) (by decide) (by decide) (by decide), r 146 (by decide) (by decide) (by decide) (by decide)]
        refine ⟨by omega, fun i g1 g2 => ⟨by have := (b2 i g1 g2).1; omega, (b2 i g1 g2).2⟩, b3, fun x g1 g2 g3 => ?_, fun x g1 g2 g3 => ?_, fun x g1 g2 => ?_⟩
        · have z : x ≠ v := fun z => q2 (by rw [← z]; exact g3)
          rw [fset_o _ z, fset_o _ z, fset_o _ z]
          exact b4 x g1 (by omega) g3
        · by_cases z : x = v
          · rw [z, fset_s, fset_s, fset_s]; exact ⟨rfl, rfl, rfl⟩
          · rw [fset_o _ z, fset_o _ z, fset_o _ z]; exact b5 x g1 (by omega) g3
        · by_cases z : x = v
          · rw [z, fset_s]
          · rw [fset_o _ z]; exact b6 x g1 (by omega)
      · rw [zw_id (x := v + 1) (by omega), zw_id (x := M 123 31 + 1) (by omega)]
        generalize hM' : zset (zset (zset (zset (zset (zset M 142 v v) 143 v (-1)) 144 v 0) 145 v 0) 146 (M 123 31) v) 123 31 (M 123 31 + 1) = M'
        have r6' : M' 126 = M 126 := by rw [← hM', zrow_o _ (by decide), zrow_o _ (by decide), zrow_o _ (by decide), zrow_o _ (by decide), zrow_o _ (by decide), zrow_o _ (by decide)]
        have s31 : M' 123 31 = M 123 31 + 1 := by rw [← hM', zrow_s, fset_s]
        have r2 : M' 142 = fset (M 142) v v := by rw [← hM', zrow_o _ (by decide), zrow_o _ (by decide), zrow_o _ (by decide), zrow_o _ (by decide), zrow_o _ (by decide), zrow_s]
        have r3 : M' 143 = fset (M 143) v (-1) := by rw [← hM', zrow_o _ (by decide), zrow_o _ (by decide), zrow_o _ (by decide), zrow_o _ (by decide), zrow_s, zrow_o _ (by decide)]
        have r4 : M' 144 = fset (M 144) v 0 := by rw [← hM', zrow_o _ (by decide), zrow_o _ (by decide), zrow_o _ (by decide), zrow_s, zrow_o _ (by decide), zrow_o _ (by decide)]
        have r5 : M' 145 = fset (M 145) v 0 := by rw [← hM', zrow_o _ (by decide), zrow_o _ (by decide), zrow_s, zrow_o _ (by decide), zrow_o _ (by decide), zrow_o _ (by decide)]
        have r6 : M' 146 = fset (M 146) (M 123 31) v := by rw [← hM', zrow_o _ (by decide), zrow_s, zrow_o _ (by decide), zrow_o _ (by decide), zrow_o _ (by decide), zrow_o _ (by decide)]
        refine ih M' (v + 1) (by omega) (by omega) (by rw [← hM']; exact zL7_s (zL7_s (zL7_s (zL7_s (zL7_s (zL7_s hL (by omega)) (by omega)) (by omega)) (by omega)) (by omega)) (by omega)) ?_
        unfold zB0
        rw [r6', s31, r2, r3, r4, r5, r6]
        refine ⟨by omega, fun i g1 g2 => ?_, fun i j g1 g2 g3 g4 g5 => ?_, fun x g1 g2 g3 => ?_, fun x g1 g2 g3 => ?_, fun x g1 g2 => ?_⟩
        · by_cases z : i = M 123 31
          · rw [z, fset_s]; exact ⟨by omega, q2⟩
          · rw [fset_o _ z]; exact ⟨by have := (b2 i g1 (by omega)).1; omega, (b2 i g1 (by omega)).2⟩
        · by_cases z : i = M 123 31
          · by_cases z2 : j = M 123 31
            · omega
            · rw [z, fset_s, fset_o _ z2] at g5
              have := (b2 j g3 (by omega)).1
              omega
          · by_cases z2 : j = M 123 31
            · rw [z2, fset_s, fset_o _ z] at g5
              have := (b2 i g1 (by omega)).1
              omega
            · rw [fset_o _ z, fset_o _ z2] at g5
              exact b3 i j g1 (by omega) g3 (by omega) g5
        · by_cases z : x = v
          · rw [z, fset_s, fset_s, fset_s]
            exact ⟨⟨rfl, rfl, rfl⟩, M 123 31, by omega, by omega, fset_s _ _ _⟩
          · rw [fset_o _ z, fset_o _ z, fset_o _ z]
            obtain ⟨h1, i, h2, h3, h4⟩ := b4 x g1 (by omega) g3
            exact ⟨h1, i, h2, by omega, by rw [fset_o _ (by omega)]; exact h4⟩
        · have z : x ≠ v := fun z => g3 (by rw [z]; exact q2)
          rw [fset_o _ z, fset_o _ z, fset_o _ z]
          exact b5 x g1 (by omega) g3
        · by_cases z : x = v
          · rw [z, fset_s]
          · rw [fset_o _ z]; exact b6 x g1 (by omega)
  refine s118_0 (loop1 16 _ 0 (by omega) (by omega) (zL7_s zL7_r (by omega)) ⟨?_, ?_, ?_, fun x g1 g2 => by omega, fun x g1 g2 => by omega, fun x g1 g2 => by omega⟩)
  · rw [zrow_s, fset_s]; omega
  · intro i g1 g2; rw [zrow_s, fset_s] at g2; omega
  · intro i j g1 g2; rw [zrow_s, fset_s] at g2; omega
end LY2
