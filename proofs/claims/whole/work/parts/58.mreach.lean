/-! the reference's reach: becomes, meets -/
def mfx (M M' : zM) : Prop := ∀ a i : Int, ¬ (142 ≤ a ∧ a ≤ 158) → ¬ (a = 123 ∧ 31 ≤ i) → a ≠ 132 → M' a i = M a i
theorem mfx_r {M : zM} : mfx M M := fun _ _ _ _ _ => rfl
theorem mfx_t {M M' M'' : zM} (h : mfx M M') (g : mfx M' M'') : mfx M M'' := fun a i p q r => (g a i p q r).trans (h a i p q r)
theorem mfx_s {M M' : zM} {a i x : Int} (h : mfx M M') (ha : 142 ≤ a ∧ a ≤ 158 ∨ (a = 123 ∧ 31 ≤ i) ∨ a = 132) : mfx M (zset M' a i x) := fun b j p q r => by
  unfold zset
  rw [if_neg (fun z => by omega)]
  exact h b j p q r
theorem mfx_f {M M' : zM} (h : mfr M M') : mfx M M' := fun a i p q _ => h a i p q
theorem mfx_row {M M' : zM} (h : mfx M M') {a : Int} (ha : ¬ (142 ≤ a ∧ a ≤ 158)) (hb : a ≠ 123) (hc : a ≠ 132) : M' a = M a := funext fun i => h a i ha (by omega) hc
/-- all but the walk, and which lines are closed -/
def mbx (M M' : zM) : Prop := ∀ a i : Int, ¬ (142 ≤ a ∧ a ≤ 148) → ¬ (a = 123 ∧ i = 31) → a ≠ 132 → M' a i = M a i
theorem mbx_fx {M M' : zM} (h : mbx M M') : mfx M M' := fun a i p q r => h a i (by omega) (by omega) r
theorem tbs_sh1 {x k : Int} (hk : 0 ≤ k ∧ k < 32) : zand (zshr x k) 1 = 1 ↔ tbs x k := by
  rw [tb_shr hk.1 hk.2]
  unfold tbs
  by_cases q : tb x k = true
  · rw [if_pos q]; exact ⟨fun _ => ⟨hk, q⟩, fun _ => rfl⟩
  · rw [if_neg q]; exact ⟨fun z => absurd z (by decide), fun z => absurd z.2 q⟩
section BC
variable {Q : Int → zM → Prop} {M N : zM} {S : Int}
theorem c148 {S' : Int} (hW : pW N) (h : mN N S M) (hk : ∀ l, tbs S' l → l < N 4 2) (hd : pD N S') (hQ : ∀ M', mbx M M' → mN N S' M' → zLS M' → Q 0 M') : zF 148 Q [(2, 123), (0, S')] M := by
  have hm := hW.1
  have key : ∀ (n k : Nat) (M' : zM), ((k : Nat) : Int) + n = N 4 2 → (∀ a, a ≠ 132 → M' a = M a) → (∀ i, (k : Int) ≤ i → M' 132 i = M 132 i) → (∀ i, 0 ≤ i → i < (k : Int) → (tbs S' i ↔ M' 132 i = 1) ∧ (tbs (N 4 4) i ↔ M' 132 i = 2) ∧ 0 ≤ M' 132 i ∧ M' 132 i ≤ 2) → zS 148 Q 2 [(2, 123), (0, S'), (0, (k : Int))] [] M' := by
    intro n
    induction n with
    | zero =>
      intro k M' hk' hM h1 h2
      have hmN : mN N S' M' := by
        refine ⟨by rw [hM 123 (by decide)]; exact h.1, fun v a b => by rw [hM 126 (by decide), hM 127 (by decide)]; exact h.2.1 v a b, fun l a b => ?_⟩
        obtain ⟨w1, w2, w3, w4, w5⟩ := h.2.2 l a b
        rw [hM 128 (by decide), hM 129 (by decide), hM 130 (by decide), hM 131 (by decide)]
        exact ⟨w1, w2, w3, w4, h2 l a (by omega)⟩
      refine s148_2 ⟨fun _ => c118' hW hmN (fun M2 a1 a2 a3 => hQ M2 (fun a i p q r => by rw [a1 a i p q, hM a r]) a2 a3), fun q => ?_⟩
      rw [hM 123 (by decide), h.1] at q; omega
    | succ n ih =>
      intro k M' hk' hM h1 h2
      have w := (h.2.2 (k : Int) (by omega) (by omega)).2.2.2.2
      have h1k := h1 (k : Int) (by omega)
      have go : ∀ x : Int, (tbs S' k ↔ x = 1) → (tbs (N 4 4) k ↔ x = 2) → (0 ≤ x ∧ x ≤ 2) → zS 148 Q 2 [(2, 123), (0, S'), (0, zw ((k : Int) + 1))] [] (zset M' 132 (k : Int) x) := fun x y1 y2 y3 => by
        rw [zw_id (by omega)]
        refine ih (k + 1) _ (by omega) (fun a ha => by rw [zrow_o _ ha]; exact hM a ha) (fun i hi => ?_) (fun i i0 i1 => ?_)
        · rw [zrow_s, fset_o _ (by omega)]; exact h1 i (by omega)
        · rw [zrow_s]
          by_cases e : i = (k : Int)
          · rw [e, fset_s]; exact ⟨y1, y2, y3.1, y3.2⟩
          · rw [fset_o _ e]; exact h2 i i0 (by omega)
      refine s148_2 ⟨fun q => ?_, fun _ => ⟨by omega, fun q => ⟨fun q2 => ?_, fun q2 => ?_⟩, fun q => ?_⟩⟩
      · rw [hM 123 (by decide), h.1] at q; omega
      · rw [h1k] at q
        refine go 0 ⟨fun z => absurd ((tbs_sh1 (by omega)).mpr z) q2, fun z => by cases z⟩ ⟨fun z => absurd (w.2.1.mp z) q, fun z => by cases z⟩ (by omega)
      · rw [h1k] at q
        exact go 1 ⟨fun _ => rfl, fun _ => (tbs_sh1 (by omega)).mp q2⟩ ⟨fun z => absurd (w.2.1.mp z) q, fun z => by cases z⟩ (by omega)
      · rw [h1k] at q
        have hdk : tbs (N 4 4) k := w.2.1.mpr q
        exact go 2 ⟨fun z => absurd hdk (hd k z), fun z => by cases z⟩ ⟨fun _ => rfl, fun _ => hdk⟩ (by omega)
  refine s148_0 (key (N 4 2).toNat 0 M (by omega) (fun _ _ => rfl) (fun _ _ => rfl) (fun i a b => by omega))
theorem c147' (hW : pW N) (h : mN N S M) (hk : ∀ l, tbs S l → l < N 4 2) (hr : r32 S) (hQ : Q S M) : zF 147 Q [(2, 123)] M := by
  have hm := hW.1
  refine c147 (by rw [h.1]; exact hm) (fun r q => ?_)
  have : r = S := tb_ext q.1 hr (fun i i0 i1 => Bool.eq_iff_iff.mpr ?_)
  · rw [this]; exact hQ
  · rw [q.2 i i0 i1]
    constructor
    · rintro ⟨a, b⟩
      rw [h.1] at a
      exact ((h.2.2 i i0 a).2.2.2.2.1.mpr b).2
    · intro z
      have hz : tbs S i := ⟨⟨i0, i1⟩, z⟩
      have a := hk i hz
      exact ⟨by rw [h.1]; exact a, (h.2.2 i i0 a).2.2.2.2.1.mp hz⟩
/-- the shapes that were met -/
def mse (M : zM) (L : List Int) : Prop := M 123 40 = (L.length : Int) ∧ L.length ≤ 301 ∧ kro (M 154) 0 (L.take 300)
theorem mse_at {L : List Int} (h : mse M L) {i : Nat} (hi : i < L.length) (h3 : i < 300) : M 154 i = L[i] := by
  have := kro_at h.2.2 i (by rw [List.length_take]; omega)
  rw [Int.zero_add, List.getElem_take] at this
  exact this
theorem kro_of {r : Int → Int} : ∀ {L : List Int} {k : Int}, (∀ i : Nat, (h : i < L.length) → r (k + i) = L[i]) → kro r k L
  | [], _, _ => trivial
  | x :: L, k, h => ⟨by have := h 0 (by simp); rw [show k + ((0 : Nat) : Int) = k by omega] at this; exact this, kro_of (fun i hi => by
    have := h (i + 1) (by simp; omega)
    rw [show k + ((i + 1 : Nat) : Int) = k + 1 + i by omega] at this
    exact this)⟩
def mmf (M M' : zM) : Prop := ∀ a i : Int, a ≠ 154 → a ≠ 155 → ¬ (a = 123 ∧ i = 40) → M' a i = M a i
theorem c149 {L : List Int} {s f : Int} (hS : mse M L) (hQ : ∀ M', mmf M M' → mse M' (padd L s) → (∀ i, 0 ≤ i → i < (L.length : Int) → M' 155 i = M 155 i) → (L.length < (padd L s).length → L.length < 300 → M' 155 (L.length : Int) = f) → Q 0 M') : zF 149 Q [(2, 123), (0, s), (0, f)] M := by
  obtain ⟨a1, a2, a3⟩ := hS
  have old : padd L s = L → Q 0 M := fun e => by
    refine hQ M (fun _ _ _ _ _ => rfl) (by rw [e]; exact ⟨a1, a2, a3⟩) (fun _ _ _ => rfl) (fun z => ?_)
    rw [e] at z; omega
  have loop0 : padd L s = L → ∀ (n k : Nat), k + n = L.length → zS 149 Q 19 [(2, 123), (0, s), (0, f), (0, 0), (0, (k : Int))] [] M := by
    intro e n
    induction n with
    | zero =>
      intro k hk
      exact s149_19 ⟨fun _ => ⟨fun _ => old e, fun z => absurd rfl z⟩, fun q => by omega⟩
    | succ n ih =>
      intro k hk
      refine s149_19 ⟨fun q => by omega, fun _ => ⟨fun _ => ?_, fun z => absurd rfl z⟩⟩
      rw [zw_id (by omega)]
      exact ih (k + 1) (by omega)
  refine s149_0 ⟨fun q => ?_, fun q => ?_⟩
  · exact loop0 (padd_full (by omega)) L.length 0 (by omega)
  · have key : ∀ (n k : Nat), k + n = L.length → (∀ i : Nat, (h : i < L.length) → i < k → ¬ L[i] = s) → zS 149 Q 19 [(2, 123), (0, s), (0, f), (0, 1), (0, (k : Int))] [] M := by
      intro n
      induction n with
      | zero =>
        intro k hk hi
        have hn : s ∉ L := fun z => by
          obtain ⟨i, i1, i2⟩ := List.getElem_of_mem z
          exact hi i i1 (by omega) i2
        have hp : padd L s = L ++ [s] := by
          unfold padd
          rw [if_neg]
          rintro (z | z)
          · omega
          · exact hn z
        refine s149_19 ⟨fun _ => ⟨fun z => absurd z (by decide), fun _ => ⟨fun z => absurd z q, fun _ => ⟨fun z => ?_, fun z => ⟨by omega, ?_⟩⟩⟩⟩, fun z => by omega⟩
        · refine hQ _ (fun a i p1 p2 p3 => ?_) ?_ (fun i _ _ => by rw [zrow_o _ (by decide)]) (fun _ z2 => by omega)
          · unfold zset; rw [if_neg (fun y => p3 y)]
          · rw [hp]
            refine ⟨by rw [zrow_s, fset_s, zw_id (by omega), List.length_append, List.length_singleton]; omega, by rw [List.length_append, List.length_singleton]; omega, ?_⟩
            rw [zrow_o _ (by decide), List.take_append_of_le_length (by omega)]
            exact a3
        · generalize hM' : zset (zset (zset M 154 (M 123 40) s) 155 (M 123 40) f) 123 40 (zw (M 123 40 + 1)) = M'
          have r154 : M' 154 = fset (M 154) (L.length : Int) s := by rw [← hM', zrow_o _ (by decide), zrow_o _ (by decide), zrow_s, a1]
          have r155 : M' 155 = fset (M 155) (L.length : Int) f := by rw [← hM', zrow_o _ (by decide), zrow_s, zrow_o _ (by decide), a1]
          refine hQ M' (fun a i p1 p2 p3 => ?_) ?_ (fun i i0 i1 => by rw [r155, fset_o _ (by omega)]) (fun _ _ => by rw [r155, fset_s])
          · rw [← hM']; unfold zset; rw [if_neg (fun y => p3 y), if_neg (fun y => p2 y.1), if_neg (fun y => p1 y.1)]
          · rw [hp]
            refine ⟨by rw [← hM', zrow_s, fset_s, zw_id (by omega), List.length_append, List.length_singleton]; omega, by rw [List.length_append, List.length_singleton]; omega, ?_⟩
            rw [List.take_of_length_le (by rw [List.length_append, List.length_singleton]; omega), r154]
            rw [List.take_of_length_le (by omega)] at a3
            exact kro_push a3
      | succ n ih =>
        intro k hk hi
        have e154 := mse_at (M := M) (L := L) ⟨a1, a2, a3⟩ (i := k) (by omega) (by omega)
        refine s149_19 ⟨fun z => by omega, fun _ => ⟨fun z => absurd z (by decide), fun _ => ⟨by omega, fun z => ?_, fun z => ?_⟩⟩⟩
        · rw [e154] at z
          rw [zw_id (by omega)]
          refine loop0 ?_ n (k + 1) (by omega)
          unfold padd
          rw [if_pos (Or.inr (by rw [← z]; exact List.getElem_mem _))]
        · rw [e154] at z
          rw [zw_id (by omega)]
          refine ih (k + 1) (by omega) (fun i h1 h2 => ?_)
          by_cases e : i = k
          · subst e; exact z
          · exact hi i h1 (by omega)
    exact key L.length 0 (by omega) (fun i _ h => by omega)
end BC
