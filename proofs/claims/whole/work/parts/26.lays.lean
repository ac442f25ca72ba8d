/-! the reference's lays -/
theorem zsum_ch {f g : Int → Int} : ∀ (n a : Nat), a < n → (∀ i : Nat, i < n → i ≠ a → f i = g i) → zsum f n = zsum g n + (f a - g a)
  | 0, a, h, _ => by omega
  | n + 1, a, h, e => by
    unfold zsum
    by_cases q : a = n
    · subst q
      rw [zsum_congr (f := f) (g := g) a (fun i hi => e i (by omega) (by omega))]
      omega
    · rw [zsum_ch n a (by omega) (fun i hi hn => e i (by omega) hn), e n (by omega) (by omega)]
      omega
/-- all but what lays writes -/
def zL7 (M M' : zM) : Prop := ∀ a i : Int, ¬ (142 ≤ a ∧ a ≤ 148) → ¬ (a = 123 ∧ i = 31) → M' a i = M a i
theorem zL7_r {M : zM} : zL7 M M := fun _ _ _ _ => rfl
theorem zL7_t {M M' M'' : zM} (h : zL7 M M') (g : zL7 M' M'') : zL7 M M'' := fun a i p q => (g a i p q).trans (h a i p q)
theorem zL7_s {M M' : zM} {a i x : Int} (h : zL7 M M') (ha : 142 ≤ a ∧ a ≤ 148 ∨ (a = 123 ∧ i = 31)) : zL7 M (zset M' a i x) := fun b j p q => by
  unfold zset
  rw [if_neg (fun z => by omega)]
  exact h b j p q
/-- a net as it must be -/
def zWN (M : zM) : Prop :=
  (0 ≤ M 123 3 ∧ M 123 3 ≤ 24)
  ∧ (∀ v, 0 ≤ v → v < 16 → (0 ≤ M 126 v ∧ M 126 v ≤ 2) ∧ (0 ≤ M 127 v ∧ M 127 v ≤ 99))
  ∧ (∀ l, 0 ≤ l → l < M 123 3 → ((0 ≤ M 128 l ∧ M 128 l < 16) ∧ (0 ≤ M 129 l ∧ M 129 l < 16) ∧ ¬ M 128 l = M 129 l) ∧ (1 ≤ M 130 l ∧ M 130 l ≤ 99) ∧ (0 ≤ M 131 l ∧ M 131 l ≤ 999) ∧ (0 ≤ M 132 l ∧ M 132 l ≤ 2))
theorem zWN_L7 {M M' : zM} (h : zWN M) (g : zL7 M M') : zWN M' := by
  obtain ⟨a, b, c⟩ := h
  have e3 : M' 123 3 = M 123 3 := g 123 3 (by omega) (by omega)
  have er : ∀ r, 126 ≤ r → r ≤ 132 → ∀ i, M' r i = M r i := fun r h1 h2 i => g r i (by omega) (by omega)
  refine ⟨by rw [e3]; exact a, fun v h0 h1 => ?_, fun l h0 h1 => ?_⟩
  · rw [er 126 (by omega) (by omega), er 127 (by omega) (by omega)]; exact b v h0 h1
  · rw [er 128 (by omega) (by omega), er 129 (by omega) (by omega), er 130 (by omega) (by omega), er 131 (by omega) (by omega), er 132 (by omega) (by omega)]
    exact c l h0 (by omega)
/-- the place nearer to the feeder, of each line by which a place hangs -/
def zNB (ki fi se by' ro ne : Int → Int) (on : Int) : Prop :=
  (∀ i, 0 ≤ i → i < on → ¬ ki (ro i) = 1 → zbt fi se (by' (ro i)) (ne (by' (ro i))) (ro i) ∧ ∃ j, 0 ≤ j ∧ j < i ∧ ne (by' (ro i)) = ro j)
  ∧ ∀ l, 0 ≤ l → l < 24 → ¬ ne l = -1 → ∃ i, 0 ≤ i ∧ i < on ∧ ¬ ki (ro i) = 1 ∧ by' (ro i) = l
theorem zNB_add {ki is fi se : Int → Int} {m : Int} {fe by' de ro ne : Int → Int} {on k p w : Int} (h : zLB ki is fi se m fe by' de ro on k p) (hN : zNB ki fi se by' ro ne on) (hk : k < on) (hw : 0 ≤ w ∧ w < 16) (hb : zbt fi se p (ro k) w) (hu : fe w = -1) : zNB ki fi se (fset by' w p) (fset ro on w) (fset ne p (ro k)) (on + 1) := by
  obtain ⟨⟨a1, a2, a3⟩, b, c, d, e, f, g, j⟩ := h
  have hwr : ∀ i, 0 ≤ i → i < on → ro i ≠ w := fun i h0 h1 q => (b i h0 h1).2.1 (by rw [q]; exact hu)
  have hkw : ¬ ki w = 1 := fun q => by have := (e w hw.1 hw.2 q).1; omega
  have hnp : ∀ i, 0 ≤ i → i < on → ¬ ki (ro i) = 1 → by' (ro i) ≠ p := by
    intro i h0 h1 q z
    obtain ⟨n1, j2, n2, n3, n4⟩ := hN.1 i h0 h1 q
    rw [z] at n1 n4
    have hi := hwr i h0 h1
    have hj := hwr j2 n2 (by omega)
    have hkk := hwr k a1 hk
    unfold zbt at n1 hb
    rcases n1 with ⟨x1, x2⟩ | ⟨x1, x2⟩ <;> rcases hb with ⟨y1, y2⟩ | ⟨y1, y2⟩ <;> omega
  refine ⟨fun i h0 h1 q => ?_, fun l h0 h1 q => ?_⟩
  · by_cases z : i = on
    · rw [z, fset_s, fset_s, fset_s]
      exact ⟨hb, k, a1, hk, (fset_o _ (by omega)).symm⟩
    · have hi : i < on := by omega
      rw [fset_o _ z] at q ⊢
      rw [fset_o _ (hwr i h0 hi), fset_o _ (hnp i h0 hi q)]
      obtain ⟨n1, j2, n2, n3, n4⟩ := hN.1 i h0 hi q
      exact ⟨n1, j2, n2, n3, by rw [fset_o _ (by omega)]; exact n4⟩
  · by_cases z : l = p
    · exact ⟨on, by omega, by omega, by rw [fset_s]; exact hkw, by rw [fset_s, fset_s]; exact z.symm⟩
    · rw [fset_o _ z] at q
      obtain ⟨i, h2, h3, h4, h5⟩ := hN.2 l h0 h1 q
      exact ⟨i, h2, by omega, by rw [fset_o _ (by omega)]; exact h4, by rw [fset_o _ (by omega : i ≠ on), fset_o _ (hwr i h2 h3)]; exact h5⟩
/-- what hangs below, line by line -/
def zFS (ki lo is fi se : Int → Int) (m : Int) (fe by' be fl ne : Int → Int) : Prop :=
  (∀ v, 0 ≤ v → v < 16 → ¬ fe v = -1 → be v = (if ki v = 2 then lo v else 0) + zsum (fun l => if ne l = v then fl l else 0) 24)
  ∧ (∀ v, 0 ≤ v → v < 16 → ¬ fe v = -1 → ¬ ki v = 1 → fl (by' v) = be v ∧ zbt fi se (by' v) (ne (by' v)) v ∧ (0 ≤ ne (by' v) ∧ ne (by' v) < 16))
  ∧ (∀ l, 0 ≤ l → l < 24 → (ne l = -1 → fl l = 0) ∧ (¬ ne l = -1 → ∃ v, (0 ≤ v ∧ v < 16) ∧ ¬ fe v = -1 ∧ ¬ ki v = 1 ∧ by' v = l))
  ∧ (∀ v, 0 ≤ v → v < 16 → fe v = -1 → be v = 0)
  ∧ (∀ v, 0 ≤ v → v < 16 → 0 ≤ be v ∧ be v ≤ 1584) ∧ (∀ l, 0 ≤ l → l < 24 → 0 ≤ fl l ∧ fl l ≤ 1584)
def zLS (M : zM) : Prop := zTS (M 126) (M 132) (M 128) (M 129) (M 123 3) (M 142) (M 143) (M 144) ∧ zFS (M 126) (M 127) (M 132) (M 128) (M 129) (M 123 3) (M 142) (M 143) (M 145) (M 147) (M 148)
/-- the way back, from the far ends: those behind i are done -/
def zBK (ki lo fi se fe by' ro be fl ne : Int → Int) (on i : Int) : Prop :=
  (∀ j, 0 ≤ j → j ≤ i → be (ro j) = zsum (fun l => if ne l = ro j then fl l else 0) 24 ∧ (¬ ki (ro j) = 1 → fl (by' (ro j)) = 0))
  ∧ (∀ j, i < j → 0 ≤ j → j < on → be (ro j) = (if ki (ro j) = 2 then lo (ro j) else 0) + zsum (fun l => if ne l = ro j then fl l else 0) 24 ∧ (¬ ki (ro j) = 1 → fl (by' (ro j)) = be (ro j)))
  ∧ (∀ l, 0 ≤ l → l < 24 → ne l = -1 → fl l = 0)
  ∧ (∀ v, 0 ≤ v → v < 16 → fe v = -1 → be v = 0)
  ∧ (∀ v, 0 ≤ v → v < 16 → 0 ≤ be v ∧ be v ≤ 1584) ∧ (∀ l, 0 ≤ l → l < 24 → 0 ≤ fl l ∧ fl l ≤ 1584)
  ∧ zsum (fun j => be (ro j)) (i + 1).toNat ≤ 99 * (on - 1 - i)
section LY
variable {Q : Int → zM → Prop} {M0 : zM}
/-- the last loop -/
theorem c118_d (hQ : ∀ M', zL7 M0 M' → zLS M' → Q 0 M') (hW : zWN M0) : ∀ (n : Nat) (M : zM) (i : Int), i + 1 = n → zL7 M0 M → zLB (M 126) (M 132) (M 128) (M 129) (M 123 3) (M 142) (M 143) (M 144) (M 146) (M 123 31) (M 123 31) 0 → zNB (M 126) (M 128) (M 129) (M 143) (M 146) (M 148) (M 123 31) → i < M 123 31 → zBK (M 126) (M 127) (M 128) (M 129) (M 142) (M 143) (M 146) (M 145) (M 147) (M 148) (M 123 31) i → zS 118 Q 280 [(2, 123), (0, i), (3, 0), (3, 0), (3, 0)] [] M := by
  intro n
  induction n with
  | zero =>
    intro M i hi hL hB hN hio hK
    refine s118_280 ⟨fun _ => hQ M hL ⟨zLB_TS hB, ?_⟩, fun q => absurd hi (by omega)⟩
    obtain ⟨k1, k2, k3, k4, k5, k6, k7⟩ := hK
    obtain ⟨a, b, c, d, e, f, g, j⟩ := hB
    refine ⟨fun v h0 h1 q => ?_, fun v h0 h1 q q2 => ?_, fun l h0 h1 => ⟨k3 l h0 h1, fun q => ?_⟩, k4, k5, k6⟩
    · obtain ⟨d1, t, d2, d3, d4⟩ := d v h0 h1 q
      have := (k2 t (by omega) d2 d3).1
      rw [d4] at this
      exact this
    · obtain ⟨d1, t, d2, d3, d4⟩ := d v h0 h1 q
      have h2 := (k2 t (by omega) d2 d3).2
      have h3 := hN.1 t d2 d3
      rw [d4] at h2 h3
      obtain ⟨n1, j2, n2, n3, n4⟩ := h3 q2
      have hb := (b j2 n2 (by omega)).1
      exact ⟨h2 q2, n1, by rw [n4]; exact hb⟩
    · obtain ⟨t, h2, h3, h4, h5⟩ := hN.2 l h0 h1 q
      have hb := b t h2 h3
      exact ⟨M 146 t, hb.1, hb.2.1, h4, h5⟩
  | succ n ih =>
    intro M i hi hL hB hN hio hK
    sorry
end LY
